section
-- ===== PART A: goes FIRST, ahead of the names: the tables' words, and 'selects' of the private methods out of them =====
/-- a private method of a class that the tables say can be made, by its rows of tables_1 -/
def lw_okq (q : MethodName × Nat) : Prop := (q.1.cls ≠ "java/lang/invoke/MethodHandle" ∧ q.1.cls ≠ "java/lang/invoke/VarHandle") ∧ Cond.instantiable q.1.cls q.2 ∈ tables_1 ∧ Cond.privateMethod q.1 ∈ tables_1 ∧ Cond.instanceMethod q.1 ∈ tables_1
theorem lw_p0 : lw_okq (⟨"OnePlaceEach$Chain", "weighAllWords", "()V"⟩, 5) := ⟨⟨by decide +kernel, by decide +kernel⟩, List.mem_of_getElem? (i := 16) (by decide +kernel), List.mem_of_getElem? (i := 26) (by decide +kernel), List.mem_of_getElem? (i := 27) (by decide +kernel)⟩
theorem lw_p1 : lw_okq (⟨"OnePlaceEach$Chain", "weigh", "(II)J"⟩, 5) := ⟨⟨by decide +kernel, by decide +kernel⟩, List.mem_of_getElem? (i := 16) (by decide +kernel), List.mem_of_getElem? (i := 30) (by decide +kernel), List.mem_of_getElem? (i := 31) (by decide +kernel)⟩
theorem lw_p2 : lw_okq (⟨"OnePlaceEach$Chain", "weightOfWord", "(II)J"⟩, 5) := ⟨⟨by decide +kernel, by decide +kernel⟩, List.mem_of_getElem? (i := 16) (by decide +kernel), List.mem_of_getElem? (i := 37) (by decide +kernel), List.mem_of_getElem? (i := 38) (by decide +kernel)⟩
theorem lw_p3 : lw_okq (⟨"OnePlaceEach$Chain", "rateIn", "()J"⟩, 5) := ⟨⟨by decide +kernel, by decide +kernel⟩, List.mem_of_getElem? (i := 16) (by decide +kernel), List.mem_of_getElem? (i := 168) (by decide +kernel), List.mem_of_getElem? (i := 169) (by decide +kernel)⟩
theorem lw_p4 : lw_okq (⟨"OnePlaceEach$Chain", "rateOut", "()J"⟩, 5) := ⟨⟨by decide +kernel, by decide +kernel⟩, List.mem_of_getElem? (i := 16) (by decide +kernel), List.mem_of_getElem? (i := 172) (by decide +kernel), List.mem_of_getElem? (i := 173) (by decide +kernel)⟩
theorem lw_p5 : lw_okq (⟨"OnePlaceEach$Chain", "rateOfStep", "()J"⟩, 5) := ⟨⟨by decide +kernel, by decide +kernel⟩, List.mem_of_getElem? (i := 16) (by decide +kernel), List.mem_of_getElem? (i := 176) (by decide +kernel), List.mem_of_getElem? (i := 177) (by decide +kernel)⟩
theorem lw_p6 : lw_okq (⟨"OnePlaceEach$Stepped", "draw", "()I"⟩, 8) := ⟨⟨by decide +kernel, by decide +kernel⟩, List.mem_of_getElem? (i := 61) (by decide +kernel), List.mem_of_getElem? (i := 280) (by decide +kernel), List.mem_of_getElem? (i := 281) (by decide +kernel)⟩
theorem lw_p7 : lw_okq (⟨"OnePlaceEach$Stepped", "stepOnce", "(I)Z"⟩, 8) := ⟨⟨by decide +kernel, by decide +kernel⟩, List.mem_of_getElem? (i := 61) (by decide +kernel), List.mem_of_getElem? (i := 286) (by decide +kernel), List.mem_of_getElem? (i := 287) (by decide +kernel)⟩
theorem lw_p8 : lw_okq (⟨"OnePlaceEach$Stepped", "exchange", "(II)Z"⟩, 8) := ⟨⟨by decide +kernel, by decide +kernel⟩, List.mem_of_getElem? (i := 61) (by decide +kernel), List.mem_of_getElem? (i := 290) (by decide +kernel), List.mem_of_getElem? (i := 291) (by decide +kernel)⟩
theorem lw_p9 : lw_okq (⟨"OnePlaceEach$Stepped", "comeToFirstPlace", "()Z"⟩, 8) := ⟨⟨by decide +kernel, by decide +kernel⟩, List.mem_of_getElem? (i := 61) (by decide +kernel), List.mem_of_getElem? (i := 296) (by decide +kernel), List.mem_of_getElem? (i := 297) (by decide +kernel)⟩
theorem lw_p10 : lw_okq (⟨"OnePlaceEach$Stepped", "goFromLastPlace", "()Z"⟩, 8) := ⟨⟨by decide +kernel, by decide +kernel⟩, List.mem_of_getElem? (i := 61) (by decide +kernel), List.mem_of_getElem? (i := 300) (by decide +kernel), List.mem_of_getElem? (i := 301) (by decide +kernel)⟩
theorem lw_p11 : lw_okq (⟨"OnePlaceEach$Stepped", "stepOpenRow", "()V"⟩, 8) := ⟨⟨by decide +kernel, by decide +kernel⟩, List.mem_of_getElem? (i := 61) (by decide +kernel), List.mem_of_getElem? (i := 317) (by decide +kernel), List.mem_of_getElem? (i := 318) (by decide +kernel)⟩
theorem lw_p12 : lw_okq (⟨"OnePlaceEach$Stepped", "firstsWithFreeBehind", "()I"⟩, 8) := ⟨⟨by decide +kernel, by decide +kernel⟩, List.mem_of_getElem? (i := 61) (by decide +kernel), List.mem_of_getElem? (i := 321) (by decide +kernel), List.mem_of_getElem? (i := 322) (by decide +kernel)⟩
theorem lw_p13 : lw_okq (⟨"OnePlaceEach$Stepped", "allPlaces", "()I"⟩, 8) := ⟨⟨by decide +kernel, by decide +kernel⟩, List.mem_of_getElem? (i := 61) (by decide +kernel), List.mem_of_getElem? (i := 325) (by decide +kernel), List.mem_of_getElem? (i := 326) (by decide +kernel)⟩
theorem lw_p14 : lw_okq (⟨"OnePlaceEach$Stepped", "stepRing", "()V"⟩, 8) := ⟨⟨by decide +kernel, by decide +kernel⟩, List.mem_of_getElem? (i := 61) (by decide +kernel), List.mem_of_getElem? (i := 329) (by decide +kernel), List.mem_of_getElem? (i := 330) (by decide +kernel)⟩
theorem lw_p15 : lw_okq (⟨"OnePlaceEachModel", "fills", "()V"⟩, 13) := ⟨⟨by decide +kernel, by decide +kernel⟩, List.mem_of_getElem? (i := 346) (by decide +kernel), List.mem_of_getElem? (i := 352) (by decide +kernel), List.mem_of_getElem? (i := 353) (by decide +kernel)⟩
def lw_privs_1 : List (MethodName × Nat) := [(⟨"OnePlaceEach$Chain", "weighAllWords", "()V"⟩, 5), (⟨"OnePlaceEach$Chain", "weigh", "(II)J"⟩, 5), (⟨"OnePlaceEach$Chain", "weightOfWord", "(II)J"⟩, 5), (⟨"OnePlaceEach$Chain", "rateIn", "()J"⟩, 5), (⟨"OnePlaceEach$Chain", "rateOut", "()J"⟩, 5), (⟨"OnePlaceEach$Chain", "rateOfStep", "()J"⟩, 5), (⟨"OnePlaceEach$Stepped", "draw", "()I"⟩, 8), (⟨"OnePlaceEach$Stepped", "stepOnce", "(I)Z"⟩, 8), (⟨"OnePlaceEach$Stepped", "exchange", "(II)Z"⟩, 8), (⟨"OnePlaceEach$Stepped", "comeToFirstPlace", "()Z"⟩, 8), (⟨"OnePlaceEach$Stepped", "goFromLastPlace", "()Z"⟩, 8), (⟨"OnePlaceEach$Stepped", "stepOpenRow", "()V"⟩, 8), (⟨"OnePlaceEach$Stepped", "firstsWithFreeBehind", "()I"⟩, 8), (⟨"OnePlaceEach$Stepped", "allPlaces", "()I"⟩, 8), (⟨"OnePlaceEach$Stepped", "stepRing", "()V"⟩, 8), (⟨"OnePlaceEachModel", "fills", "()V"⟩, 13)]
theorem lw_r1 : ∀ q ∈ lw_privs_1, lw_okq q := List.forall_mem_cons.mpr ⟨lw_p0, List.forall_mem_cons.mpr ⟨lw_p1, List.forall_mem_cons.mpr ⟨lw_p2, List.forall_mem_cons.mpr ⟨lw_p3, List.forall_mem_cons.mpr ⟨lw_p4, List.forall_mem_cons.mpr ⟨lw_p5, List.forall_mem_cons.mpr ⟨lw_p6, List.forall_mem_cons.mpr ⟨lw_p7, List.forall_mem_cons.mpr ⟨lw_p8, List.forall_mem_cons.mpr ⟨lw_p9, List.forall_mem_cons.mpr ⟨lw_p10, List.forall_mem_cons.mpr ⟨lw_p11, List.forall_mem_cons.mpr ⟨lw_p12, List.forall_mem_cons.mpr ⟨lw_p13, List.forall_mem_cons.mpr ⟨lw_p14, List.forall_mem_cons.mpr ⟨lw_p15, fun _ h => absurd h List.not_mem_nil⟩⟩⟩⟩⟩⟩⟩⟩⟩⟩⟩⟩⟩⟩⟩⟩
theorem lw_p16 : lw_okq (⟨"OnePlaceEachModel", "weigh", "(II)J"⟩, 13) := ⟨⟨by decide +kernel, by decide +kernel⟩, List.mem_of_getElem? (i := 346) (by decide +kernel), List.mem_of_getElem? (i := 356) (by decide +kernel), List.mem_of_getElem? (i := 357) (by decide +kernel)⟩
theorem lw_p17 : lw_okq (⟨"OnePlaceEachModel", "isState", "(I)Z"⟩, 13) := ⟨⟨by decide +kernel, by decide +kernel⟩, List.mem_of_getElem? (i := 346) (by decide +kernel), List.mem_of_getElem? (i := 414) (by decide +kernel), List.mem_of_getElem? (i := 415) (by decide +kernel)⟩
theorem lw_p18 : lw_okq (⟨"OnePlaceEachModel", "sumOf", "(I)J"⟩, 13) := ⟨⟨by decide +kernel, by decide +kernel⟩, List.mem_of_getElem? (i := 346) (by decide +kernel), List.mem_of_getElem? (i := 423) (by decide +kernel), List.mem_of_getElem? (i := 424) (by decide +kernel)⟩
theorem lw_p19 : lw_okq (⟨"OnePlaceEachModel", "happens", "(II)J"⟩, 13) := ⟨⟨by decide +kernel, by decide +kernel⟩, List.mem_of_getElem? (i := 346) (by decide +kernel), List.mem_of_getElem? (i := 446) (by decide +kernel), List.mem_of_getElem? (i := 447) (by decide +kernel)⟩
theorem lw_p20 : lw_okq (⟨"OnePlaceEachModel", "isPlace", "(I)Z"⟩, 13) := ⟨⟨by decide +kernel, by decide +kernel⟩, List.mem_of_getElem? (i := 346) (by decide +kernel), List.mem_of_getElem? (i := 479) (by decide +kernel), List.mem_of_getElem? (i := 480) (by decide +kernel)⟩
theorem lw_p21 : lw_okq (⟨"OnePlaceEachModel", "changes", "(II)Z"⟩, 13) := ⟨⟨by decide +kernel, by decide +kernel⟩, List.mem_of_getElem? (i := 346) (by decide +kernel), List.mem_of_getElem? (i := 497) (by decide +kernel), List.mem_of_getElem? (i := 498) (by decide +kernel)⟩
theorem lw_p22 : lw_okq (⟨"OnePlaceEachModel", "comes", "()Z"⟩, 13) := ⟨⟨by decide +kernel, by decide +kernel⟩, List.mem_of_getElem? (i := 346) (by decide +kernel), List.mem_of_getElem? (i := 501) (by decide +kernel), List.mem_of_getElem? (i := 502) (by decide +kernel)⟩
theorem lw_p23 : lw_okq (⟨"OnePlaceEachModel", "goes", "()Z"⟩, 13) := ⟨⟨by decide +kernel, by decide +kernel⟩, List.mem_of_getElem? (i := 346) (by decide +kernel), List.mem_of_getElem? (i := 505) (by decide +kernel), List.mem_of_getElem? (i := 506) (by decide +kernel)⟩
def lw_privs_2 : List (MethodName × Nat) := [(⟨"OnePlaceEachModel", "weigh", "(II)J"⟩, 13), (⟨"OnePlaceEachModel", "isState", "(I)Z"⟩, 13), (⟨"OnePlaceEachModel", "sumOf", "(I)J"⟩, 13), (⟨"OnePlaceEachModel", "happens", "(II)J"⟩, 13), (⟨"OnePlaceEachModel", "isPlace", "(I)Z"⟩, 13), (⟨"OnePlaceEachModel", "changes", "(II)Z"⟩, 13), (⟨"OnePlaceEachModel", "comes", "()Z"⟩, 13), (⟨"OnePlaceEachModel", "goes", "()Z"⟩, 13)]
theorem lw_r2 : ∀ q ∈ lw_privs_2, lw_okq q := List.forall_mem_cons.mpr ⟨lw_p16, List.forall_mem_cons.mpr ⟨lw_p17, List.forall_mem_cons.mpr ⟨lw_p18, List.forall_mem_cons.mpr ⟨lw_p19, List.forall_mem_cons.mpr ⟨lw_p20, List.forall_mem_cons.mpr ⟨lw_p21, List.forall_mem_cons.mpr ⟨lw_p22, List.forall_mem_cons.mpr ⟨lw_p23, fun _ h => absurd h List.not_mem_nil⟩⟩⟩⟩⟩⟩⟩⟩
def lw_privs : List (MethodName × Nat) := lw_privs_1 ++ (lw_privs_2)
def lw_tbl : List Cond := k2_sels lw_privs ++ tables_1
theorem lw_privs_ok : ∀ q ∈ lw_privs, lw_okq q := by
  show ∀ q ∈ lw_privs_1 ++ (lw_privs_2), lw_okq q
  exact List.forall_mem_append.mpr ⟨lw_r1, lw_r2⟩
end
section
/-! ===== BEGIN words of one list among another's, by their places ===== -/
theorem goodIn_r {big : List Cond} (ws : List Cond) (ps : List Nat) (hp : ws = ps.filterMap (fun i => big[i]?)) (h : ws.all goodWord = true) : GoodIn big ws := by
  intro w hw
  have h1 := List.all_eq_true.mp h w hw
  rw [hp] at hw
  obtain ⟨i, -, hi⟩ := List.mem_filterMap.mp hw
  have hm : w ∈ big := by first | exact List.mem_of_getElem? hi | exact List.getElem?_mem hi
  exact ⟨hm, good_of_word h1⟩
theorem goodIn_app {big a b : List Cond} (ha : GoodIn big a) (hb : GoodIn big b) : GoodIn big (a ++ b) := fun w h => (List.mem_append.mp h).elim (ha w) (hb w)
theorem goodIn_ca {big a b : List Cond} {c : Cond} (ha : GoodIn big (c :: a)) (hb : GoodIn big b) : GoodIn big (c :: (a ++ b)) := fun w h => (List.mem_cons.mp h).elim (fun e => ha w (List.mem_cons.mpr (Or.inl e))) (fun h => (List.mem_append.mp h).elim (fun h => ha w (List.mem_cons.mpr (Or.inr h))) (hb w))
theorem goodIn_sub {big ws : List Cond} (hm : ∀ w ∈ ws, w ∈ big) (h : ws.all goodWord = true) : GoodIn big ws := fun w hw => ⟨hm w hw, good_of_word (List.all_eq_true.mp h w hw)⟩
/-! ===== END ===== -/

/-! ===== BEGIN printed: names, fields, word lists, decode rows ===== -/
def RX0 : String := "OnePlaceEach$Chain"
def TX0 : u_T := fun k => match k with
  | 0 => ("OnePlaceEach$Chain", "weights", "[J", true)
  | 1 => ("OnePlaceEach$Chain", "sums", "[J", true)
  | 2 => ("OnePlaceEach$Chain", "places", "I", false)
  | 3 => ("OnePlaceEach$Chain", "x", "I", false)
  | _ => ("OnePlaceEach$Chain", "y", "I", false)
def tyX0 : Nat → FieldType := fun k => match k with
  | 0 => .array .long
  | 1 => .array .long
  | 2 => .int
  | 3 => .int
  | _ => .int
abbrev wsX00 : List Cond := u_ws RX0 TX0 5
theorem nmX0 : ∀ a, a < 5 → ∀ b, b < 5 → a ≠ b → (TX0 a).2.1 ≠ (TX0 b).2.1 := by decide +kernel
theorem tyX0_ok : ∀ k, k < 5 → parseFieldDescriptor (TX0 k).2.2.1 = some (tyX0 k) := by decide +kernel
abbrev cX0_init : ByteArray := prog_2_method_1_code
def yX0_init : MethodName := ⟨RX0, "<init>", "()V"⟩
abbrev cX0_become : ByteArray := prog_2_method_2_code
def yX0_become : MethodName := ⟨RX0, "become", "(III)V"⟩
abbrev cX0_countPlaces : ByteArray := prog_2_method_3_code
def yX0_countPlaces : MethodName := ⟨RX0, "countPlaces", "()I"⟩
abbrev cX0_countStates : ByteArray := prog_2_method_4_code
def yX0_countStates : MethodName := ⟨RX0, "countStates", "()I"⟩
abbrev cX0_hasState : ByteArray := prog_2_method_5_code
def yX0_hasState : MethodName := ⟨RX0, "hasState", "(I)Z"⟩
abbrev cX0_weightOf : ByteArray := prog_2_method_6_code
def yX0_weightOf : MethodName := ⟨RX0, "weightOf", "(I)J"⟩
abbrev cX0_sumOf : ByteArray := prog_2_method_7_code
def yX0_sumOf : MethodName := ⟨RX0, "sumOf", "(I)J"⟩
abbrev cX0_sumWithTaken : ByteArray := prog_2_method_8_code
def yX0_sumWithTaken : MethodName := ⟨RX0, "sumWithTaken", "(I)J"⟩
abbrev cX0_flowInto : ByteArray := prog_2_method_9_code
def yX0_flowInto : MethodName := ⟨RX0, "flowInto", "(I)J"⟩
abbrev cX0_flowOutOf : ByteArray := prog_2_method_10_code
def yX0_flowOutOf : MethodName := ⟨RX0, "flowOutOf", "(I)J"⟩
abbrev cX0_heaviestState : ByteArray := prog_2_method_11_code
def yX0_heaviestState : MethodName := ⟨RX0, "heaviestState", "()I"⟩
abbrev cX0_lightestState : ByteArray := prog_2_method_12_code
def yX0_lightestState : MethodName := ⟨RX0, "lightestState", "()I"⟩
abbrev cX0_rateIn : ByteArray := prog_2_method_13_code
def yX0_rateIn : MethodName := ⟨RX0, "rateIn", "()J"⟩
abbrev cX0_rateOut : ByteArray := prog_2_method_14_code
def yX0_rateOut : MethodName := ⟨RX0, "rateOut", "()J"⟩
abbrev cX0_rateOfStep : ByteArray := prog_2_method_15_code
def yX0_rateOfStep : MethodName := ⟨RX0, "rateOfStep", "()J"⟩
abbrev cX0_weighAllWords : ByteArray := prog_2_method_16_code
def yX0_weighAllWords : MethodName := ⟨RX0, "weighAllWords", "()V"⟩
abbrev cX0_weigh : ByteArray := prog_2_method_17_code
def yX0_weigh : MethodName := ⟨RX0, "weigh", "(II)J"⟩
abbrev cX0_lastOfLeadingTaken : ByteArray := prog_2_method_18_code
def yX0_lastOfLeadingTaken : MethodName := ⟨RX0, "lastOfLeadingTaken", "(II)I"⟩
abbrev cX0_weightOfWord : ByteArray := prog_2_method_19_code
def yX0_weightOfWord : MethodName := ⟨RX0, "weightOfWord", "(II)J"⟩
def RX1 : String := "OnePlaceEach$Rings"
def TX1 : u_T := fun k => match k with
  | _ => ("", "", "", false)
def tyX1 : Nat → FieldType := fun k => match k with
  | _ => .int
abbrev wsX10 : List Cond := u_ws RX1 TX1 0
theorem nmX1 : ∀ a, a < 0 → ∀ b, b < 0 → a ≠ b → (TX1 a).2.1 ≠ (TX1 b).2.1 := by decide +kernel
theorem tyX1_ok : ∀ k, k < 0 → parseFieldDescriptor (TX1 k).2.2.1 = some (tyX1 k) := by decide +kernel
abbrev cX1_areRows : ByteArray := prog_3_method_2_code
def yX1_areRows : MethodName := ⟨RX1, "areRows", "(III)Z"⟩
abbrev cX1_servedPlaces : ByteArray := prog_3_method_3_code
def yX1_servedPlaces : MethodName := ⟨RX1, "servedPlaces", "(III)I"⟩
abbrev cX1_firstFrom : ByteArray := prog_3_method_4_code
def yX1_firstFrom : MethodName := ⟨RX1, "firstFrom", "(III)I"⟩
abbrev cX1_numberOf : ByteArray := prog_3_method_5_code
def yX1_numberOf : MethodName := ⟨RX1, "numberOf", "(III)I"⟩
abbrev cX1_greatestNumber : ByteArray := prog_3_method_6_code
def yX1_greatestNumber : MethodName := ⟨RX1, "greatestNumber", "(I)I"⟩
abbrev cX1_placesOfSort : ByteArray := prog_3_method_7_code
def yX1_placesOfSort : MethodName := ⟨RX1, "placesOfSort", "(III)I"⟩
abbrev cX1_countUpperRows : ByteArray := prog_3_method_8_code
def yX1_countUpperRows : MethodName := ⟨RX1, "countUpperRows", "(III)I"⟩
def RX2 : String := "OnePlaceEach$Stepped"
def TX2 : u_T := fun k => match k with
  | 0 => ("OnePlaceEach$Stepped", "places", "I", false)
  | 1 => ("OnePlaceEach$Stepped", "open", "Z", false)
  | 2 => ("OnePlaceEach$Stepped", "firsts", "I", false)
  | 3 => ("OnePlaceEach$Stepped", "seconds", "I", false)
  | 4 => ("OnePlaceEach$Stepped", "lot", "I", false)
  | 5 => ("OnePlaceEach$Stepped", "comeIn", "I", false)
  | 6 => ("OnePlaceEach$Stepped", "goneOut", "I", false)
  | _ => ("OnePlaceEach$Stepped", "moved", "I", false)
def tyX2 : Nat → FieldType := fun k => match k with
  | 0 => .int
  | 1 => .boolean
  | 2 => .int
  | 3 => .int
  | 4 => .int
  | 5 => .int
  | 6 => .int
  | _ => .int
abbrev wsX20 : List Cond := u_ws RX2 TX2 8
theorem nmX2 : ∀ a, a < 8 → ∀ b, b < 8 → a ≠ b → (TX2 a).2.1 ≠ (TX2 b).2.1 := by decide +kernel
theorem tyX2_ok : ∀ k, k < 8 → parseFieldDescriptor (TX2 k).2.2.1 = some (tyX2 k) := by decide +kernel
abbrev cX2_init : ByteArray := prog_4_method_1_code
def yX2_init : MethodName := ⟨RX2, "<init>", "()V"⟩
abbrev cX2_begin : ByteArray := prog_4_method_2_code
def yX2_begin : MethodName := ⟨RX2, "begin", "(IZ)V"⟩
abbrev cX2_isThere : ByteArray := prog_4_method_3_code
def yX2_isThere : MethodName := ⟨RX2, "isThere", "()Z"⟩
abbrev cX2_mayHavePlace : ByteArray := prog_4_method_4_code
def yX2_mayHavePlace : MethodName := ⟨RX2, "mayHavePlace", "(I)Z"⟩
abbrev cX2_sortAt : ByteArray := prog_4_method_5_code
def yX2_sortAt : MethodName := ⟨RX2, "sortAt", "(I)I"⟩
abbrev cX2_put : ByteArray := prog_4_method_6_code
def yX2_put : MethodName := ⟨RX2, "put", "(II)V"⟩
abbrev cX2_sow : ByteArray := prog_4_method_7_code
def yX2_sow : MethodName := ⟨RX2, "sow", "(I)V"⟩
abbrev cX2_countOfSort : ByteArray := prog_4_method_8_code
def yX2_countOfSort : MethodName := ⟨RX2, "countOfSort", "(I)I"⟩
abbrev cX2_tell : ByteArray := prog_4_method_9_code
def yX2_tell : MethodName := ⟨RX2, "tell", "(I)I"⟩
abbrev cX2_stepSingly : ByteArray := prog_4_method_10_code
def yX2_stepSingly : MethodName := ⟨RX2, "stepSingly", "(I)I"⟩
abbrev cX2_draw : ByteArray := prog_4_method_11_code
def yX2_draw : MethodName := ⟨RX2, "draw", "()I"⟩
abbrev cX2_stepOnce : ByteArray := prog_4_method_12_code
def yX2_stepOnce : MethodName := ⟨RX2, "stepOnce", "(I)Z"⟩
abbrev cX2_exchange : ByteArray := prog_4_method_13_code
def yX2_exchange : MethodName := ⟨RX2, "exchange", "(II)Z"⟩
abbrev cX2_comeToFirstPlace : ByteArray := prog_4_method_14_code
def yX2_comeToFirstPlace : MethodName := ⟨RX2, "comeToFirstPlace", "()Z"⟩
abbrev cX2_goFromLastPlace : ByteArray := prog_4_method_15_code
def yX2_goFromLastPlace : MethodName := ⟨RX2, "goFromLastPlace", "()Z"⟩
abbrev cX2_stepAllAtOnce : ByteArray := prog_4_method_16_code
def yX2_stepAllAtOnce : MethodName := ⟨RX2, "stepAllAtOnce", "(I)I"⟩
abbrev cX2_stepOpenRow : ByteArray := prog_4_method_17_code
def yX2_stepOpenRow : MethodName := ⟨RX2, "stepOpenRow", "()V"⟩
abbrev cX2_stepRing : ByteArray := prog_4_method_18_code
def yX2_stepRing : MethodName := ⟨RX2, "stepRing", "()V"⟩
abbrev cX2_firstsWithFreeBehind : ByteArray := prog_4_method_19_code
def yX2_firstsWithFreeBehind : MethodName := ⟨RX2, "firstsWithFreeBehind", "()I"⟩
abbrev cX2_allPlaces : ByteArray := prog_4_method_20_code
def yX2_allPlaces : MethodName := ⟨RX2, "allPlaces", "()I"⟩
def RX3 : String := "OnePlaceEach"
def TX3 : u_T := fun k => match k with
  | 0 => ("OnePlaceEach", "chain", "LOnePlaceEach$Chain;", true)
  | _ => ("OnePlaceEach", "stepped", "LOnePlaceEach$Stepped;", true)
def tyX3 : Nat → FieldType := fun k => match k with
  | 0 => .object "OnePlaceEach$Chain"
  | _ => .object "OnePlaceEach$Stepped"
abbrev wsX30 : List Cond := u_ws RX3 TX3 2
theorem nmX3 : ∀ a, a < 2 → ∀ b, b < 2 → a ≠ b → (TX3 a).2.1 ≠ (TX3 b).2.1 := by decide +kernel
theorem tyX3_ok : ∀ k, k < 2 → parseFieldDescriptor (TX3 k).2.2.1 = some (tyX3 k) := by decide +kernel
abbrev cX3_init : ByteArray := prog_1_method_1_code
def yX3_init : MethodName := ⟨RX3, "<init>", "()V"⟩
abbrev cX3_row : ByteArray := prog_1_method_2_code
def yX3_row : MethodName := ⟨RX3, "row", "(III)I"⟩
abbrev cX3_weight : ByteArray := prog_1_method_3_code
def yX3_weight : MethodName := ⟨RX3, "weight", "(I)J"⟩
abbrev cX3_sum : ByteArray := prog_1_method_4_code
def yX3_sum : MethodName := ⟨RX3, "sum", "(I)J"⟩
abbrev cX3_chance : ByteArray := prog_1_method_5_code
def yX3_chance : MethodName := ⟨RX3, "chance", "(II)J"⟩
abbrev cX3_current : ByteArray := prog_1_method_6_code
def yX3_current : MethodName := ⟨RX3, "current", "(I)J"⟩
abbrev cX3_taken : ByteArray := prog_1_method_7_code
def yX3_taken : MethodName := ⟨RX3, "taken", "(II)J"⟩
abbrev cX3_flow : ByteArray := prog_1_method_8_code
def yX3_flow : MethodName := ⟨RX3, "flow", "(II)J"⟩
abbrev cX3_extreme : ByteArray := prog_1_method_9_code
def yX3_extreme : MethodName := ⟨RX3, "extreme", "(I)I"⟩
abbrev cX3_queue : ByteArray := prog_1_method_10_code
def yX3_queue : MethodName := ⟨RX3, "queue", "(III)I"⟩
abbrev cX3_ways : ByteArray := prog_1_method_11_code
def yX3_ways : MethodName := ⟨RX3, "ways", "(II)I"⟩
abbrev cX3_step : ByteArray := prog_1_method_12_code
def yX3_step : MethodName := ⟨RX3, "step", "(IZ)I"⟩
abbrev cX3_set : ByteArray := prog_1_method_13_code
def yX3_set : MethodName := ⟨RX3, "set", "(II)I"⟩
abbrev cX3_seed : ByteArray := prog_1_method_14_code
def yX3_seed : MethodName := ⟨RX3, "seed", "(I)I"⟩
abbrev cX3_go : ByteArray := prog_1_method_15_code
def yX3_go : MethodName := ⟨RX3, "go", "(I)I"⟩
abbrev cX3_together : ByteArray := prog_1_method_16_code
def yX3_together : MethodName := ⟨RX3, "together", "(I)I"⟩
abbrev cX3_at : ByteArray := prog_1_method_17_code
def yX3_at : MethodName := ⟨RX3, "at", "(I)I"⟩
abbrev cX3_told : ByteArray := prog_1_method_18_code
def yX3_told : MethodName := ⟨RX3, "told", "(I)I"⟩
abbrev cX3_isWithin : ByteArray := prog_1_method_19_code
def yX3_isWithin : MethodName := ⟨RX3, "isWithin", "(III)Z"⟩
abbrev cX3_isTaken : ByteArray := prog_1_method_20_code
def yX3_isTaken : MethodName := ⟨RX3, "isTaken", "(II)Z"⟩
abbrev cX3_partOfFraction : ByteArray := prog_1_method_21_code
def yX3_partOfFraction : MethodName := ⟨RX3, "partOfFraction", "(JJI)J"⟩
abbrev cX3_greatestCommonDivisor : ByteArray := prog_1_method_22_code
def yX3_greatestCommonDivisor : MethodName := ⟨RX3, "greatestCommonDivisor", "(JJ)J"⟩
def RX4 : String := "OnePlaceEachModel"
def TX4 : u_T := fun k => match k with
  | 0 => ("OnePlaceEachModel", "n", "I", false)
  | 1 => ("OnePlaceEachModel", "x", "I", false)
  | 2 => ("OnePlaceEachModel", "y", "I", false)
  | 3 => ("OnePlaceEachModel", "weights", "[J", true)
  | 4 => ("OnePlaceEachModel", "places", "I", false)
  | 5 => ("OnePlaceEachModel", "isOpen", "Z", false)
  | 6 => ("OnePlaceEachModel", "seed", "J", false)
  | 7 => ("OnePlaceEachModel", "sorts", "[I", true)
  | 8 => ("OnePlaceEachModel", "before", "[I", true)
  | 9 => ("OnePlaceEachModel", "ins", "I", false)
  | 10 => ("OnePlaceEachModel", "outs", "I", false)
  | 11 => ("OnePlaceEachModel", "moved", "I", false)
  | _ => ("OnePlaceEachModel", "leadsTo", "I", false)
def tyX4 : Nat → FieldType := fun k => match k with
  | 0 => .int
  | 1 => .int
  | 2 => .int
  | 3 => .array .long
  | 4 => .int
  | 5 => .boolean
  | 6 => .long
  | 7 => .array .int
  | 8 => .array .int
  | 9 => .int
  | 10 => .int
  | 11 => .int
  | _ => .int
abbrev wsX40 : List Cond := u_ws RX4 TX4 13
theorem nmX4 : ∀ a, a < 13 → ∀ b, b < 13 → a ≠ b → (TX4 a).2.1 ≠ (TX4 b).2.1 := by decide +kernel
theorem tyX4_ok : ∀ k, k < 13 → parseFieldDescriptor (TX4 k).2.2.1 = some (tyX4 k) := by decide +kernel
abbrev cX4_init : ByteArray := prog_6_method_1_code
def yX4_init : MethodName := ⟨RX4, "<init>", "()V"⟩
abbrev cX4_in : ByteArray := prog_6_method_2_code
def yX4_in : MethodName := ⟨RX4, "in", "(JJJ)Z"⟩
abbrev cX4_weigh : ByteArray := prog_6_method_3_code
def yX4_weigh : MethodName := ⟨RX4, "weigh", "(II)J"⟩
abbrev cX4_fills : ByteArray := prog_6_method_4_code
def yX4_fills : MethodName := ⟨RX4, "fills", "()V"⟩
abbrev cX4_row : ByteArray := prog_6_method_5_code
def yX4_row : MethodName := ⟨RX4, "row", "(III)I"⟩
abbrev cX4_isState : ByteArray := prog_6_method_6_code
def yX4_isState : MethodName := ⟨RX4, "isState", "(I)Z"⟩
abbrev cX4_weight : ByteArray := prog_6_method_7_code
def yX4_weight : MethodName := ⟨RX4, "weight", "(I)J"⟩
abbrev cX4_sumOf : ByteArray := prog_6_method_8_code
def yX4_sumOf : MethodName := ⟨RX4, "sumOf", "(I)J"⟩
abbrev cX4_sum : ByteArray := prog_6_method_9_code
def yX4_sum : MethodName := ⟨RX4, "sum", "(I)J"⟩
abbrev cX4_least : ByteArray := prog_6_method_10_code
def yX4_least : MethodName := ⟨RX4, "least", "(JJI)J"⟩
abbrev cX4_chance : ByteArray := prog_6_method_11_code
def yX4_chance : MethodName := ⟨RX4, "chance", "(II)J"⟩
abbrev cX4_current : ByteArray := prog_6_method_12_code
def yX4_current : MethodName := ⟨RX4, "current", "(I)J"⟩
abbrev cX4_taken : ByteArray := prog_6_method_13_code
def yX4_taken : MethodName := ⟨RX4, "taken", "(II)J"⟩
abbrev cX4_happens : ByteArray := prog_6_method_14_code
def yX4_happens : MethodName := ⟨RX4, "happens", "(II)J"⟩
abbrev cX4_flow : ByteArray := prog_6_method_15_code
def yX4_flow : MethodName := ⟨RX4, "flow", "(II)J"⟩
abbrev cX4_extreme : ByteArray := prog_6_method_16_code
def yX4_extreme : MethodName := ⟨RX4, "extreme", "(I)I"⟩
abbrev cX4_bits : ByteArray := prog_6_method_17_code
def yX4_bits : MethodName := ⟨RX4, "bits", "(I)I"⟩
abbrev cX4_queued : ByteArray := prog_6_method_18_code
def yX4_queued : MethodName := ⟨RX4, "queued", "(III)I"⟩
abbrev cX4_queue : ByteArray := prog_6_method_19_code
def yX4_queue : MethodName := ⟨RX4, "queue", "(III)I"⟩
abbrev cX4_ways : ByteArray := prog_6_method_20_code
def yX4_ways : MethodName := ⟨RX4, "ways", "(II)I"⟩
abbrev cX4_step : ByteArray := prog_6_method_21_code
def yX4_step : MethodName := ⟨RX4, "step", "(IZ)I"⟩
abbrev cX4_isPlace : ByteArray := prog_6_method_22_code
def yX4_isPlace : MethodName := ⟨RX4, "isPlace", "(I)Z"⟩
abbrev cX4_set : ByteArray := prog_6_method_23_code
def yX4_set : MethodName := ⟨RX4, "set", "(II)I"⟩
abbrev cX4_seed : ByteArray := prog_6_method_24_code
def yX4_seed : MethodName := ⟨RX4, "seed", "(I)I"⟩
abbrev cX4_changes : ByteArray := prog_6_method_25_code
def yX4_changes : MethodName := ⟨RX4, "changes", "(II)Z"⟩
abbrev cX4_comes : ByteArray := prog_6_method_26_code
def yX4_comes : MethodName := ⟨RX4, "comes", "()Z"⟩
abbrev cX4_goes : ByteArray := prog_6_method_27_code
def yX4_goes : MethodName := ⟨RX4, "goes", "()Z"⟩
abbrev cX4_go : ByteArray := prog_6_method_28_code
def yX4_go : MethodName := ⟨RX4, "go", "(I)I"⟩
abbrev cX4_together : ByteArray := prog_6_method_29_code
def yX4_together : MethodName := ⟨RX4, "together", "(I)I"⟩
abbrev cX4_at : ByteArray := prog_6_method_30_code
def yX4_at : MethodName := ⟨RX4, "at", "(I)I"⟩
abbrev cX4_told : ByteArray := prog_6_method_31_code
def yX4_told : MethodName := ⟨RX4, "told", "(I)I"⟩
def RJ6 : String := "java/lang/Integer"
def TJ6 : u_T := fun k => match k with
  | _ => ("", "", "", false)
def tyJ6 : Nat → FieldType := fun k => match k with
  | _ => .int
abbrev wsJ60 : List Cond := u_ws RJ6 TJ6 0
theorem nmJ6 : ∀ a, a < 0 → ∀ b, b < 0 → a ≠ b → (TJ6 a).2.1 ≠ (TJ6 b).2.1 := by decide +kernel
theorem tyJ6_ok : ∀ k, k < 0 → parseFieldDescriptor (TJ6 k).2.2.1 = some (tyJ6 k) := by decide +kernel
abbrev cJ6_bitCount_0f7a4 : ByteArray := prog_7_method_49_code
def yJ6_bitCount_0f7a4 : MethodName := ⟨RJ6, "bitCount", "(I)I"⟩
def RL : String := "OnePlaceEachLaw"
abbrev cL_law : ByteArray := code
def yL_law : MethodName := ⟨RL, "law", "([I)Z"⟩
def wsX3_isTaken : List Cond := .code yX3_isTaken cX3_isTaken 2 (some .boolean) :: ([])
def wsX0_weightOfWord : List Cond := .code yX0_weightOfWord cX0_weightOfWord 4 (some .long) :: ([.fieldLink RX0 9 "OnePlaceEach$Chain" "weights" "[J"] ++ wsX00)
def wsX0_lastOfLeadingTaken : List Cond := .code yX0_lastOfLeadingTaken cX0_lastOfLeadingTaken 3 (some .int) :: ([.static yX3_isTaken, .initialized RX3, .code yX3_isTaken cX3_isTaken 2 (some .boolean)])
def wsX0_weigh : List Cond := .code yX0_weigh cX0_weigh 6 (some .long) :: ([.fieldLink RX0 26 "OnePlaceEach$Chain" "x" "I", .fieldLink RX0 29 "OnePlaceEach$Chain" "y" "I", .static yX3_isTaken, .initialized RX3, .code yX3_isTaken cX3_isTaken 2 (some .boolean), .methodLink RX0 39 yX0_weightOfWord, .instanceMethod yX0_weightOfWord, .selects RX0 yX0_weightOfWord yX0_weightOfWord, .initialized RX0, .code yX0_weightOfWord cX0_weightOfWord 4 (some .long), .fieldLink RX0 9 "OnePlaceEach$Chain" "weights" "[J", .methodLink RX0 64 yX0_lastOfLeadingTaken, .static yX0_lastOfLeadingTaken, .code yX0_lastOfLeadingTaken cX0_lastOfLeadingTaken 3 (some .int)] ++ wsX00)
def wsX0_weighAllWords : List Cond := .code yX0_weighAllWords cX0_weighAllWords 7 none :: ([.fieldLink RX0 9 "OnePlaceEach$Chain" "weights" "[J", .fieldLink RX0 15 "OnePlaceEach$Chain" "sums" "[J", .methodLink RX0 61 yX0_weigh, .instanceMethod yX0_weigh, .selects RX0 yX0_weigh yX0_weigh, .initialized RX0, .code yX0_weigh cX0_weigh 6 (some .long), .fieldLink RX0 26 "OnePlaceEach$Chain" "x" "I", .fieldLink RX0 29 "OnePlaceEach$Chain" "y" "I", .static yX3_isTaken, .initialized RX3, .code yX3_isTaken cX3_isTaken 2 (some .boolean), .methodLink RX0 39 yX0_weightOfWord, .instanceMethod yX0_weightOfWord, .selects RX0 yX0_weightOfWord yX0_weightOfWord, .code yX0_weightOfWord cX0_weightOfWord 4 (some .long), .methodLink RX0 64 yX0_lastOfLeadingTaken, .static yX0_lastOfLeadingTaken, .code yX0_lastOfLeadingTaken cX0_lastOfLeadingTaken 3 (some .int)] ++ wsX00)
def wsX0_become : List Cond := .code yX0_become cX0_become 4 none :: ([.fieldLink RX0 22 "OnePlaceEach$Chain" "places" "I", .fieldLink RX0 26 "OnePlaceEach$Chain" "x" "I", .fieldLink RX0 29 "OnePlaceEach$Chain" "y" "I", .methodLink RX0 32 yX0_weighAllWords, .instanceMethod yX0_weighAllWords, .selects RX0 yX0_weighAllWords yX0_weighAllWords, .initialized RX0, .code yX0_weighAllWords cX0_weighAllWords 7 none, .fieldLink RX0 9 "OnePlaceEach$Chain" "weights" "[J", .fieldLink RX0 15 "OnePlaceEach$Chain" "sums" "[J", .methodLink RX0 61 yX0_weigh, .instanceMethod yX0_weigh, .selects RX0 yX0_weigh yX0_weigh, .code yX0_weigh cX0_weigh 6 (some .long), .static yX3_isTaken, .initialized RX3, .code yX3_isTaken cX3_isTaken 2 (some .boolean), .methodLink RX0 39 yX0_weightOfWord, .instanceMethod yX0_weightOfWord, .selects RX0 yX0_weightOfWord yX0_weightOfWord, .code yX0_weightOfWord cX0_weightOfWord 4 (some .long), .methodLink RX0 64 yX0_lastOfLeadingTaken, .static yX0_lastOfLeadingTaken, .code yX0_lastOfLeadingTaken cX0_lastOfLeadingTaken 3 (some .int)] ++ wsX00)
def wsX0_init_r1 : List Cond := [Cond.methodLink RX0 3 objectInit, Cond.instanceMethod objectInit, Cond.code objectInit ⟨#[0xb1]⟩ 1 none, Cond.arrayClass .long, Cond.fieldLink RX0 9 "OnePlaceEach$Chain" "weights" "[J", Cond.fieldLink RX0 15 "OnePlaceEach$Chain" "sums" "[J", Cond.methodLink RX0 18 yX0_become, Cond.instanceMethod yX0_become, Cond.selects RX0 yX0_become yX0_become, Cond.initialized RX0, Cond.code yX0_become cX0_become 4 none, Cond.fieldLink RX0 22 "OnePlaceEach$Chain" "places" "I", Cond.fieldLink RX0 26 "OnePlaceEach$Chain" "x" "I", Cond.fieldLink RX0 29 "OnePlaceEach$Chain" "y" "I", Cond.methodLink RX0 32 yX0_weighAllWords, Cond.instanceMethod yX0_weighAllWords, Cond.selects RX0 yX0_weighAllWords yX0_weighAllWords, Cond.code yX0_weighAllWords cX0_weighAllWords 7 none, Cond.methodLink RX0 61 yX0_weigh, Cond.instanceMethod yX0_weigh, Cond.selects RX0 yX0_weigh yX0_weigh, Cond.code yX0_weigh cX0_weigh 6 (some .long), Cond.static yX3_isTaken, Cond.initialized RX3]
def wsX0_init_r2 : List Cond := [Cond.code yX3_isTaken cX3_isTaken 2 (some .boolean), Cond.methodLink RX0 39 yX0_weightOfWord, Cond.instanceMethod yX0_weightOfWord, Cond.selects RX0 yX0_weightOfWord yX0_weightOfWord, Cond.code yX0_weightOfWord cX0_weightOfWord 4 (some .long), Cond.methodLink RX0 64 yX0_lastOfLeadingTaken, Cond.static yX0_lastOfLeadingTaken, Cond.code yX0_lastOfLeadingTaken cX0_lastOfLeadingTaken 3 (some .int)]
def wsX0_init : List Cond := .code yX0_init cX0_init 1 none :: ((wsX0_init_r1 ++ wsX0_init_r2) ++ wsX00)
def wsX0_countPlaces : List Cond := .code yX0_countPlaces cX0_countPlaces 1 (some .int) :: ([.fieldLink RX0 22 "OnePlaceEach$Chain" "places" "I"] ++ wsX00)
def wsX0_countStates : List Cond := .code yX0_countStates cX0_countStates 1 (some .int) :: ([.fieldLink RX0 22 "OnePlaceEach$Chain" "places" "I"] ++ wsX00)
def wsX0_hasState : List Cond := .code yX0_hasState cX0_hasState 2 (some .boolean) :: ([.methodLink RX0 35 yX0_countStates, .instanceMethod yX0_countStates, .selects RX0 yX0_countStates yX0_countStates, .initialized RX0, .code yX0_countStates cX0_countStates 1 (some .int), .fieldLink RX0 22 "OnePlaceEach$Chain" "places" "I"] ++ wsX00)
def wsX0_weightOf : List Cond := .code yX0_weightOf cX0_weightOf 2 (some .long) :: ([.fieldLink RX0 22 "OnePlaceEach$Chain" "places" "I", .methodLink RX0 39 yX0_weightOfWord, .instanceMethod yX0_weightOfWord, .selects RX0 yX0_weightOfWord yX0_weightOfWord, .initialized RX0, .code yX0_weightOfWord cX0_weightOfWord 4 (some .long), .fieldLink RX0 9 "OnePlaceEach$Chain" "weights" "[J"] ++ wsX00)
def wsX0_sumOf : List Cond := .code yX0_sumOf cX0_sumOf 2 (some .long) :: ([.fieldLink RX0 15 "OnePlaceEach$Chain" "sums" "[J"] ++ wsX00)
def wsX0_sumWithTaken : List Cond := .code yX0_sumWithTaken cX0_sumWithTaken 5 (some .long) :: ([.methodLink RX0 35 yX0_countStates, .instanceMethod yX0_countStates, .selects RX0 yX0_countStates yX0_countStates, .initialized RX0, .code yX0_countStates cX0_countStates 1 (some .int), .fieldLink RX0 22 "OnePlaceEach$Chain" "places" "I", .methodLink RX0 43 yX0_weightOf, .instanceMethod yX0_weightOf, .selects RX0 yX0_weightOf yX0_weightOf, .code yX0_weightOf cX0_weightOf 2 (some .long), .methodLink RX0 39 yX0_weightOfWord, .instanceMethod yX0_weightOfWord, .selects RX0 yX0_weightOfWord yX0_weightOfWord, .code yX0_weightOfWord cX0_weightOfWord 4 (some .long), .fieldLink RX0 9 "OnePlaceEach$Chain" "weights" "[J"] ++ wsX00)
def wsX0_rateIn : List Cond := .code yX0_rateIn cX0_rateIn 1 (some .long) :: ([.fieldLink RX0 29 "OnePlaceEach$Chain" "y" "I"] ++ wsX00)
def wsX0_rateOut : List Cond := .code yX0_rateOut cX0_rateOut 1 (some .long) :: ([.fieldLink RX0 26 "OnePlaceEach$Chain" "x" "I"] ++ wsX00)
def wsX0_rateOfStep : List Cond := .code yX0_rateOfStep cX0_rateOfStep 1 (some .long) :: ([.fieldLink RX0 26 "OnePlaceEach$Chain" "x" "I", .fieldLink RX0 29 "OnePlaceEach$Chain" "y" "I"] ++ wsX00)
def wsX0_flowInto_r1 : List Cond := [Cond.fieldLink RX0 22 "OnePlaceEach$Chain" "places" "I", Cond.static yX3_isTaken, Cond.initialized RX3, Cond.code yX3_isTaken cX3_isTaken 2 (some .boolean), Cond.methodLink RX0 43 yX0_weightOf, Cond.instanceMethod yX0_weightOf, Cond.selects RX0 yX0_weightOf yX0_weightOf, Cond.initialized RX0, Cond.code yX0_weightOf cX0_weightOf 2 (some .long), Cond.methodLink RX0 39 yX0_weightOfWord, Cond.instanceMethod yX0_weightOfWord, Cond.selects RX0 yX0_weightOfWord yX0_weightOfWord, Cond.code yX0_weightOfWord cX0_weightOfWord 4 (some .long), Cond.fieldLink RX0 9 "OnePlaceEach$Chain" "weights" "[J", Cond.methodLink RX0 51 yX0_rateIn, Cond.instanceMethod yX0_rateIn, Cond.selects RX0 yX0_rateIn yX0_rateIn, Cond.code yX0_rateIn cX0_rateIn 1 (some .long), Cond.fieldLink RX0 29 "OnePlaceEach$Chain" "y" "I", Cond.methodLink RX0 55 yX0_rateOut, Cond.instanceMethod yX0_rateOut, Cond.selects RX0 yX0_rateOut yX0_rateOut, Cond.code yX0_rateOut cX0_rateOut 1 (some .long), Cond.fieldLink RX0 26 "OnePlaceEach$Chain" "x" "I"]
def wsX0_flowInto_r2 : List Cond := [Cond.methodLink RX0 58 yX0_rateOfStep, Cond.instanceMethod yX0_rateOfStep, Cond.selects RX0 yX0_rateOfStep yX0_rateOfStep, Cond.code yX0_rateOfStep cX0_rateOfStep 1 (some .long)]
def wsX0_flowInto : List Cond := .code yX0_flowInto cX0_flowInto 5 (some .long) :: ((wsX0_flowInto_r1 ++ wsX0_flowInto_r2) ++ wsX00)
def wsX0_flowOutOf_r1 : List Cond := [Cond.fieldLink RX0 22 "OnePlaceEach$Chain" "places" "I", Cond.static yX3_isTaken, Cond.initialized RX3, Cond.code yX3_isTaken cX3_isTaken 2 (some .boolean), Cond.methodLink RX0 51 yX0_rateIn, Cond.instanceMethod yX0_rateIn, Cond.selects RX0 yX0_rateIn yX0_rateIn, Cond.initialized RX0, Cond.code yX0_rateIn cX0_rateIn 1 (some .long), Cond.fieldLink RX0 29 "OnePlaceEach$Chain" "y" "I", Cond.methodLink RX0 55 yX0_rateOut, Cond.instanceMethod yX0_rateOut, Cond.selects RX0 yX0_rateOut yX0_rateOut, Cond.code yX0_rateOut cX0_rateOut 1 (some .long), Cond.fieldLink RX0 26 "OnePlaceEach$Chain" "x" "I", Cond.methodLink RX0 58 yX0_rateOfStep, Cond.instanceMethod yX0_rateOfStep, Cond.selects RX0 yX0_rateOfStep yX0_rateOfStep, Cond.code yX0_rateOfStep cX0_rateOfStep 1 (some .long), Cond.methodLink RX0 43 yX0_weightOf, Cond.instanceMethod yX0_weightOf, Cond.selects RX0 yX0_weightOf yX0_weightOf, Cond.code yX0_weightOf cX0_weightOf 2 (some .long), Cond.methodLink RX0 39 yX0_weightOfWord]
def wsX0_flowOutOf_r2 : List Cond := [Cond.instanceMethod yX0_weightOfWord, Cond.selects RX0 yX0_weightOfWord yX0_weightOfWord, Cond.code yX0_weightOfWord cX0_weightOfWord 4 (some .long), Cond.fieldLink RX0 9 "OnePlaceEach$Chain" "weights" "[J"]
def wsX0_flowOutOf : List Cond := .code yX0_flowOutOf cX0_flowOutOf 5 (some .long) :: ((wsX0_flowOutOf_r1 ++ wsX0_flowOutOf_r2) ++ wsX00)
def wsX0_heaviestState : List Cond := .code yX0_heaviestState cX0_heaviestState 3 (some .int) :: ([.methodLink RX0 35 yX0_countStates, .instanceMethod yX0_countStates, .selects RX0 yX0_countStates yX0_countStates, .initialized RX0, .code yX0_countStates cX0_countStates 1 (some .int), .fieldLink RX0 22 "OnePlaceEach$Chain" "places" "I", .methodLink RX0 43 yX0_weightOf, .instanceMethod yX0_weightOf, .selects RX0 yX0_weightOf yX0_weightOf, .code yX0_weightOf cX0_weightOf 2 (some .long), .methodLink RX0 39 yX0_weightOfWord, .instanceMethod yX0_weightOfWord, .selects RX0 yX0_weightOfWord yX0_weightOfWord, .code yX0_weightOfWord cX0_weightOfWord 4 (some .long), .fieldLink RX0 9 "OnePlaceEach$Chain" "weights" "[J"] ++ wsX00)
def wsX0_lightestState : List Cond := .code yX0_lightestState cX0_lightestState 3 (some .int) :: ([.methodLink RX0 35 yX0_countStates, .instanceMethod yX0_countStates, .selects RX0 yX0_countStates yX0_countStates, .initialized RX0, .code yX0_countStates cX0_countStates 1 (some .int), .fieldLink RX0 22 "OnePlaceEach$Chain" "places" "I", .methodLink RX0 43 yX0_weightOf, .instanceMethod yX0_weightOf, .selects RX0 yX0_weightOf yX0_weightOf, .code yX0_weightOf cX0_weightOf 2 (some .long), .methodLink RX0 39 yX0_weightOfWord, .instanceMethod yX0_weightOfWord, .selects RX0 yX0_weightOfWord yX0_weightOfWord, .code yX0_weightOfWord cX0_weightOfWord 4 (some .long), .fieldLink RX0 9 "OnePlaceEach$Chain" "weights" "[J"] ++ wsX00)
def wsX3_isWithin : List Cond := .code yX3_isWithin cX3_isWithin 3 (some .boolean) :: ([])
def wsJ6_bitCount_0f7a4 : List Cond := .code yJ6_bitCount_0f7a4 cJ6_bitCount_0f7a4 1 (some .int) :: ([.constant RJ6 265 (1431655765), .constant RJ6 266 (858993459), .constant RJ6 267 (252645135)])
def wsX1_areRows : List Cond := .code yX1_areRows cX1_areRows 4 (some .boolean) :: ([.static yX3_isWithin, .initialized RX3, .code yX3_isWithin cX3_isWithin 3 (some .boolean), .methodLink RX1 13 yJ6_bitCount_0f7a4, .static yJ6_bitCount_0f7a4, .initialized RJ6, .code yJ6_bitCount_0f7a4 cJ6_bitCount_0f7a4 1 (some .int), .constant RJ6 265 (1431655765), .constant RJ6 266 (858993459), .constant RJ6 267 (252645135)])
def wsX1_firstFrom : List Cond := .code yX1_firstFrom cX1_firstFrom 5 (some .int) :: ([.static yX3_isTaken, .initialized RX3, .code yX3_isTaken cX3_isTaken 2 (some .boolean)])
def wsX1_servedPlaces : List Cond := .code yX1_servedPlaces cX1_servedPlaces 5 (some .int) :: ([.static yX3_isTaken, .initialized RX3, .code yX3_isTaken cX3_isTaken 2 (some .boolean), .methodLink RX1 23 yX1_firstFrom, .static yX1_firstFrom, .initialized RX1, .code yX1_firstFrom cX1_firstFrom 5 (some .int)])
def wsX1_numberOf : List Cond := .code yX1_numberOf cX1_numberOf 6 (some .int) :: ([.static yX3_isTaken, .initialized RX3, .code yX3_isTaken cX3_isTaken 2 (some .boolean)])
def wsX1_greatestNumber : List Cond := .code yX1_greatestNumber cX1_greatestNumber 3 (some .int) :: ([])
def wsX1_placesOfSort : List Cond := .code yX1_placesOfSort cX1_placesOfSort 6 (some .int) :: ([])
def wsX1_countUpperRows : List Cond := .code yX1_countUpperRows cX1_countUpperRows 5 (some .int) :: ([.methodLink RX1 13 yJ6_bitCount_0f7a4, .static yJ6_bitCount_0f7a4, .initialized RJ6, .code yJ6_bitCount_0f7a4 cJ6_bitCount_0f7a4 1 (some .int), .constant RJ6 265 (1431655765), .constant RJ6 266 (858993459), .constant RJ6 267 (252645135), .methodLink RX1 29 yX1_servedPlaces, .static yX1_servedPlaces, .initialized RX1, .code yX1_servedPlaces cX1_servedPlaces 5 (some .int), .static yX3_isTaken, .initialized RX3, .code yX3_isTaken cX3_isTaken 2 (some .boolean), .methodLink RX1 23 yX1_firstFrom, .static yX1_firstFrom, .code yX1_firstFrom cX1_firstFrom 5 (some .int)])
def wsX2_init : List Cond := .code yX2_init cX2_init 1 none :: ([.methodLink RX2 3 objectInit, .instanceMethod objectInit, .code objectInit ⟨#[0xb1]⟩ 1 none])
def wsX2_begin : List Cond := .code yX2_begin cX2_begin 3 none :: ([.fieldLink RX2 9 "OnePlaceEach$Stepped" "places" "I", .fieldLink RX2 15 "OnePlaceEach$Stepped" "open" "Z", .fieldLink RX2 19 "OnePlaceEach$Stepped" "firsts" "I", .fieldLink RX2 22 "OnePlaceEach$Stepped" "seconds" "I", .fieldLink RX2 25 "OnePlaceEach$Stepped" "lot" "I", .fieldLink RX2 28 "OnePlaceEach$Stepped" "comeIn" "I", .fieldLink RX2 31 "OnePlaceEach$Stepped" "goneOut" "I", .fieldLink RX2 34 "OnePlaceEach$Stepped" "moved" "I"] ++ wsX20)
def wsX2_isThere : List Cond := .code yX2_isThere cX2_isThere 1 (some .boolean) :: ([.fieldLink RX2 9 "OnePlaceEach$Stepped" "places" "I"] ++ wsX20)
def wsX2_mayHavePlace : List Cond := .code yX2_mayHavePlace cX2_mayHavePlace 2 (some .boolean) :: ([.fieldLink RX2 9 "OnePlaceEach$Stepped" "places" "I", .methodLink RX2 37 yX2_isThere, .instanceMethod yX2_isThere, .selects RX2 yX2_isThere yX2_isThere, .initialized RX2, .code yX2_isThere cX2_isThere 1 (some .boolean)] ++ wsX20)
def wsX2_sortAt : List Cond := .code yX2_sortAt cX2_sortAt 2 (some .int) :: ([.fieldLink RX2 19 "OnePlaceEach$Stepped" "firsts" "I", .fieldLink RX2 22 "OnePlaceEach$Stepped" "seconds" "I", .static yX3_isTaken, .initialized RX3, .code yX3_isTaken cX3_isTaken 2 (some .boolean)] ++ wsX20)
def wsX2_put : List Cond := .code yX2_put cX2_put 4 none :: ([.fieldLink RX2 19 "OnePlaceEach$Stepped" "firsts" "I", .fieldLink RX2 22 "OnePlaceEach$Stepped" "seconds" "I"] ++ wsX20)
def wsX2_sow : List Cond := .code yX2_sow cX2_sow 2 none :: ([.fieldLink RX2 25 "OnePlaceEach$Stepped" "lot" "I"] ++ wsX20)
def wsX2_countOfSort : List Cond := .code yX2_countOfSort cX2_countOfSort 2 (some .int) :: ([.fieldLink RX2 19 "OnePlaceEach$Stepped" "firsts" "I", .fieldLink RX2 22 "OnePlaceEach$Stepped" "seconds" "I", .methodLink RX2 45 yJ6_bitCount_0f7a4, .static yJ6_bitCount_0f7a4, .initialized RJ6, .code yJ6_bitCount_0f7a4 cJ6_bitCount_0f7a4 1 (some .int), .constant RJ6 265 (1431655765), .constant RJ6 266 (858993459), .constant RJ6 267 (252645135)] ++ wsX20)
def wsX2_allPlaces : List Cond := .code yX2_allPlaces cX2_allPlaces 1 (some .int) :: ([.fieldLink RX2 9 "OnePlaceEach$Stepped" "places" "I"] ++ wsX20)
def wsX2_firstsWithFreeBehind : List Cond := .code yX2_firstsWithFreeBehind cX2_firstsWithFreeBehind 3 (some .int) :: ([.fieldLink RX2 19 "OnePlaceEach$Stepped" "firsts" "I", .fieldLink RX2 22 "OnePlaceEach$Stepped" "seconds" "I", .fieldLink RX2 15 "OnePlaceEach$Stepped" "open" "Z", .fieldLink RX2 9 "OnePlaceEach$Stepped" "places" "I", .methodLink RX2 89 yX2_allPlaces, .instanceMethod yX2_allPlaces, .selects RX2 yX2_allPlaces yX2_allPlaces, .initialized RX2, .code yX2_allPlaces cX2_allPlaces 1 (some .int)] ++ wsX20)
def wsX2_tell_r1 : List Cond := [Cond.fieldLink RX2 9 "OnePlaceEach$Stepped" "places" "I", Cond.fieldLink RX2 15 "OnePlaceEach$Stepped" "open" "Z", Cond.fieldLink RX2 28 "OnePlaceEach$Stepped" "comeIn" "I", Cond.fieldLink RX2 31 "OnePlaceEach$Stepped" "goneOut" "I", Cond.fieldLink RX2 34 "OnePlaceEach$Stepped" "moved" "I", Cond.methodLink RX2 51 yX2_countOfSort, Cond.instanceMethod yX2_countOfSort, Cond.selects RX2 yX2_countOfSort yX2_countOfSort, Cond.initialized RX2, Cond.code yX2_countOfSort cX2_countOfSort 2 (some .int), Cond.fieldLink RX2 19 "OnePlaceEach$Stepped" "firsts" "I", Cond.fieldLink RX2 22 "OnePlaceEach$Stepped" "seconds" "I", Cond.methodLink RX2 45 yJ6_bitCount_0f7a4, Cond.static yJ6_bitCount_0f7a4, Cond.initialized RJ6, Cond.code yJ6_bitCount_0f7a4 cJ6_bitCount_0f7a4 1 (some .int), Cond.constant RJ6 265 (1431655765), Cond.constant RJ6 266 (858993459), Cond.constant RJ6 267 (252645135), Cond.methodLink RX2 54 yX2_firstsWithFreeBehind, Cond.instanceMethod yX2_firstsWithFreeBehind, Cond.selects RX2 yX2_firstsWithFreeBehind yX2_firstsWithFreeBehind, Cond.code yX2_firstsWithFreeBehind cX2_firstsWithFreeBehind 3 (some .int), Cond.methodLink RX2 89 yX2_allPlaces]
def wsX2_tell_r2 : List Cond := [Cond.instanceMethod yX2_allPlaces, Cond.selects RX2 yX2_allPlaces yX2_allPlaces, Cond.code yX2_allPlaces cX2_allPlaces 1 (some .int)]
def wsX2_tell : List Cond := .code yX2_tell cX2_tell 2 (some .int) :: ((wsX2_tell_r1 ++ wsX2_tell_r2) ++ wsX20)
def wsX2_draw : List Cond := .code yX2_draw cX2_draw 2 (some .int) :: ([.fieldLink RX2 25 "OnePlaceEach$Stepped" "lot" "I", .constant RX2 65 (1103515245), .constant RX2 66 (2147483647), .fieldLink RX2 9 "OnePlaceEach$Stepped" "places" "I"] ++ wsX20)
def wsX2_exchange : List Cond := .code yX2_exchange cX2_exchange 6 (some .boolean) :: ([.fieldLink RX2 34 "OnePlaceEach$Stepped" "moved" "I", .methodLink RX2 76 yX2_sortAt, .instanceMethod yX2_sortAt, .selects RX2 yX2_sortAt yX2_sortAt, .initialized RX2, .code yX2_sortAt cX2_sortAt 2 (some .int), .fieldLink RX2 19 "OnePlaceEach$Stepped" "firsts" "I", .fieldLink RX2 22 "OnePlaceEach$Stepped" "seconds" "I", .static yX3_isTaken, .initialized RX3, .code yX3_isTaken cX3_isTaken 2 (some .boolean), .methodLink RX2 79 yX2_put, .instanceMethod yX2_put, .selects RX2 yX2_put yX2_put, .code yX2_put cX2_put 4 none] ++ wsX20)
def wsX2_comeToFirstPlace : List Cond := .code yX2_comeToFirstPlace cX2_comeToFirstPlace 2 (some .boolean) :: ([.fieldLink RX2 31 "OnePlaceEach$Stepped" "goneOut" "I", .fieldLink RX2 28 "OnePlaceEach$Stepped" "comeIn" "I", .methodLink RX2 76 yX2_sortAt, .instanceMethod yX2_sortAt, .selects RX2 yX2_sortAt yX2_sortAt, .initialized RX2, .code yX2_sortAt cX2_sortAt 2 (some .int), .fieldLink RX2 19 "OnePlaceEach$Stepped" "firsts" "I", .fieldLink RX2 22 "OnePlaceEach$Stepped" "seconds" "I", .static yX3_isTaken, .initialized RX3, .code yX3_isTaken cX3_isTaken 2 (some .boolean), .methodLink RX2 79 yX2_put, .instanceMethod yX2_put, .selects RX2 yX2_put yX2_put, .code yX2_put cX2_put 4 none] ++ wsX20)
def wsX2_goFromLastPlace : List Cond := .code yX2_goFromLastPlace cX2_goFromLastPlace 1 (some .boolean) :: ([.fieldLink RX2 9 "OnePlaceEach$Stepped" "places" "I", .fieldLink RX2 31 "OnePlaceEach$Stepped" "goneOut" "I", .methodLink RX2 76 yX2_sortAt, .instanceMethod yX2_sortAt, .selects RX2 yX2_sortAt yX2_sortAt, .initialized RX2, .code yX2_sortAt cX2_sortAt 2 (some .int), .fieldLink RX2 19 "OnePlaceEach$Stepped" "firsts" "I", .fieldLink RX2 22 "OnePlaceEach$Stepped" "seconds" "I", .static yX3_isTaken, .initialized RX3, .code yX3_isTaken cX3_isTaken 2 (some .boolean), .methodLink RX2 79 yX2_put, .instanceMethod yX2_put, .selects RX2 yX2_put yX2_put, .code yX2_put cX2_put 4 none] ++ wsX20)
def wsX2_stepOnce_r1 : List Cond := [Cond.fieldLink RX2 9 "OnePlaceEach$Stepped" "places" "I", Cond.fieldLink RX2 15 "OnePlaceEach$Stepped" "open" "Z", Cond.methodLink RX2 67 yX2_exchange, Cond.instanceMethod yX2_exchange, Cond.selects RX2 yX2_exchange yX2_exchange, Cond.initialized RX2, Cond.code yX2_exchange cX2_exchange 6 (some .boolean), Cond.fieldLink RX2 34 "OnePlaceEach$Stepped" "moved" "I", Cond.methodLink RX2 76 yX2_sortAt, Cond.instanceMethod yX2_sortAt, Cond.selects RX2 yX2_sortAt yX2_sortAt, Cond.code yX2_sortAt cX2_sortAt 2 (some .int), Cond.fieldLink RX2 19 "OnePlaceEach$Stepped" "firsts" "I", Cond.fieldLink RX2 22 "OnePlaceEach$Stepped" "seconds" "I", Cond.static yX3_isTaken, Cond.initialized RX3, Cond.code yX3_isTaken cX3_isTaken 2 (some .boolean), Cond.methodLink RX2 79 yX2_put, Cond.instanceMethod yX2_put, Cond.selects RX2 yX2_put yX2_put, Cond.code yX2_put cX2_put 4 none, Cond.methodLink RX2 70 yX2_comeToFirstPlace, Cond.instanceMethod yX2_comeToFirstPlace, Cond.selects RX2 yX2_comeToFirstPlace yX2_comeToFirstPlace]
def wsX2_stepOnce_r2 : List Cond := [Cond.code yX2_comeToFirstPlace cX2_comeToFirstPlace 2 (some .boolean), Cond.fieldLink RX2 31 "OnePlaceEach$Stepped" "goneOut" "I", Cond.fieldLink RX2 28 "OnePlaceEach$Stepped" "comeIn" "I", Cond.methodLink RX2 73 yX2_goFromLastPlace, Cond.instanceMethod yX2_goFromLastPlace, Cond.selects RX2 yX2_goFromLastPlace yX2_goFromLastPlace, Cond.code yX2_goFromLastPlace cX2_goFromLastPlace 1 (some .boolean)]
def wsX2_stepOnce : List Cond := .code yX2_stepOnce cX2_stepOnce 3 (some .boolean) :: ((wsX2_stepOnce_r1 ++ wsX2_stepOnce_r2) ++ wsX20)
def wsX2_stepSingly_r1 : List Cond := [Cond.methodLink RX2 58 yX2_draw, Cond.instanceMethod yX2_draw, Cond.selects RX2 yX2_draw yX2_draw, Cond.initialized RX2, Cond.code yX2_draw cX2_draw 2 (some .int), Cond.fieldLink RX2 25 "OnePlaceEach$Stepped" "lot" "I", Cond.constant RX2 65 (1103515245), Cond.constant RX2 66 (2147483647), Cond.fieldLink RX2 9 "OnePlaceEach$Stepped" "places" "I", Cond.methodLink RX2 61 yX2_stepOnce, Cond.instanceMethod yX2_stepOnce, Cond.selects RX2 yX2_stepOnce yX2_stepOnce, Cond.code yX2_stepOnce cX2_stepOnce 3 (some .boolean), Cond.fieldLink RX2 15 "OnePlaceEach$Stepped" "open" "Z", Cond.methodLink RX2 67 yX2_exchange, Cond.instanceMethod yX2_exchange, Cond.selects RX2 yX2_exchange yX2_exchange, Cond.code yX2_exchange cX2_exchange 6 (some .boolean), Cond.fieldLink RX2 34 "OnePlaceEach$Stepped" "moved" "I", Cond.methodLink RX2 76 yX2_sortAt, Cond.instanceMethod yX2_sortAt, Cond.selects RX2 yX2_sortAt yX2_sortAt, Cond.code yX2_sortAt cX2_sortAt 2 (some .int), Cond.fieldLink RX2 19 "OnePlaceEach$Stepped" "firsts" "I"]
def wsX2_stepSingly_r2 : List Cond := [Cond.fieldLink RX2 22 "OnePlaceEach$Stepped" "seconds" "I", Cond.static yX3_isTaken, Cond.initialized RX3, Cond.code yX3_isTaken cX3_isTaken 2 (some .boolean), Cond.methodLink RX2 79 yX2_put, Cond.instanceMethod yX2_put, Cond.selects RX2 yX2_put yX2_put, Cond.code yX2_put cX2_put 4 none, Cond.methodLink RX2 70 yX2_comeToFirstPlace, Cond.instanceMethod yX2_comeToFirstPlace, Cond.selects RX2 yX2_comeToFirstPlace yX2_comeToFirstPlace, Cond.code yX2_comeToFirstPlace cX2_comeToFirstPlace 2 (some .boolean), Cond.fieldLink RX2 31 "OnePlaceEach$Stepped" "goneOut" "I", Cond.fieldLink RX2 28 "OnePlaceEach$Stepped" "comeIn" "I", Cond.methodLink RX2 73 yX2_goFromLastPlace, Cond.instanceMethod yX2_goFromLastPlace, Cond.selects RX2 yX2_goFromLastPlace yX2_goFromLastPlace, Cond.code yX2_goFromLastPlace cX2_goFromLastPlace 1 (some .boolean)]
def wsX2_stepSingly : List Cond := .code yX2_stepSingly cX2_stepSingly 4 (some .int) :: ((wsX2_stepSingly_r1 ++ wsX2_stepSingly_r2) ++ wsX20)
def wsX2_stepOpenRow : List Cond := .code yX2_stepOpenRow cX2_stepOpenRow 4 none :: ([.fieldLink RX2 19 "OnePlaceEach$Stepped" "firsts" "I", .fieldLink RX2 9 "OnePlaceEach$Stepped" "places" "I", .fieldLink RX2 34 "OnePlaceEach$Stepped" "moved" "I", .fieldLink RX2 28 "OnePlaceEach$Stepped" "comeIn" "I", .fieldLink RX2 31 "OnePlaceEach$Stepped" "goneOut" "I", .methodLink RX2 54 yX2_firstsWithFreeBehind, .instanceMethod yX2_firstsWithFreeBehind, .selects RX2 yX2_firstsWithFreeBehind yX2_firstsWithFreeBehind, .initialized RX2, .code yX2_firstsWithFreeBehind cX2_firstsWithFreeBehind 3 (some .int), .fieldLink RX2 22 "OnePlaceEach$Stepped" "seconds" "I", .fieldLink RX2 15 "OnePlaceEach$Stepped" "open" "Z", .methodLink RX2 89 yX2_allPlaces, .instanceMethod yX2_allPlaces, .selects RX2 yX2_allPlaces yX2_allPlaces, .code yX2_allPlaces cX2_allPlaces 1 (some .int), .methodLink RX2 45 yJ6_bitCount_0f7a4, .static yJ6_bitCount_0f7a4, .initialized RJ6, .code yJ6_bitCount_0f7a4 cJ6_bitCount_0f7a4 1 (some .int), .constant RJ6 265 (1431655765), .constant RJ6 266 (858993459), .constant RJ6 267 (252645135)] ++ wsX20)
def wsX2_stepRing : List Cond := .code yX2_stepRing cX2_stepRing 4 none :: ([.fieldLink RX2 9 "OnePlaceEach$Stepped" "places" "I", .fieldLink RX2 19 "OnePlaceEach$Stepped" "firsts" "I", .fieldLink RX2 34 "OnePlaceEach$Stepped" "moved" "I", .methodLink RX2 54 yX2_firstsWithFreeBehind, .instanceMethod yX2_firstsWithFreeBehind, .selects RX2 yX2_firstsWithFreeBehind yX2_firstsWithFreeBehind, .initialized RX2, .code yX2_firstsWithFreeBehind cX2_firstsWithFreeBehind 3 (some .int), .fieldLink RX2 22 "OnePlaceEach$Stepped" "seconds" "I", .fieldLink RX2 15 "OnePlaceEach$Stepped" "open" "Z", .methodLink RX2 89 yX2_allPlaces, .instanceMethod yX2_allPlaces, .selects RX2 yX2_allPlaces yX2_allPlaces, .code yX2_allPlaces cX2_allPlaces 1 (some .int), .methodLink RX2 45 yJ6_bitCount_0f7a4, .static yJ6_bitCount_0f7a4, .initialized RJ6, .code yJ6_bitCount_0f7a4 cJ6_bitCount_0f7a4 1 (some .int), .constant RJ6 265 (1431655765), .constant RJ6 266 (858993459), .constant RJ6 267 (252645135)] ++ wsX20)
def wsX2_stepAllAtOnce_r1 : List Cond := [Cond.fieldLink RX2 34 "OnePlaceEach$Stepped" "moved" "I", Cond.fieldLink RX2 15 "OnePlaceEach$Stepped" "open" "Z", Cond.methodLink RX2 83 yX2_stepOpenRow, Cond.instanceMethod yX2_stepOpenRow, Cond.selects RX2 yX2_stepOpenRow yX2_stepOpenRow, Cond.initialized RX2, Cond.code yX2_stepOpenRow cX2_stepOpenRow 4 none, Cond.fieldLink RX2 19 "OnePlaceEach$Stepped" "firsts" "I", Cond.fieldLink RX2 9 "OnePlaceEach$Stepped" "places" "I", Cond.fieldLink RX2 28 "OnePlaceEach$Stepped" "comeIn" "I", Cond.fieldLink RX2 31 "OnePlaceEach$Stepped" "goneOut" "I", Cond.methodLink RX2 54 yX2_firstsWithFreeBehind, Cond.instanceMethod yX2_firstsWithFreeBehind, Cond.selects RX2 yX2_firstsWithFreeBehind yX2_firstsWithFreeBehind, Cond.code yX2_firstsWithFreeBehind cX2_firstsWithFreeBehind 3 (some .int), Cond.fieldLink RX2 22 "OnePlaceEach$Stepped" "seconds" "I", Cond.methodLink RX2 89 yX2_allPlaces, Cond.instanceMethod yX2_allPlaces, Cond.selects RX2 yX2_allPlaces yX2_allPlaces, Cond.code yX2_allPlaces cX2_allPlaces 1 (some .int), Cond.methodLink RX2 45 yJ6_bitCount_0f7a4, Cond.static yJ6_bitCount_0f7a4, Cond.initialized RJ6, Cond.code yJ6_bitCount_0f7a4 cJ6_bitCount_0f7a4 1 (some .int)]
def wsX2_stepAllAtOnce_r2 : List Cond := [Cond.constant RJ6 265 (1431655765), Cond.constant RJ6 266 (858993459), Cond.constant RJ6 267 (252645135), Cond.methodLink RX2 86 yX2_stepRing, Cond.instanceMethod yX2_stepRing, Cond.selects RX2 yX2_stepRing yX2_stepRing, Cond.code yX2_stepRing cX2_stepRing 4 none]
def wsX2_stepAllAtOnce : List Cond := .code yX2_stepAllAtOnce cX2_stepAllAtOnce 4 (some .int) :: ((wsX2_stepAllAtOnce_r1 ++ wsX2_stepAllAtOnce_r2) ++ wsX20)
def wsX3_init_r1 : List Cond := [Cond.methodLink RX3 1 objectInit, Cond.instanceMethod objectInit, Cond.code objectInit ⟨#[0xb1]⟩ 1 none, Cond.classLink RX3 7 RX0, Cond.instantiable RX0 5, Cond.initialized RX0, Cond.fieldLink RX3 10 "OnePlaceEach" "chain" "LOnePlaceEach$Chain;", Cond.classLink RX3 16 RX2, Cond.instantiable RX2 8, Cond.initialized RX2, Cond.fieldLink RX3 19 "OnePlaceEach" "stepped" "LOnePlaceEach$Stepped;", Cond.methodLink RX3 9 yX0_init, Cond.instanceMethod yX0_init, Cond.code yX0_init cX0_init 1 none, Cond.methodLink RX0 3 objectInit, Cond.arrayClass .long, Cond.fieldLink RX0 9 "OnePlaceEach$Chain" "weights" "[J", Cond.fieldLink RX0 15 "OnePlaceEach$Chain" "sums" "[J", Cond.methodLink RX0 18 yX0_become, Cond.instanceMethod yX0_become, Cond.selects RX0 yX0_become yX0_become, Cond.code yX0_become cX0_become 4 none, Cond.fieldLink RX0 22 "OnePlaceEach$Chain" "places" "I", Cond.fieldLink RX0 26 "OnePlaceEach$Chain" "x" "I"]
def wsX3_init_r2 : List Cond := [Cond.fieldLink RX0 29 "OnePlaceEach$Chain" "y" "I", Cond.methodLink RX0 32 yX0_weighAllWords, Cond.instanceMethod yX0_weighAllWords, Cond.selects RX0 yX0_weighAllWords yX0_weighAllWords, Cond.code yX0_weighAllWords cX0_weighAllWords 7 none, Cond.methodLink RX0 61 yX0_weigh, Cond.instanceMethod yX0_weigh, Cond.selects RX0 yX0_weigh yX0_weigh, Cond.code yX0_weigh cX0_weigh 6 (some .long), Cond.static yX3_isTaken, Cond.initialized RX3, Cond.code yX3_isTaken cX3_isTaken 2 (some .boolean), Cond.methodLink RX0 39 yX0_weightOfWord, Cond.instanceMethod yX0_weightOfWord, Cond.selects RX0 yX0_weightOfWord yX0_weightOfWord, Cond.code yX0_weightOfWord cX0_weightOfWord 4 (some .long), Cond.methodLink RX0 64 yX0_lastOfLeadingTaken, Cond.static yX0_lastOfLeadingTaken, Cond.code yX0_lastOfLeadingTaken cX0_lastOfLeadingTaken 3 (some .int), Cond.instanceMethod yX2_init, Cond.code yX2_init cX2_init 1 none, Cond.methodLink RX2 3 objectInit]
def wsX3_init : List Cond := .code yX3_init cX3_init 1 none :: ((wsX3_init_r1 ++ wsX3_init_r2) ++ wsX00 ++ wsX30 ++ wsX20)
def wsX3_row_r1 : List Cond := [Cond.fieldLink RX3 10 "OnePlaceEach" "chain" "LOnePlaceEach$Chain;", Cond.methodLink RX3 23 yX3_isWithin, Cond.static yX3_isWithin, Cond.initialized RX3, Cond.code yX3_isWithin cX3_isWithin 3 (some .boolean), Cond.methodLink RX3 27 yX0_become, Cond.instanceMethod yX0_become, Cond.selects RX0 yX0_become yX0_become, Cond.initialized RX0, Cond.code yX0_become cX0_become 4 none, Cond.fieldLink RX0 22 "OnePlaceEach$Chain" "places" "I", Cond.fieldLink RX0 26 "OnePlaceEach$Chain" "x" "I", Cond.fieldLink RX0 29 "OnePlaceEach$Chain" "y" "I", Cond.methodLink RX0 32 yX0_weighAllWords, Cond.instanceMethod yX0_weighAllWords, Cond.selects RX0 yX0_weighAllWords yX0_weighAllWords, Cond.code yX0_weighAllWords cX0_weighAllWords 7 none, Cond.fieldLink RX0 9 "OnePlaceEach$Chain" "weights" "[J", Cond.fieldLink RX0 15 "OnePlaceEach$Chain" "sums" "[J", Cond.methodLink RX0 61 yX0_weigh, Cond.instanceMethod yX0_weigh, Cond.selects RX0 yX0_weigh yX0_weigh, Cond.code yX0_weigh cX0_weigh 6 (some .long), Cond.static yX3_isTaken]
def wsX3_row_r2 : List Cond := [Cond.code yX3_isTaken cX3_isTaken 2 (some .boolean), Cond.methodLink RX0 39 yX0_weightOfWord, Cond.instanceMethod yX0_weightOfWord, Cond.selects RX0 yX0_weightOfWord yX0_weightOfWord, Cond.code yX0_weightOfWord cX0_weightOfWord 4 (some .long), Cond.methodLink RX0 64 yX0_lastOfLeadingTaken, Cond.static yX0_lastOfLeadingTaken, Cond.code yX0_lastOfLeadingTaken cX0_lastOfLeadingTaken 3 (some .int), Cond.methodLink RX3 31 yX0_countStates, Cond.instanceMethod yX0_countStates, Cond.selects RX0 yX0_countStates yX0_countStates, Cond.code yX0_countStates cX0_countStates 1 (some .int)]
def wsX3_row : List Cond := .code yX3_row cX3_row 4 (some .int) :: ((wsX3_row_r1 ++ wsX3_row_r2) ++ wsX30 ++ wsX00)
def wsX3_weight : List Cond := .code yX3_weight cX3_weight 2 (some .long) :: ([.fieldLink RX3 10 "OnePlaceEach" "chain" "LOnePlaceEach$Chain;", .constantLong RX3 43 (-1), .methodLink RX3 35 yX0_hasState, .instanceMethod yX0_hasState, .selects RX0 yX0_hasState yX0_hasState, .initialized RX0, .code yX0_hasState cX0_hasState 2 (some .boolean), .methodLink RX0 35 yX0_countStates, .instanceMethod yX0_countStates, .selects RX0 yX0_countStates yX0_countStates, .code yX0_countStates cX0_countStates 1 (some .int), .fieldLink RX0 22 "OnePlaceEach$Chain" "places" "I", .methodLink RX3 39 yX0_weightOf, .instanceMethod yX0_weightOf, .selects RX0 yX0_weightOf yX0_weightOf, .code yX0_weightOf cX0_weightOf 2 (some .long), .methodLink RX0 39 yX0_weightOfWord, .instanceMethod yX0_weightOfWord, .selects RX0 yX0_weightOfWord yX0_weightOfWord, .code yX0_weightOfWord cX0_weightOfWord 4 (some .long), .fieldLink RX0 9 "OnePlaceEach$Chain" "weights" "[J"] ++ wsX30 ++ wsX00)
def wsX3_sum : List Cond := .code yX3_sum cX3_sum 2 (some .long) :: ([.fieldLink RX3 10 "OnePlaceEach" "chain" "LOnePlaceEach$Chain;", .constantLong RX3 43 (-1), .methodLink RX3 23 yX3_isWithin, .static yX3_isWithin, .initialized RX3, .code yX3_isWithin cX3_isWithin 3 (some .boolean), .methodLink RX3 45 yX0_sumOf, .instanceMethod yX0_sumOf, .selects RX0 yX0_sumOf yX0_sumOf, .initialized RX0, .code yX0_sumOf cX0_sumOf 2 (some .long), .fieldLink RX0 15 "OnePlaceEach$Chain" "sums" "[J"] ++ wsX30 ++ wsX00)
def wsX3_greatestCommonDivisor : List Cond := .code yX3_greatestCommonDivisor cX3_greatestCommonDivisor 11 (some .long) :: ([])
def wsX3_partOfFraction : List Cond := .code yX3_partOfFraction cX3_partOfFraction 9 (some .long) :: ([.methodLink RX3 126 yX3_greatestCommonDivisor, .static yX3_greatestCommonDivisor, .initialized RX3, .code yX3_greatestCommonDivisor cX3_greatestCommonDivisor 11 (some .long)])
def wsX3_chance_r1 : List Cond := [Cond.fieldLink RX3 10 "OnePlaceEach" "chain" "LOnePlaceEach$Chain;", Cond.constantLong RX3 43 (-1), Cond.methodLink RX3 35 yX0_hasState, Cond.instanceMethod yX0_hasState, Cond.selects RX0 yX0_hasState yX0_hasState, Cond.initialized RX0, Cond.code yX0_hasState cX0_hasState 2 (some .boolean), Cond.methodLink RX0 35 yX0_countStates, Cond.instanceMethod yX0_countStates, Cond.selects RX0 yX0_countStates yX0_countStates, Cond.code yX0_countStates cX0_countStates 1 (some .int), Cond.fieldLink RX0 22 "OnePlaceEach$Chain" "places" "I", Cond.methodLink RX3 23 yX3_isWithin, Cond.static yX3_isWithin, Cond.initialized RX3, Cond.code yX3_isWithin cX3_isWithin 3 (some .boolean), Cond.methodLink RX3 39 yX0_weightOf, Cond.instanceMethod yX0_weightOf, Cond.selects RX0 yX0_weightOf yX0_weightOf, Cond.code yX0_weightOf cX0_weightOf 2 (some .long), Cond.methodLink RX0 39 yX0_weightOfWord, Cond.instanceMethod yX0_weightOfWord, Cond.selects RX0 yX0_weightOfWord yX0_weightOfWord, Cond.code yX0_weightOfWord cX0_weightOfWord 4 (some .long)]
def wsX3_chance_r2 : List Cond := [Cond.fieldLink RX0 9 "OnePlaceEach$Chain" "weights" "[J", Cond.methodLink RX3 48 yX0_countPlaces, Cond.instanceMethod yX0_countPlaces, Cond.selects RX0 yX0_countPlaces yX0_countPlaces, Cond.code yX0_countPlaces cX0_countPlaces 1 (some .int), Cond.methodLink RX3 45 yX0_sumOf, Cond.instanceMethod yX0_sumOf, Cond.selects RX0 yX0_sumOf yX0_sumOf, Cond.code yX0_sumOf cX0_sumOf 2 (some .long), Cond.fieldLink RX0 15 "OnePlaceEach$Chain" "sums" "[J", Cond.methodLink RX3 51 yX3_partOfFraction, Cond.static yX3_partOfFraction, Cond.code yX3_partOfFraction cX3_partOfFraction 9 (some .long), Cond.methodLink RX3 126 yX3_greatestCommonDivisor, Cond.static yX3_greatestCommonDivisor, Cond.code yX3_greatestCommonDivisor cX3_greatestCommonDivisor 11 (some .long)]
def wsX3_chance : List Cond := .code yX3_chance cX3_chance 3 (some .long) :: ((wsX3_chance_r1 ++ wsX3_chance_r2) ++ wsX30 ++ wsX00)
def wsX3_current : List Cond := .code yX3_current cX3_current 3 (some .long) :: ([.constantLong RX3 43 (-1), .fieldLink RX3 10 "OnePlaceEach" "chain" "LOnePlaceEach$Chain;", .methodLink RX3 23 yX3_isWithin, .static yX3_isWithin, .initialized RX3, .code yX3_isWithin cX3_isWithin 3 (some .boolean), .methodLink RX3 48 yX0_countPlaces, .instanceMethod yX0_countPlaces, .selects RX0 yX0_countPlaces yX0_countPlaces, .initialized RX0, .code yX0_countPlaces cX0_countPlaces 1 (some .int), .fieldLink RX0 22 "OnePlaceEach$Chain" "places" "I", .methodLink RX3 45 yX0_sumOf, .instanceMethod yX0_sumOf, .selects RX0 yX0_sumOf yX0_sumOf, .code yX0_sumOf cX0_sumOf 2 (some .long), .fieldLink RX0 15 "OnePlaceEach$Chain" "sums" "[J", .methodLink RX3 51 yX3_partOfFraction, .static yX3_partOfFraction, .code yX3_partOfFraction cX3_partOfFraction 9 (some .long), .methodLink RX3 126 yX3_greatestCommonDivisor, .static yX3_greatestCommonDivisor, .code yX3_greatestCommonDivisor cX3_greatestCommonDivisor 11 (some .long)] ++ wsX30 ++ wsX00)
def wsX3_taken_r1 : List Cond := [Cond.fieldLink RX3 10 "OnePlaceEach" "chain" "LOnePlaceEach$Chain;", Cond.constantLong RX3 43 (-1), Cond.methodLink RX3 35 yX0_hasState, Cond.instanceMethod yX0_hasState, Cond.selects RX0 yX0_hasState yX0_hasState, Cond.initialized RX0, Cond.code yX0_hasState cX0_hasState 2 (some .boolean), Cond.methodLink RX0 35 yX0_countStates, Cond.instanceMethod yX0_countStates, Cond.selects RX0 yX0_countStates yX0_countStates, Cond.code yX0_countStates cX0_countStates 1 (some .int), Cond.fieldLink RX0 22 "OnePlaceEach$Chain" "places" "I", Cond.methodLink RX3 23 yX3_isWithin, Cond.static yX3_isWithin, Cond.initialized RX3, Cond.code yX3_isWithin cX3_isWithin 3 (some .boolean), Cond.methodLink RX3 55 yX0_sumWithTaken, Cond.instanceMethod yX0_sumWithTaken, Cond.selects RX0 yX0_sumWithTaken yX0_sumWithTaken, Cond.code yX0_sumWithTaken cX0_sumWithTaken 5 (some .long), Cond.methodLink RX0 43 yX0_weightOf, Cond.instanceMethod yX0_weightOf, Cond.selects RX0 yX0_weightOf yX0_weightOf, Cond.code yX0_weightOf cX0_weightOf 2 (some .long)]
def wsX3_taken_r2 : List Cond := [Cond.methodLink RX0 39 yX0_weightOfWord, Cond.instanceMethod yX0_weightOfWord, Cond.selects RX0 yX0_weightOfWord yX0_weightOfWord, Cond.code yX0_weightOfWord cX0_weightOfWord 4 (some .long), Cond.fieldLink RX0 9 "OnePlaceEach$Chain" "weights" "[J", Cond.methodLink RX3 48 yX0_countPlaces, Cond.instanceMethod yX0_countPlaces, Cond.selects RX0 yX0_countPlaces yX0_countPlaces, Cond.code yX0_countPlaces cX0_countPlaces 1 (some .int), Cond.methodLink RX3 45 yX0_sumOf, Cond.instanceMethod yX0_sumOf, Cond.selects RX0 yX0_sumOf yX0_sumOf, Cond.code yX0_sumOf cX0_sumOf 2 (some .long), Cond.fieldLink RX0 15 "OnePlaceEach$Chain" "sums" "[J", Cond.methodLink RX3 51 yX3_partOfFraction, Cond.static yX3_partOfFraction, Cond.code yX3_partOfFraction cX3_partOfFraction 9 (some .long), Cond.methodLink RX3 126 yX3_greatestCommonDivisor, Cond.static yX3_greatestCommonDivisor, Cond.code yX3_greatestCommonDivisor cX3_greatestCommonDivisor 11 (some .long)]
def wsX3_taken : List Cond := .code yX3_taken cX3_taken 3 (some .long) :: ((wsX3_taken_r1 ++ wsX3_taken_r2) ++ wsX30 ++ wsX00)
def wsX3_flow_r1 : List Cond := [Cond.fieldLink RX3 10 "OnePlaceEach" "chain" "LOnePlaceEach$Chain;", Cond.constantLong RX3 43 (-1), Cond.methodLink RX3 35 yX0_hasState, Cond.instanceMethod yX0_hasState, Cond.selects RX0 yX0_hasState yX0_hasState, Cond.initialized RX0, Cond.code yX0_hasState cX0_hasState 2 (some .boolean), Cond.methodLink RX0 35 yX0_countStates, Cond.instanceMethod yX0_countStates, Cond.selects RX0 yX0_countStates yX0_countStates, Cond.code yX0_countStates cX0_countStates 1 (some .int), Cond.fieldLink RX0 22 "OnePlaceEach$Chain" "places" "I", Cond.methodLink RX3 23 yX3_isWithin, Cond.static yX3_isWithin, Cond.initialized RX3, Cond.code yX3_isWithin cX3_isWithin 3 (some .boolean), Cond.methodLink RX3 58 yX0_flowInto, Cond.instanceMethod yX0_flowInto, Cond.selects RX0 yX0_flowInto yX0_flowInto, Cond.code yX0_flowInto cX0_flowInto 5 (some .long), Cond.static yX3_isTaken, Cond.code yX3_isTaken cX3_isTaken 2 (some .boolean), Cond.methodLink RX0 43 yX0_weightOf, Cond.instanceMethod yX0_weightOf]
def wsX3_flow_r2 : List Cond := [Cond.selects RX0 yX0_weightOf yX0_weightOf, Cond.code yX0_weightOf cX0_weightOf 2 (some .long), Cond.methodLink RX0 39 yX0_weightOfWord, Cond.instanceMethod yX0_weightOfWord, Cond.selects RX0 yX0_weightOfWord yX0_weightOfWord, Cond.code yX0_weightOfWord cX0_weightOfWord 4 (some .long), Cond.fieldLink RX0 9 "OnePlaceEach$Chain" "weights" "[J", Cond.methodLink RX0 51 yX0_rateIn, Cond.instanceMethod yX0_rateIn, Cond.selects RX0 yX0_rateIn yX0_rateIn, Cond.code yX0_rateIn cX0_rateIn 1 (some .long), Cond.fieldLink RX0 29 "OnePlaceEach$Chain" "y" "I", Cond.methodLink RX0 55 yX0_rateOut, Cond.instanceMethod yX0_rateOut, Cond.selects RX0 yX0_rateOut yX0_rateOut, Cond.code yX0_rateOut cX0_rateOut 1 (some .long), Cond.fieldLink RX0 26 "OnePlaceEach$Chain" "x" "I", Cond.methodLink RX0 58 yX0_rateOfStep, Cond.instanceMethod yX0_rateOfStep, Cond.selects RX0 yX0_rateOfStep yX0_rateOfStep, Cond.code yX0_rateOfStep cX0_rateOfStep 1 (some .long), Cond.methodLink RX3 61 yX0_flowOutOf, Cond.instanceMethod yX0_flowOutOf, Cond.selects RX0 yX0_flowOutOf yX0_flowOutOf]
def wsX3_flow_r3 : List Cond := [Cond.code yX0_flowOutOf cX0_flowOutOf 5 (some .long)]
def wsX3_flow : List Cond := .code yX3_flow cX3_flow 3 (some .long) :: ((wsX3_flow_r1 ++ (wsX3_flow_r2 ++ wsX3_flow_r3)) ++ wsX30 ++ wsX00)
def wsX3_extreme_r1 : List Cond := [Cond.fieldLink RX3 10 "OnePlaceEach" "chain" "LOnePlaceEach$Chain;", Cond.methodLink RX3 23 yX3_isWithin, Cond.static yX3_isWithin, Cond.initialized RX3, Cond.code yX3_isWithin cX3_isWithin 3 (some .boolean), Cond.methodLink RX3 64 yX0_heaviestState, Cond.instanceMethod yX0_heaviestState, Cond.selects RX0 yX0_heaviestState yX0_heaviestState, Cond.initialized RX0, Cond.code yX0_heaviestState cX0_heaviestState 3 (some .int), Cond.methodLink RX0 35 yX0_countStates, Cond.instanceMethod yX0_countStates, Cond.selects RX0 yX0_countStates yX0_countStates, Cond.code yX0_countStates cX0_countStates 1 (some .int), Cond.fieldLink RX0 22 "OnePlaceEach$Chain" "places" "I", Cond.methodLink RX0 43 yX0_weightOf, Cond.instanceMethod yX0_weightOf, Cond.selects RX0 yX0_weightOf yX0_weightOf, Cond.code yX0_weightOf cX0_weightOf 2 (some .long), Cond.methodLink RX0 39 yX0_weightOfWord, Cond.instanceMethod yX0_weightOfWord, Cond.selects RX0 yX0_weightOfWord yX0_weightOfWord, Cond.code yX0_weightOfWord cX0_weightOfWord 4 (some .long), Cond.fieldLink RX0 9 "OnePlaceEach$Chain" "weights" "[J"]
def wsX3_extreme_r2 : List Cond := [Cond.methodLink RX3 67 yX0_lightestState, Cond.instanceMethod yX0_lightestState, Cond.selects RX0 yX0_lightestState yX0_lightestState, Cond.code yX0_lightestState cX0_lightestState 3 (some .int)]
def wsX3_extreme : List Cond := .code yX3_extreme cX3_extreme 2 (some .int) :: ((wsX3_extreme_r1 ++ wsX3_extreme_r2) ++ wsX30 ++ wsX00)
def wsX3_queue_r1 : List Cond := [Cond.methodLink RX3 23 yX3_isWithin, Cond.static yX3_isWithin, Cond.initialized RX3, Cond.code yX3_isWithin cX3_isWithin 3 (some .boolean), Cond.methodLink RX3 70 yX1_areRows, Cond.static yX1_areRows, Cond.initialized RX1, Cond.code yX1_areRows cX1_areRows 4 (some .boolean), Cond.methodLink RX1 13 yJ6_bitCount_0f7a4, Cond.static yJ6_bitCount_0f7a4, Cond.initialized RJ6, Cond.code yJ6_bitCount_0f7a4 cJ6_bitCount_0f7a4 1 (some .int), Cond.constant RJ6 265 (1431655765), Cond.constant RJ6 266 (858993459), Cond.constant RJ6 267 (252645135), Cond.methodLink RX3 75 yX1_servedPlaces, Cond.static yX1_servedPlaces, Cond.code yX1_servedPlaces cX1_servedPlaces 5 (some .int), Cond.static yX3_isTaken, Cond.code yX3_isTaken cX3_isTaken 2 (some .boolean), Cond.methodLink RX1 23 yX1_firstFrom, Cond.static yX1_firstFrom, Cond.code yX1_firstFrom cX1_firstFrom 5 (some .int), Cond.methodLink RX3 79 yX1_numberOf]
def wsX3_queue_r2 : List Cond := [Cond.static yX1_numberOf, Cond.code yX1_numberOf cX1_numberOf 6 (some .int)]
def wsX3_queue : List Cond := .code yX3_queue cX3_queue 4 (some .int) :: ((wsX3_queue_r1 ++ wsX3_queue_r2))
def wsX3_ways_r1 : List Cond := [Cond.methodLink RX3 23 yX3_isWithin, Cond.static yX3_isWithin, Cond.initialized RX3, Cond.code yX3_isWithin cX3_isWithin 3 (some .boolean), Cond.methodLink RX3 82 yX1_greatestNumber, Cond.static yX1_greatestNumber, Cond.initialized RX1, Cond.code yX1_greatestNumber cX1_greatestNumber 3 (some .int), Cond.methodLink RX3 86 yX1_placesOfSort, Cond.static yX1_placesOfSort, Cond.code yX1_placesOfSort cX1_placesOfSort 6 (some .int), Cond.methodLink RX3 89 yX1_countUpperRows, Cond.static yX1_countUpperRows, Cond.code yX1_countUpperRows cX1_countUpperRows 5 (some .int), Cond.methodLink RX1 13 yJ6_bitCount_0f7a4, Cond.static yJ6_bitCount_0f7a4, Cond.initialized RJ6, Cond.code yJ6_bitCount_0f7a4 cJ6_bitCount_0f7a4 1 (some .int), Cond.constant RJ6 265 (1431655765), Cond.constant RJ6 266 (858993459), Cond.constant RJ6 267 (252645135), Cond.methodLink RX1 29 yX1_servedPlaces, Cond.static yX1_servedPlaces, Cond.code yX1_servedPlaces cX1_servedPlaces 5 (some .int)]
def wsX3_ways_r2 : List Cond := [Cond.static yX3_isTaken, Cond.code yX3_isTaken cX3_isTaken 2 (some .boolean), Cond.methodLink RX1 23 yX1_firstFrom, Cond.static yX1_firstFrom, Cond.code yX1_firstFrom cX1_firstFrom 5 (some .int)]
def wsX3_ways : List Cond := .code yX3_ways cX3_ways 6 (some .int) :: ((wsX3_ways_r1 ++ wsX3_ways_r2))
def wsX3_step : List Cond := .code yX3_step cX3_step 3 (some .int) :: ([.fieldLink RX3 19 "OnePlaceEach" "stepped" "LOnePlaceEach$Stepped;", .methodLink RX3 23 yX3_isWithin, .static yX3_isWithin, .initialized RX3, .code yX3_isWithin cX3_isWithin 3 (some .boolean), .methodLink RX3 92 yX2_begin, .instanceMethod yX2_begin, .selects RX2 yX2_begin yX2_begin, .initialized RX2, .code yX2_begin cX2_begin 3 none, .fieldLink RX2 9 "OnePlaceEach$Stepped" "places" "I", .fieldLink RX2 15 "OnePlaceEach$Stepped" "open" "Z", .fieldLink RX2 19 "OnePlaceEach$Stepped" "firsts" "I", .fieldLink RX2 22 "OnePlaceEach$Stepped" "seconds" "I", .fieldLink RX2 25 "OnePlaceEach$Stepped" "lot" "I", .fieldLink RX2 28 "OnePlaceEach$Stepped" "comeIn" "I", .fieldLink RX2 31 "OnePlaceEach$Stepped" "goneOut" "I", .fieldLink RX2 34 "OnePlaceEach$Stepped" "moved" "I"] ++ wsX30 ++ wsX20)
def wsX3_set_r1 : List Cond := [Cond.fieldLink RX3 19 "OnePlaceEach" "stepped" "LOnePlaceEach$Stepped;", Cond.methodLink RX3 96 yX2_mayHavePlace, Cond.instanceMethod yX2_mayHavePlace, Cond.selects RX2 yX2_mayHavePlace yX2_mayHavePlace, Cond.initialized RX2, Cond.code yX2_mayHavePlace cX2_mayHavePlace 2 (some .boolean), Cond.fieldLink RX2 9 "OnePlaceEach$Stepped" "places" "I", Cond.methodLink RX2 37 yX2_isThere, Cond.instanceMethod yX2_isThere, Cond.selects RX2 yX2_isThere yX2_isThere, Cond.code yX2_isThere cX2_isThere 1 (some .boolean), Cond.methodLink RX3 23 yX3_isWithin, Cond.static yX3_isWithin, Cond.initialized RX3, Cond.code yX3_isWithin cX3_isWithin 3 (some .boolean), Cond.methodLink RX3 99 yX2_isThere, Cond.methodLink RX3 103 yX2_sortAt, Cond.instanceMethod yX2_sortAt, Cond.selects RX2 yX2_sortAt yX2_sortAt, Cond.code yX2_sortAt cX2_sortAt 2 (some .int), Cond.fieldLink RX2 19 "OnePlaceEach$Stepped" "firsts" "I", Cond.fieldLink RX2 22 "OnePlaceEach$Stepped" "seconds" "I", Cond.static yX3_isTaken, Cond.code yX3_isTaken cX3_isTaken 2 (some .boolean)]
def wsX3_set_r2 : List Cond := [Cond.methodLink RX3 106 yX2_put, Cond.instanceMethod yX2_put, Cond.selects RX2 yX2_put yX2_put, Cond.code yX2_put cX2_put 4 none]
def wsX3_set : List Cond := .code yX3_set cX3_set 4 (some .int) :: ((wsX3_set_r1 ++ wsX3_set_r2) ++ wsX30 ++ wsX20)
def wsX3_seed : List Cond := .code yX3_seed cX3_seed 2 (some .int) :: ([.fieldLink RX3 19 "OnePlaceEach" "stepped" "LOnePlaceEach$Stepped;", .methodLink RX3 99 yX2_isThere, .instanceMethod yX2_isThere, .selects RX2 yX2_isThere yX2_isThere, .initialized RX2, .code yX2_isThere cX2_isThere 1 (some .boolean), .fieldLink RX2 9 "OnePlaceEach$Stepped" "places" "I", .methodLink RX3 110 yX2_sow, .instanceMethod yX2_sow, .selects RX2 yX2_sow yX2_sow, .code yX2_sow cX2_sow 2 none, .fieldLink RX2 25 "OnePlaceEach$Stepped" "lot" "I"] ++ wsX30 ++ wsX20)
def wsX3_go_r1 : List Cond := [Cond.fieldLink RX3 19 "OnePlaceEach" "stepped" "LOnePlaceEach$Stepped;", Cond.methodLink RX3 23 yX3_isWithin, Cond.static yX3_isWithin, Cond.initialized RX3, Cond.code yX3_isWithin cX3_isWithin 3 (some .boolean), Cond.methodLink RX3 99 yX2_isThere, Cond.instanceMethod yX2_isThere, Cond.selects RX2 yX2_isThere yX2_isThere, Cond.initialized RX2, Cond.code yX2_isThere cX2_isThere 1 (some .boolean), Cond.fieldLink RX2 9 "OnePlaceEach$Stepped" "places" "I", Cond.methodLink RX3 114 yX2_stepSingly, Cond.instanceMethod yX2_stepSingly, Cond.selects RX2 yX2_stepSingly yX2_stepSingly, Cond.code yX2_stepSingly cX2_stepSingly 4 (some .int), Cond.methodLink RX2 58 yX2_draw, Cond.instanceMethod yX2_draw, Cond.selects RX2 yX2_draw yX2_draw, Cond.code yX2_draw cX2_draw 2 (some .int), Cond.fieldLink RX2 25 "OnePlaceEach$Stepped" "lot" "I", Cond.constant RX2 65 (1103515245), Cond.constant RX2 66 (2147483647), Cond.methodLink RX2 61 yX2_stepOnce, Cond.instanceMethod yX2_stepOnce]
def wsX3_go_r2 : List Cond := [Cond.selects RX2 yX2_stepOnce yX2_stepOnce, Cond.code yX2_stepOnce cX2_stepOnce 3 (some .boolean), Cond.fieldLink RX2 15 "OnePlaceEach$Stepped" "open" "Z", Cond.methodLink RX2 67 yX2_exchange, Cond.instanceMethod yX2_exchange, Cond.selects RX2 yX2_exchange yX2_exchange, Cond.code yX2_exchange cX2_exchange 6 (some .boolean), Cond.fieldLink RX2 34 "OnePlaceEach$Stepped" "moved" "I", Cond.methodLink RX2 76 yX2_sortAt, Cond.instanceMethod yX2_sortAt, Cond.selects RX2 yX2_sortAt yX2_sortAt, Cond.code yX2_sortAt cX2_sortAt 2 (some .int), Cond.fieldLink RX2 19 "OnePlaceEach$Stepped" "firsts" "I", Cond.fieldLink RX2 22 "OnePlaceEach$Stepped" "seconds" "I", Cond.static yX3_isTaken, Cond.code yX3_isTaken cX3_isTaken 2 (some .boolean), Cond.methodLink RX2 79 yX2_put, Cond.instanceMethod yX2_put, Cond.selects RX2 yX2_put yX2_put, Cond.code yX2_put cX2_put 4 none, Cond.methodLink RX2 70 yX2_comeToFirstPlace, Cond.instanceMethod yX2_comeToFirstPlace, Cond.selects RX2 yX2_comeToFirstPlace yX2_comeToFirstPlace, Cond.code yX2_comeToFirstPlace cX2_comeToFirstPlace 2 (some .boolean)]
def wsX3_go_r3 : List Cond := [Cond.fieldLink RX2 31 "OnePlaceEach$Stepped" "goneOut" "I", Cond.fieldLink RX2 28 "OnePlaceEach$Stepped" "comeIn" "I", Cond.methodLink RX2 73 yX2_goFromLastPlace, Cond.instanceMethod yX2_goFromLastPlace, Cond.selects RX2 yX2_goFromLastPlace yX2_goFromLastPlace, Cond.code yX2_goFromLastPlace cX2_goFromLastPlace 1 (some .boolean)]
def wsX3_go : List Cond := .code yX3_go cX3_go 2 (some .int) :: ((wsX3_go_r1 ++ (wsX3_go_r2 ++ wsX3_go_r3)) ++ wsX30 ++ wsX20)
def wsX3_together_r1 : List Cond := [Cond.fieldLink RX3 19 "OnePlaceEach" "stepped" "LOnePlaceEach$Stepped;", Cond.methodLink RX3 23 yX3_isWithin, Cond.static yX3_isWithin, Cond.initialized RX3, Cond.code yX3_isWithin cX3_isWithin 3 (some .boolean), Cond.methodLink RX3 99 yX2_isThere, Cond.instanceMethod yX2_isThere, Cond.selects RX2 yX2_isThere yX2_isThere, Cond.initialized RX2, Cond.code yX2_isThere cX2_isThere 1 (some .boolean), Cond.fieldLink RX2 9 "OnePlaceEach$Stepped" "places" "I", Cond.methodLink RX3 117 yX2_countOfSort, Cond.instanceMethod yX2_countOfSort, Cond.selects RX2 yX2_countOfSort yX2_countOfSort, Cond.code yX2_countOfSort cX2_countOfSort 2 (some .int), Cond.fieldLink RX2 19 "OnePlaceEach$Stepped" "firsts" "I", Cond.fieldLink RX2 22 "OnePlaceEach$Stepped" "seconds" "I", Cond.methodLink RX2 45 yJ6_bitCount_0f7a4, Cond.static yJ6_bitCount_0f7a4, Cond.initialized RJ6, Cond.code yJ6_bitCount_0f7a4 cJ6_bitCount_0f7a4 1 (some .int), Cond.constant RJ6 265 (1431655765), Cond.constant RJ6 266 (858993459), Cond.constant RJ6 267 (252645135)]
def wsX3_together_r2 : List Cond := [Cond.methodLink RX3 120 yX2_stepAllAtOnce, Cond.instanceMethod yX2_stepAllAtOnce, Cond.selects RX2 yX2_stepAllAtOnce yX2_stepAllAtOnce, Cond.code yX2_stepAllAtOnce cX2_stepAllAtOnce 4 (some .int), Cond.fieldLink RX2 34 "OnePlaceEach$Stepped" "moved" "I", Cond.fieldLink RX2 15 "OnePlaceEach$Stepped" "open" "Z", Cond.methodLink RX2 83 yX2_stepOpenRow, Cond.instanceMethod yX2_stepOpenRow, Cond.selects RX2 yX2_stepOpenRow yX2_stepOpenRow, Cond.code yX2_stepOpenRow cX2_stepOpenRow 4 none, Cond.fieldLink RX2 28 "OnePlaceEach$Stepped" "comeIn" "I", Cond.fieldLink RX2 31 "OnePlaceEach$Stepped" "goneOut" "I", Cond.methodLink RX2 54 yX2_firstsWithFreeBehind, Cond.instanceMethod yX2_firstsWithFreeBehind, Cond.selects RX2 yX2_firstsWithFreeBehind yX2_firstsWithFreeBehind, Cond.code yX2_firstsWithFreeBehind cX2_firstsWithFreeBehind 3 (some .int), Cond.methodLink RX2 89 yX2_allPlaces, Cond.instanceMethod yX2_allPlaces, Cond.selects RX2 yX2_allPlaces yX2_allPlaces, Cond.code yX2_allPlaces cX2_allPlaces 1 (some .int), Cond.methodLink RX2 86 yX2_stepRing, Cond.instanceMethod yX2_stepRing, Cond.selects RX2 yX2_stepRing yX2_stepRing, Cond.code yX2_stepRing cX2_stepRing 4 none]
def wsX3_together : List Cond := .code yX3_together cX3_together 2 (some .int) :: ((wsX3_together_r1 ++ wsX3_together_r2) ++ wsX30 ++ wsX20)
def wsX3_at : List Cond := .code yX3_at cX3_at 2 (some .int) :: ([.fieldLink RX3 19 "OnePlaceEach" "stepped" "LOnePlaceEach$Stepped;", .methodLink RX3 96 yX2_mayHavePlace, .instanceMethod yX2_mayHavePlace, .selects RX2 yX2_mayHavePlace yX2_mayHavePlace, .initialized RX2, .code yX2_mayHavePlace cX2_mayHavePlace 2 (some .boolean), .fieldLink RX2 9 "OnePlaceEach$Stepped" "places" "I", .methodLink RX2 37 yX2_isThere, .instanceMethod yX2_isThere, .selects RX2 yX2_isThere yX2_isThere, .code yX2_isThere cX2_isThere 1 (some .boolean), .methodLink RX3 99 yX2_isThere, .methodLink RX3 103 yX2_sortAt, .instanceMethod yX2_sortAt, .selects RX2 yX2_sortAt yX2_sortAt, .code yX2_sortAt cX2_sortAt 2 (some .int), .fieldLink RX2 19 "OnePlaceEach$Stepped" "firsts" "I", .fieldLink RX2 22 "OnePlaceEach$Stepped" "seconds" "I", .static yX3_isTaken, .initialized RX3, .code yX3_isTaken cX3_isTaken 2 (some .boolean)] ++ wsX30 ++ wsX20)
def wsX3_told_r1 : List Cond := [Cond.fieldLink RX3 19 "OnePlaceEach" "stepped" "LOnePlaceEach$Stepped;", Cond.methodLink RX3 23 yX3_isWithin, Cond.static yX3_isWithin, Cond.initialized RX3, Cond.code yX3_isWithin cX3_isWithin 3 (some .boolean), Cond.methodLink RX3 99 yX2_isThere, Cond.instanceMethod yX2_isThere, Cond.selects RX2 yX2_isThere yX2_isThere, Cond.initialized RX2, Cond.code yX2_isThere cX2_isThere 1 (some .boolean), Cond.fieldLink RX2 9 "OnePlaceEach$Stepped" "places" "I", Cond.methodLink RX3 123 yX2_tell, Cond.instanceMethod yX2_tell, Cond.selects RX2 yX2_tell yX2_tell, Cond.code yX2_tell cX2_tell 2 (some .int), Cond.fieldLink RX2 15 "OnePlaceEach$Stepped" "open" "Z", Cond.fieldLink RX2 28 "OnePlaceEach$Stepped" "comeIn" "I", Cond.fieldLink RX2 31 "OnePlaceEach$Stepped" "goneOut" "I", Cond.fieldLink RX2 34 "OnePlaceEach$Stepped" "moved" "I", Cond.methodLink RX2 51 yX2_countOfSort, Cond.instanceMethod yX2_countOfSort, Cond.selects RX2 yX2_countOfSort yX2_countOfSort, Cond.code yX2_countOfSort cX2_countOfSort 2 (some .int), Cond.fieldLink RX2 19 "OnePlaceEach$Stepped" "firsts" "I"]
def wsX3_told_r2 : List Cond := [Cond.fieldLink RX2 22 "OnePlaceEach$Stepped" "seconds" "I", Cond.methodLink RX2 45 yJ6_bitCount_0f7a4, Cond.static yJ6_bitCount_0f7a4, Cond.initialized RJ6, Cond.code yJ6_bitCount_0f7a4 cJ6_bitCount_0f7a4 1 (some .int), Cond.constant RJ6 265 (1431655765), Cond.constant RJ6 266 (858993459), Cond.constant RJ6 267 (252645135), Cond.methodLink RX2 54 yX2_firstsWithFreeBehind, Cond.instanceMethod yX2_firstsWithFreeBehind, Cond.selects RX2 yX2_firstsWithFreeBehind yX2_firstsWithFreeBehind, Cond.code yX2_firstsWithFreeBehind cX2_firstsWithFreeBehind 3 (some .int), Cond.methodLink RX2 89 yX2_allPlaces, Cond.instanceMethod yX2_allPlaces, Cond.selects RX2 yX2_allPlaces yX2_allPlaces, Cond.code yX2_allPlaces cX2_allPlaces 1 (some .int)]
def wsX3_told : List Cond := .code yX3_told cX3_told 2 (some .int) :: ((wsX3_told_r1 ++ wsX3_told_r2) ++ wsX30 ++ wsX20)
def wsX4_weigh : List Cond := .code yX4_weigh cX4_weigh 3 (some .long) :: ([.fieldLink RX4 19 "OnePlaceEachModel" "weights" "[J"] ++ wsX40)
def wsX4_fills : List Cond := .code yX4_fills cX4_fills 7 none :: ([.fieldLink RX4 19 "OnePlaceEachModel" "weights" "[J", .fieldLink RX4 13 "OnePlaceEachModel" "x" "I", .fieldLink RX4 16 "OnePlaceEachModel" "y" "I", .methodLink RX4 37 yX4_weigh, .instanceMethod yX4_weigh, .selects RX4 yX4_weigh yX4_weigh, .initialized RX4, .code yX4_weigh cX4_weigh 3 (some .long)] ++ wsX40)
def wsX4_init : List Cond := .code yX4_init cX4_init 1 none :: ([.methodLink RX4 1 objectInit, .instanceMethod objectInit, .code objectInit ⟨#[0xb1]⟩ 1 none, .fieldLink RX4 7 "OnePlaceEachModel" "n" "I", .fieldLink RX4 13 "OnePlaceEachModel" "x" "I", .fieldLink RX4 16 "OnePlaceEachModel" "y" "I", .arrayClass .long, .fieldLink RX4 19 "OnePlaceEachModel" "weights" "[J", .fieldLink RX4 23 "OnePlaceEachModel" "seed" "J", .arrayClass .int, .fieldLink RX4 27 "OnePlaceEachModel" "sorts" "[I", .fieldLink RX4 31 "OnePlaceEachModel" "before" "[I", .methodLink RX4 34 yX4_fills, .instanceMethod yX4_fills, .selects RX4 yX4_fills yX4_fills, .initialized RX4, .code yX4_fills cX4_fills 7 none, .methodLink RX4 37 yX4_weigh, .instanceMethod yX4_weigh, .selects RX4 yX4_weigh yX4_weigh, .code yX4_weigh cX4_weigh 3 (some .long)] ++ wsX40)
def wsX4_in : List Cond := .code yX4_in cX4_in 6 (some .boolean) :: ([])
def wsX4_row : List Cond := .code yX4_row cX4_row 4 (some .int) :: ([.constantLong RX4 41 (8), .constantLong RX4 47 (9), .fieldLink RX4 7 "OnePlaceEachModel" "n" "I", .fieldLink RX4 13 "OnePlaceEachModel" "x" "I", .fieldLink RX4 16 "OnePlaceEachModel" "y" "I", .methodLink RX4 43 yX4_in, .static yX4_in, .initialized RX4, .code yX4_in cX4_in 6 (some .boolean), .methodLink RX4 34 yX4_fills, .instanceMethod yX4_fills, .selects RX4 yX4_fills yX4_fills, .code yX4_fills cX4_fills 7 none, .fieldLink RX4 19 "OnePlaceEachModel" "weights" "[J", .methodLink RX4 37 yX4_weigh, .instanceMethod yX4_weigh, .selects RX4 yX4_weigh yX4_weigh, .code yX4_weigh cX4_weigh 3 (some .long)] ++ wsX40)
def wsX4_isState : List Cond := .code yX4_isState cX4_isState 2 (some .boolean) :: ([.fieldLink RX4 7 "OnePlaceEachModel" "n" "I", .methodLink RX4 43 yX4_in, .static yX4_in, .initialized RX4, .code yX4_in cX4_in 6 (some .boolean)] ++ wsX40)
def wsX4_weight : List Cond := .code yX4_weight cX4_weight 2 (some .long) :: ([.fieldLink RX4 7 "OnePlaceEachModel" "n" "I", .constantLong RX4 53 (-1), .methodLink RX4 49 yX4_isState, .instanceMethod yX4_isState, .selects RX4 yX4_isState yX4_isState, .initialized RX4, .code yX4_isState cX4_isState 2 (some .boolean), .methodLink RX4 43 yX4_in, .static yX4_in, .code yX4_in cX4_in 6 (some .boolean), .methodLink RX4 37 yX4_weigh, .instanceMethod yX4_weigh, .selects RX4 yX4_weigh yX4_weigh, .code yX4_weigh cX4_weigh 3 (some .long), .fieldLink RX4 19 "OnePlaceEachModel" "weights" "[J"] ++ wsX40)
def wsX4_sumOf : List Cond := .code yX4_sumOf cX4_sumOf 5 (some .long) :: ([.methodLink RX4 37 yX4_weigh, .instanceMethod yX4_weigh, .selects RX4 yX4_weigh yX4_weigh, .initialized RX4, .code yX4_weigh cX4_weigh 3 (some .long), .fieldLink RX4 19 "OnePlaceEachModel" "weights" "[J"] ++ wsX40)
def wsX4_sum : List Cond := .code yX4_sum cX4_sum 2 (some .long) :: ([.constantLong RX4 41 (8), .constantLong RX4 53 (-1), .methodLink RX4 43 yX4_in, .static yX4_in, .initialized RX4, .code yX4_in cX4_in 6 (some .boolean), .methodLink RX4 55 yX4_sumOf, .instanceMethod yX4_sumOf, .selects RX4 yX4_sumOf yX4_sumOf, .code yX4_sumOf cX4_sumOf 5 (some .long), .methodLink RX4 37 yX4_weigh, .instanceMethod yX4_weigh, .selects RX4 yX4_weigh yX4_weigh, .code yX4_weigh cX4_weigh 3 (some .long), .fieldLink RX4 19 "OnePlaceEachModel" "weights" "[J"] ++ wsX40)
def wsX4_least : List Cond := .code yX4_least cX4_least 11 (some .long) :: ([])
def wsX4_chance : List Cond := .code yX4_chance cX4_chance 3 (some .long) :: ([.fieldLink RX4 7 "OnePlaceEachModel" "n" "I", .constantLong RX4 53 (-1), .methodLink RX4 49 yX4_isState, .instanceMethod yX4_isState, .selects RX4 yX4_isState yX4_isState, .initialized RX4, .code yX4_isState cX4_isState 2 (some .boolean), .methodLink RX4 43 yX4_in, .static yX4_in, .code yX4_in cX4_in 6 (some .boolean), .methodLink RX4 37 yX4_weigh, .instanceMethod yX4_weigh, .selects RX4 yX4_weigh yX4_weigh, .code yX4_weigh cX4_weigh 3 (some .long), .fieldLink RX4 19 "OnePlaceEachModel" "weights" "[J", .methodLink RX4 55 yX4_sumOf, .instanceMethod yX4_sumOf, .selects RX4 yX4_sumOf yX4_sumOf, .code yX4_sumOf cX4_sumOf 5 (some .long), .methodLink RX4 59 yX4_least, .static yX4_least, .code yX4_least cX4_least 11 (some .long)] ++ wsX40)
def wsX4_current : List Cond := .code yX4_current cX4_current 2 (some .long) :: ([.fieldLink RX4 7 "OnePlaceEachModel" "n" "I", .constantLong RX4 53 (-1), .methodLink RX4 43 yX4_in, .static yX4_in, .initialized RX4, .code yX4_in cX4_in 6 (some .boolean), .methodLink RX4 55 yX4_sumOf, .instanceMethod yX4_sumOf, .selects RX4 yX4_sumOf yX4_sumOf, .code yX4_sumOf cX4_sumOf 5 (some .long), .methodLink RX4 37 yX4_weigh, .instanceMethod yX4_weigh, .selects RX4 yX4_weigh yX4_weigh, .code yX4_weigh cX4_weigh 3 (some .long), .fieldLink RX4 19 "OnePlaceEachModel" "weights" "[J", .methodLink RX4 59 yX4_least, .static yX4_least, .code yX4_least cX4_least 11 (some .long)] ++ wsX40)
def wsX4_taken : List Cond := .code yX4_taken cX4_taken 6 (some .long) :: ([.constantLong RX4 53 (-1), .fieldLink RX4 7 "OnePlaceEachModel" "n" "I", .methodLink RX4 49 yX4_isState, .instanceMethod yX4_isState, .selects RX4 yX4_isState yX4_isState, .initialized RX4, .code yX4_isState cX4_isState 2 (some .boolean), .methodLink RX4 43 yX4_in, .static yX4_in, .code yX4_in cX4_in 6 (some .boolean), .methodLink RX4 37 yX4_weigh, .instanceMethod yX4_weigh, .selects RX4 yX4_weigh yX4_weigh, .code yX4_weigh cX4_weigh 3 (some .long), .fieldLink RX4 19 "OnePlaceEachModel" "weights" "[J", .methodLink RX4 55 yX4_sumOf, .instanceMethod yX4_sumOf, .selects RX4 yX4_sumOf yX4_sumOf, .code yX4_sumOf cX4_sumOf 5 (some .long), .methodLink RX4 59 yX4_least, .static yX4_least, .code yX4_least cX4_least 11 (some .long)] ++ wsX40)
def wsX4_happens : List Cond := .code yX4_happens cX4_happens 3 (some .long) :: ([.fieldLink RX4 7 "OnePlaceEachModel" "n" "I", .fieldLink RX4 63 "OnePlaceEachModel" "leadsTo" "I", .fieldLink RX4 16 "OnePlaceEachModel" "y" "I", .fieldLink RX4 13 "OnePlaceEachModel" "x" "I"] ++ wsX40)
def wsX4_flow : List Cond := .code yX4_flow cX4_flow 9 (some .long) :: ([.constantLong RX4 53 (-1), .fieldLink RX4 7 "OnePlaceEachModel" "n" "I", .fieldLink RX4 63 "OnePlaceEachModel" "leadsTo" "I", .methodLink RX4 49 yX4_isState, .instanceMethod yX4_isState, .selects RX4 yX4_isState yX4_isState, .initialized RX4, .code yX4_isState cX4_isState 2 (some .boolean), .methodLink RX4 43 yX4_in, .static yX4_in, .code yX4_in cX4_in 6 (some .boolean), .methodLink RX4 37 yX4_weigh, .instanceMethod yX4_weigh, .selects RX4 yX4_weigh yX4_weigh, .code yX4_weigh cX4_weigh 3 (some .long), .fieldLink RX4 19 "OnePlaceEachModel" "weights" "[J", .methodLink RX4 66 yX4_happens, .instanceMethod yX4_happens, .selects RX4 yX4_happens yX4_happens, .code yX4_happens cX4_happens 3 (some .long), .fieldLink RX4 16 "OnePlaceEachModel" "y" "I", .fieldLink RX4 13 "OnePlaceEachModel" "x" "I"] ++ wsX40)
def wsX4_extreme : List Cond := .code yX4_extreme cX4_extreme 5 (some .int) :: ([.fieldLink RX4 7 "OnePlaceEachModel" "n" "I", .methodLink RX4 43 yX4_in, .static yX4_in, .initialized RX4, .code yX4_in cX4_in 6 (some .boolean), .methodLink RX4 37 yX4_weigh, .instanceMethod yX4_weigh, .selects RX4 yX4_weigh yX4_weigh, .code yX4_weigh cX4_weigh 3 (some .long), .fieldLink RX4 19 "OnePlaceEachModel" "weights" "[J"] ++ wsX40)
def wsX4_bits : List Cond := .code yX4_bits cX4_bits 3 (some .int) :: ([])
def wsX4_queued : List Cond := .code yX4_queued cX4_queued 7 (some .int) :: ([])
def wsX4_queue : List Cond := .code yX4_queue cX4_queue 4 (some .int) :: ([.constantLong RX4 69 (3), .constantLong RX4 41 (8), .methodLink RX4 43 yX4_in, .static yX4_in, .initialized RX4, .code yX4_in cX4_in 6 (some .boolean), .methodLink RX4 71 yX4_bits, .static yX4_bits, .code yX4_bits cX4_bits 3 (some .int), .methodLink RX4 75 yX4_queued, .static yX4_queued, .code yX4_queued cX4_queued 7 (some .int)])
def wsX4_ways : List Cond := .code yX4_ways cX4_ways 8 (some .int) :: ([.constantLong RX4 69 (3), .constantLong RX4 41 (8), .methodLink RX4 43 yX4_in, .static yX4_in, .initialized RX4, .code yX4_in cX4_in 6 (some .boolean), .methodLink RX4 71 yX4_bits, .static yX4_bits, .code yX4_bits cX4_bits 3 (some .int), .methodLink RX4 75 yX4_queued, .static yX4_queued, .code yX4_queued cX4_queued 7 (some .int)])
def wsX4_step : List Cond := .code yX4_step cX4_step 4 (some .int) :: ([.constantLong RX4 79 (2), .constantLong RX4 81 (30), .fieldLink RX4 83 "OnePlaceEachModel" "places" "I", .fieldLink RX4 86 "OnePlaceEachModel" "isOpen" "Z", .fieldLink RX4 23 "OnePlaceEachModel" "seed" "J", .fieldLink RX4 90 "OnePlaceEachModel" "ins" "I", .fieldLink RX4 93 "OnePlaceEachModel" "outs" "I", .fieldLink RX4 96 "OnePlaceEachModel" "moved" "I", .fieldLink RX4 27 "OnePlaceEachModel" "sorts" "[I", .methodLink RX4 43 yX4_in, .static yX4_in, .initialized RX4, .code yX4_in cX4_in 6 (some .boolean)] ++ wsX40)
def wsX4_isPlace : List Cond := .code yX4_isPlace cX4_isPlace 2 (some .boolean) :: ([.fieldLink RX4 83 "OnePlaceEachModel" "places" "I", .constantLong RX4 99 (29), .methodLink RX4 43 yX4_in, .static yX4_in, .initialized RX4, .code yX4_in cX4_in 6 (some .boolean)] ++ wsX40)
def wsX4_set : List Cond := .code yX4_set cX4_set 4 (some .int) :: ([.constantLong RX4 79 (2), .fieldLink RX4 83 "OnePlaceEachModel" "places" "I", .fieldLink RX4 27 "OnePlaceEachModel" "sorts" "[I", .methodLink RX4 101 yX4_isPlace, .instanceMethod yX4_isPlace, .selects RX4 yX4_isPlace yX4_isPlace, .initialized RX4, .code yX4_isPlace cX4_isPlace 2 (some .boolean), .constantLong RX4 99 (29), .methodLink RX4 43 yX4_in, .static yX4_in, .code yX4_in cX4_in 6 (some .boolean)] ++ wsX40)
def wsX4_seed : List Cond := .code yX4_seed cX4_seed 2 (some .int) :: ([.fieldLink RX4 83 "OnePlaceEachModel" "places" "I", .fieldLink RX4 23 "OnePlaceEachModel" "seed" "J"] ++ wsX40)
def wsX4_changes : List Cond := .code yX4_changes cX4_changes 5 (some .boolean) :: ([.fieldLink RX4 27 "OnePlaceEachModel" "sorts" "[I", .fieldLink RX4 96 "OnePlaceEachModel" "moved" "I"] ++ wsX40)
def wsX4_comes : List Cond := .code yX4_comes cX4_comes 1 (some .boolean) :: ([.fieldLink RX4 27 "OnePlaceEachModel" "sorts" "[I", .fieldLink RX4 93 "OnePlaceEachModel" "outs" "I", .fieldLink RX4 90 "OnePlaceEachModel" "ins" "I"] ++ wsX40)
def wsX4_goes : List Cond := .code yX4_goes cX4_goes 1 (some .boolean) :: ([.fieldLink RX4 27 "OnePlaceEachModel" "sorts" "[I", .fieldLink RX4 83 "OnePlaceEachModel" "places" "I", .fieldLink RX4 93 "OnePlaceEachModel" "outs" "I"] ++ wsX40)
def wsX4_go_r1 : List Cond := [Cond.constantLong RX4 104 (10000), Cond.fieldLink RX4 83 "OnePlaceEachModel" "places" "I", Cond.fieldLink RX4 23 "OnePlaceEachModel" "seed" "J", Cond.constantLong RX4 106 (1103515245), Cond.constantLong RX4 108 (12345), Cond.constantLong RX4 110 (2147483647), Cond.constantLong RX4 112 (65536), Cond.fieldLink RX4 86 "OnePlaceEachModel" "isOpen" "Z", Cond.methodLink RX4 43 yX4_in, Cond.static yX4_in, Cond.initialized RX4, Cond.code yX4_in cX4_in 6 (some .boolean), Cond.methodLink RX4 114 yX4_changes, Cond.instanceMethod yX4_changes, Cond.selects RX4 yX4_changes yX4_changes, Cond.code yX4_changes cX4_changes 5 (some .boolean), Cond.fieldLink RX4 27 "OnePlaceEachModel" "sorts" "[I", Cond.fieldLink RX4 96 "OnePlaceEachModel" "moved" "I", Cond.methodLink RX4 118 yX4_comes, Cond.instanceMethod yX4_comes, Cond.selects RX4 yX4_comes yX4_comes, Cond.code yX4_comes cX4_comes 1 (some .boolean), Cond.fieldLink RX4 93 "OnePlaceEachModel" "outs" "I", Cond.fieldLink RX4 90 "OnePlaceEachModel" "ins" "I"]
def wsX4_go_r2 : List Cond := [Cond.methodLink RX4 122 yX4_goes, Cond.instanceMethod yX4_goes, Cond.selects RX4 yX4_goes yX4_goes, Cond.code yX4_goes cX4_goes 1 (some .boolean)]
def wsX4_go : List Cond := .code yX4_go cX4_go 6 (some .int) :: ((wsX4_go_r1 ++ wsX4_go_r2) ++ wsX40)
def wsX4_together : List Cond := .code yX4_together cX4_together 7 (some .int) :: ([.constantLong RX4 125 (1000), .fieldLink RX4 83 "OnePlaceEachModel" "places" "I", .fieldLink RX4 27 "OnePlaceEachModel" "sorts" "[I", .fieldLink RX4 31 "OnePlaceEachModel" "before" "[I", .fieldLink RX4 86 "OnePlaceEachModel" "isOpen" "Z", .fieldLink RX4 96 "OnePlaceEachModel" "moved" "I", .fieldLink RX4 93 "OnePlaceEachModel" "outs" "I", .fieldLink RX4 90 "OnePlaceEachModel" "ins" "I", .methodLink RX4 43 yX4_in, .static yX4_in, .initialized RX4, .code yX4_in cX4_in 6 (some .boolean)] ++ wsX40)
def wsX4_at : List Cond := .code yX4_at cX4_at 2 (some .int) :: ([.fieldLink RX4 83 "OnePlaceEachModel" "places" "I", .fieldLink RX4 27 "OnePlaceEachModel" "sorts" "[I", .methodLink RX4 101 yX4_isPlace, .instanceMethod yX4_isPlace, .selects RX4 yX4_isPlace yX4_isPlace, .initialized RX4, .code yX4_isPlace cX4_isPlace 2 (some .boolean), .constantLong RX4 99 (29), .methodLink RX4 43 yX4_in, .static yX4_in, .code yX4_in cX4_in 6 (some .boolean)] ++ wsX40)
def wsX4_told : List Cond := .code yX4_told cX4_told 7 (some .int) :: ([.constantLong RX4 127 (7), .fieldLink RX4 83 "OnePlaceEachModel" "places" "I", .fieldLink RX4 27 "OnePlaceEachModel" "sorts" "[I", .fieldLink RX4 86 "OnePlaceEachModel" "isOpen" "Z", .fieldLink RX4 90 "OnePlaceEachModel" "ins" "I", .fieldLink RX4 93 "OnePlaceEachModel" "outs" "I", .fieldLink RX4 96 "OnePlaceEachModel" "moved" "I", .methodLink RX4 43 yX4_in, .static yX4_in, .initialized RX4, .code yX4_in cX4_in 6 (some .boolean)] ++ wsX40)
def wsL_law_r1 : List Cond := [Cond.classLink RL 7 RX3, Cond.instantiable RX3 2, Cond.initialized RX3, Cond.classLink RL 10 RX4, Cond.instantiable RX4 13, Cond.initialized RX4, Cond.methodLink RL 9 yX3_init, Cond.instanceMethod yX3_init, Cond.code yX3_init cX3_init 1 none, Cond.methodLink RX3 1 objectInit, Cond.instanceMethod objectInit, Cond.code objectInit ⟨#[0xb1]⟩ 1 none, Cond.classLink RX3 7 RX0, Cond.instantiable RX0 5, Cond.initialized RX0, Cond.fieldLink RX3 10 "OnePlaceEach" "chain" "LOnePlaceEach$Chain;", Cond.classLink RX3 16 RX2, Cond.instantiable RX2 8, Cond.initialized RX2, Cond.fieldLink RX3 19 "OnePlaceEach" "stepped" "LOnePlaceEach$Stepped;", Cond.methodLink RX3 9 yX0_init, Cond.instanceMethod yX0_init, Cond.code yX0_init cX0_init 1 none, Cond.methodLink RX0 3 objectInit]
def wsL_law_r2 : List Cond := [Cond.arrayClass .long, Cond.fieldLink RX0 9 "OnePlaceEach$Chain" "weights" "[J", Cond.fieldLink RX0 15 "OnePlaceEach$Chain" "sums" "[J", Cond.methodLink RX0 18 yX0_become, Cond.instanceMethod yX0_become, Cond.selects RX0 yX0_become yX0_become, Cond.code yX0_become cX0_become 4 none, Cond.fieldLink RX0 22 "OnePlaceEach$Chain" "places" "I", Cond.fieldLink RX0 26 "OnePlaceEach$Chain" "x" "I", Cond.fieldLink RX0 29 "OnePlaceEach$Chain" "y" "I", Cond.methodLink RX0 32 yX0_weighAllWords, Cond.instanceMethod yX0_weighAllWords, Cond.selects RX0 yX0_weighAllWords yX0_weighAllWords, Cond.code yX0_weighAllWords cX0_weighAllWords 7 none, Cond.methodLink RX0 61 yX0_weigh, Cond.instanceMethod yX0_weigh, Cond.selects RX0 yX0_weigh yX0_weigh, Cond.code yX0_weigh cX0_weigh 6 (some .long), Cond.static yX3_isTaken, Cond.code yX3_isTaken cX3_isTaken 2 (some .boolean), Cond.methodLink RX0 39 yX0_weightOfWord, Cond.instanceMethod yX0_weightOfWord, Cond.selects RX0 yX0_weightOfWord yX0_weightOfWord, Cond.code yX0_weightOfWord cX0_weightOfWord 4 (some .long)]
def wsL_law_r3 : List Cond := [Cond.methodLink RX0 64 yX0_lastOfLeadingTaken, Cond.static yX0_lastOfLeadingTaken, Cond.code yX0_lastOfLeadingTaken cX0_lastOfLeadingTaken 3 (some .int), Cond.instanceMethod yX2_init, Cond.code yX2_init cX2_init 1 none, Cond.methodLink RX2 3 objectInit, Cond.methodLink RL 12 yX4_init, Cond.instanceMethod yX4_init, Cond.code yX4_init cX4_init 1 none, Cond.methodLink RX4 1 objectInit, Cond.fieldLink RX4 7 "OnePlaceEachModel" "n" "I", Cond.fieldLink RX4 13 "OnePlaceEachModel" "x" "I", Cond.fieldLink RX4 16 "OnePlaceEachModel" "y" "I", Cond.fieldLink RX4 19 "OnePlaceEachModel" "weights" "[J", Cond.fieldLink RX4 23 "OnePlaceEachModel" "seed" "J", Cond.arrayClass .int, Cond.fieldLink RX4 27 "OnePlaceEachModel" "sorts" "[I", Cond.fieldLink RX4 31 "OnePlaceEachModel" "before" "[I", Cond.methodLink RX4 34 yX4_fills, Cond.instanceMethod yX4_fills, Cond.selects RX4 yX4_fills yX4_fills, Cond.code yX4_fills cX4_fills 7 none, Cond.methodLink RX4 37 yX4_weigh, Cond.instanceMethod yX4_weigh]
def wsL_law_r4 : List Cond := [Cond.selects RX4 yX4_weigh yX4_weigh, Cond.code yX4_weigh cX4_weigh 3 (some .long), Cond.methodLink RL 13 yX3_row, Cond.instanceMethod yX3_row, Cond.selects RX3 yX3_row yX3_row, Cond.code yX3_row cX3_row 4 (some .int), Cond.methodLink RX3 23 yX3_isWithin, Cond.static yX3_isWithin, Cond.code yX3_isWithin cX3_isWithin 3 (some .boolean), Cond.methodLink RX3 27 yX0_become, Cond.methodLink RX3 31 yX0_countStates, Cond.instanceMethod yX0_countStates, Cond.selects RX0 yX0_countStates yX0_countStates, Cond.code yX0_countStates cX0_countStates 1 (some .int), Cond.methodLink RL 17 yX4_row, Cond.instanceMethod yX4_row, Cond.selects RX4 yX4_row yX4_row, Cond.code yX4_row cX4_row 4 (some .int), Cond.constantLong RX4 41 (8), Cond.constantLong RX4 47 (9), Cond.methodLink RX4 43 yX4_in, Cond.static yX4_in, Cond.code yX4_in cX4_in 6 (some .boolean), Cond.methodLink RL 18 yX3_weight]
def wsL_law_r5 : List Cond := [Cond.instanceMethod yX3_weight, Cond.selects RX3 yX3_weight yX3_weight, Cond.code yX3_weight cX3_weight 2 (some .long), Cond.constantLong RX3 43 (-1), Cond.methodLink RX3 35 yX0_hasState, Cond.instanceMethod yX0_hasState, Cond.selects RX0 yX0_hasState yX0_hasState, Cond.code yX0_hasState cX0_hasState 2 (some .boolean), Cond.methodLink RX0 35 yX0_countStates, Cond.methodLink RX3 39 yX0_weightOf, Cond.instanceMethod yX0_weightOf, Cond.selects RX0 yX0_weightOf yX0_weightOf, Cond.code yX0_weightOf cX0_weightOf 2 (some .long), Cond.methodLink RL 22 yX4_weight, Cond.instanceMethod yX4_weight, Cond.selects RX4 yX4_weight yX4_weight, Cond.code yX4_weight cX4_weight 2 (some .long), Cond.constantLong RX4 53 (-1), Cond.methodLink RX4 49 yX4_isState, Cond.instanceMethod yX4_isState, Cond.selects RX4 yX4_isState yX4_isState, Cond.code yX4_isState cX4_isState 2 (some .boolean), Cond.methodLink RL 23 yX3_sum, Cond.instanceMethod yX3_sum]
def wsL_law_r6 : List Cond := [Cond.selects RX3 yX3_sum yX3_sum, Cond.code yX3_sum cX3_sum 2 (some .long), Cond.methodLink RX3 45 yX0_sumOf, Cond.instanceMethod yX0_sumOf, Cond.selects RX0 yX0_sumOf yX0_sumOf, Cond.code yX0_sumOf cX0_sumOf 2 (some .long), Cond.methodLink RL 26 yX4_sum, Cond.instanceMethod yX4_sum, Cond.selects RX4 yX4_sum yX4_sum, Cond.code yX4_sum cX4_sum 2 (some .long), Cond.methodLink RX4 55 yX4_sumOf, Cond.instanceMethod yX4_sumOf, Cond.selects RX4 yX4_sumOf yX4_sumOf, Cond.code yX4_sumOf cX4_sumOf 5 (some .long), Cond.methodLink RL 27 yX3_chance, Cond.instanceMethod yX3_chance, Cond.selects RX3 yX3_chance yX3_chance, Cond.code yX3_chance cX3_chance 3 (some .long), Cond.methodLink RX3 48 yX0_countPlaces, Cond.instanceMethod yX0_countPlaces, Cond.selects RX0 yX0_countPlaces yX0_countPlaces, Cond.code yX0_countPlaces cX0_countPlaces 1 (some .int), Cond.methodLink RX3 51 yX3_partOfFraction, Cond.static yX3_partOfFraction]
def wsL_law_r7 : List Cond := [Cond.code yX3_partOfFraction cX3_partOfFraction 9 (some .long), Cond.methodLink RX3 126 yX3_greatestCommonDivisor, Cond.static yX3_greatestCommonDivisor, Cond.code yX3_greatestCommonDivisor cX3_greatestCommonDivisor 11 (some .long), Cond.methodLink RL 31 yX4_chance, Cond.instanceMethod yX4_chance, Cond.selects RX4 yX4_chance yX4_chance, Cond.code yX4_chance cX4_chance 3 (some .long), Cond.methodLink RX4 59 yX4_least, Cond.static yX4_least, Cond.code yX4_least cX4_least 11 (some .long), Cond.methodLink RL 32 yX3_current, Cond.instanceMethod yX3_current, Cond.selects RX3 yX3_current yX3_current, Cond.code yX3_current cX3_current 3 (some .long), Cond.methodLink RL 35 yX4_current, Cond.instanceMethod yX4_current, Cond.selects RX4 yX4_current yX4_current, Cond.code yX4_current cX4_current 2 (some .long), Cond.methodLink RL 36 yX3_taken, Cond.instanceMethod yX3_taken, Cond.selects RX3 yX3_taken yX3_taken, Cond.code yX3_taken cX3_taken 3 (some .long), Cond.methodLink RX3 55 yX0_sumWithTaken]
def wsL_law_r8 : List Cond := [Cond.instanceMethod yX0_sumWithTaken, Cond.selects RX0 yX0_sumWithTaken yX0_sumWithTaken, Cond.code yX0_sumWithTaken cX0_sumWithTaken 5 (some .long), Cond.methodLink RX0 43 yX0_weightOf, Cond.methodLink RL 39 yX4_taken, Cond.instanceMethod yX4_taken, Cond.selects RX4 yX4_taken yX4_taken, Cond.code yX4_taken cX4_taken 6 (some .long), Cond.methodLink RL 40 yX3_flow, Cond.instanceMethod yX3_flow, Cond.selects RX3 yX3_flow yX3_flow, Cond.code yX3_flow cX3_flow 3 (some .long), Cond.methodLink RX3 58 yX0_flowInto, Cond.instanceMethod yX0_flowInto, Cond.selects RX0 yX0_flowInto yX0_flowInto, Cond.code yX0_flowInto cX0_flowInto 5 (some .long), Cond.methodLink RX0 51 yX0_rateIn, Cond.instanceMethod yX0_rateIn, Cond.selects RX0 yX0_rateIn yX0_rateIn, Cond.code yX0_rateIn cX0_rateIn 1 (some .long), Cond.methodLink RX0 55 yX0_rateOut, Cond.instanceMethod yX0_rateOut, Cond.selects RX0 yX0_rateOut yX0_rateOut, Cond.code yX0_rateOut cX0_rateOut 1 (some .long)]
def wsL_law_r9 : List Cond := [Cond.methodLink RX0 58 yX0_rateOfStep, Cond.instanceMethod yX0_rateOfStep, Cond.selects RX0 yX0_rateOfStep yX0_rateOfStep, Cond.code yX0_rateOfStep cX0_rateOfStep 1 (some .long), Cond.methodLink RX3 61 yX0_flowOutOf, Cond.instanceMethod yX0_flowOutOf, Cond.selects RX0 yX0_flowOutOf yX0_flowOutOf, Cond.code yX0_flowOutOf cX0_flowOutOf 5 (some .long), Cond.methodLink RL 43 yX4_flow, Cond.instanceMethod yX4_flow, Cond.selects RX4 yX4_flow yX4_flow, Cond.code yX4_flow cX4_flow 9 (some .long), Cond.fieldLink RX4 63 "OnePlaceEachModel" "leadsTo" "I", Cond.methodLink RX4 66 yX4_happens, Cond.instanceMethod yX4_happens, Cond.selects RX4 yX4_happens yX4_happens, Cond.code yX4_happens cX4_happens 3 (some .long), Cond.methodLink RL 44 yX3_extreme, Cond.instanceMethod yX3_extreme, Cond.selects RX3 yX3_extreme yX3_extreme, Cond.code yX3_extreme cX3_extreme 2 (some .int), Cond.methodLink RX3 64 yX0_heaviestState, Cond.instanceMethod yX0_heaviestState, Cond.selects RX0 yX0_heaviestState yX0_heaviestState]
def wsL_law_r10 : List Cond := [Cond.code yX0_heaviestState cX0_heaviestState 3 (some .int), Cond.methodLink RX3 67 yX0_lightestState, Cond.instanceMethod yX0_lightestState, Cond.selects RX0 yX0_lightestState yX0_lightestState, Cond.code yX0_lightestState cX0_lightestState 3 (some .int), Cond.methodLink RL 48 yX4_extreme, Cond.instanceMethod yX4_extreme, Cond.selects RX4 yX4_extreme yX4_extreme, Cond.code yX4_extreme cX4_extreme 5 (some .int), Cond.methodLink RL 49 yX3_queue, Cond.instanceMethod yX3_queue, Cond.selects RX3 yX3_queue yX3_queue, Cond.code yX3_queue cX3_queue 4 (some .int), Cond.methodLink RX3 70 yX1_areRows, Cond.static yX1_areRows, Cond.initialized RX1, Cond.code yX1_areRows cX1_areRows 4 (some .boolean), Cond.methodLink RX1 13 yJ6_bitCount_0f7a4, Cond.static yJ6_bitCount_0f7a4, Cond.initialized RJ6, Cond.code yJ6_bitCount_0f7a4 cJ6_bitCount_0f7a4 1 (some .int), Cond.constant RJ6 265 (1431655765), Cond.constant RJ6 266 (858993459), Cond.constant RJ6 267 (252645135)]
def wsL_law_r11 : List Cond := [Cond.methodLink RX3 75 yX1_servedPlaces, Cond.static yX1_servedPlaces, Cond.code yX1_servedPlaces cX1_servedPlaces 5 (some .int), Cond.methodLink RX1 23 yX1_firstFrom, Cond.static yX1_firstFrom, Cond.code yX1_firstFrom cX1_firstFrom 5 (some .int), Cond.methodLink RX3 79 yX1_numberOf, Cond.static yX1_numberOf, Cond.code yX1_numberOf cX1_numberOf 6 (some .int), Cond.methodLink RL 52 yX4_queue, Cond.instanceMethod yX4_queue, Cond.selects RX4 yX4_queue yX4_queue, Cond.code yX4_queue cX4_queue 4 (some .int), Cond.constantLong RX4 69 (3), Cond.methodLink RX4 71 yX4_bits, Cond.static yX4_bits, Cond.code yX4_bits cX4_bits 3 (some .int), Cond.methodLink RX4 75 yX4_queued, Cond.static yX4_queued, Cond.code yX4_queued cX4_queued 7 (some .int), Cond.methodLink RL 53 yX3_ways, Cond.instanceMethod yX3_ways, Cond.selects RX3 yX3_ways yX3_ways, Cond.code yX3_ways cX3_ways 6 (some .int)]
def wsL_law_r12 : List Cond := [Cond.methodLink RX3 82 yX1_greatestNumber, Cond.static yX1_greatestNumber, Cond.code yX1_greatestNumber cX1_greatestNumber 3 (some .int), Cond.methodLink RX3 86 yX1_placesOfSort, Cond.static yX1_placesOfSort, Cond.code yX1_placesOfSort cX1_placesOfSort 6 (some .int), Cond.methodLink RX3 89 yX1_countUpperRows, Cond.static yX1_countUpperRows, Cond.code yX1_countUpperRows cX1_countUpperRows 5 (some .int), Cond.methodLink RX1 29 yX1_servedPlaces, Cond.methodLink RL 57 yX4_ways, Cond.instanceMethod yX4_ways, Cond.selects RX4 yX4_ways yX4_ways, Cond.code yX4_ways cX4_ways 8 (some .int), Cond.methodLink RL 58 yX3_step, Cond.instanceMethod yX3_step, Cond.selects RX3 yX3_step yX3_step, Cond.code yX3_step cX3_step 3 (some .int), Cond.methodLink RX3 92 yX2_begin, Cond.instanceMethod yX2_begin, Cond.selects RX2 yX2_begin yX2_begin, Cond.code yX2_begin cX2_begin 3 none, Cond.fieldLink RX2 9 "OnePlaceEach$Stepped" "places" "I", Cond.fieldLink RX2 15 "OnePlaceEach$Stepped" "open" "Z"]
def wsL_law_r13 : List Cond := [Cond.fieldLink RX2 19 "OnePlaceEach$Stepped" "firsts" "I", Cond.fieldLink RX2 22 "OnePlaceEach$Stepped" "seconds" "I", Cond.fieldLink RX2 25 "OnePlaceEach$Stepped" "lot" "I", Cond.fieldLink RX2 28 "OnePlaceEach$Stepped" "comeIn" "I", Cond.fieldLink RX2 31 "OnePlaceEach$Stepped" "goneOut" "I", Cond.fieldLink RX2 34 "OnePlaceEach$Stepped" "moved" "I", Cond.methodLink RL 62 yX4_step, Cond.instanceMethod yX4_step, Cond.selects RX4 yX4_step yX4_step, Cond.code yX4_step cX4_step 4 (some .int), Cond.constantLong RX4 79 (2), Cond.constantLong RX4 81 (30), Cond.fieldLink RX4 83 "OnePlaceEachModel" "places" "I", Cond.fieldLink RX4 86 "OnePlaceEachModel" "isOpen" "Z", Cond.fieldLink RX4 90 "OnePlaceEachModel" "ins" "I", Cond.fieldLink RX4 93 "OnePlaceEachModel" "outs" "I", Cond.fieldLink RX4 96 "OnePlaceEachModel" "moved" "I", Cond.methodLink RL 63 yX3_set, Cond.instanceMethod yX3_set, Cond.selects RX3 yX3_set yX3_set, Cond.code yX3_set cX3_set 4 (some .int), Cond.methodLink RX3 96 yX2_mayHavePlace, Cond.instanceMethod yX2_mayHavePlace, Cond.selects RX2 yX2_mayHavePlace yX2_mayHavePlace]
def wsL_law_r14 : List Cond := [Cond.code yX2_mayHavePlace cX2_mayHavePlace 2 (some .boolean), Cond.methodLink RX2 37 yX2_isThere, Cond.instanceMethod yX2_isThere, Cond.selects RX2 yX2_isThere yX2_isThere, Cond.code yX2_isThere cX2_isThere 1 (some .boolean), Cond.methodLink RX3 99 yX2_isThere, Cond.methodLink RX3 103 yX2_sortAt, Cond.instanceMethod yX2_sortAt, Cond.selects RX2 yX2_sortAt yX2_sortAt, Cond.code yX2_sortAt cX2_sortAt 2 (some .int), Cond.methodLink RX3 106 yX2_put, Cond.instanceMethod yX2_put, Cond.selects RX2 yX2_put yX2_put, Cond.code yX2_put cX2_put 4 none, Cond.methodLink RL 66 yX4_set, Cond.instanceMethod yX4_set, Cond.selects RX4 yX4_set yX4_set, Cond.code yX4_set cX4_set 4 (some .int), Cond.methodLink RX4 101 yX4_isPlace, Cond.instanceMethod yX4_isPlace, Cond.selects RX4 yX4_isPlace yX4_isPlace, Cond.code yX4_isPlace cX4_isPlace 2 (some .boolean), Cond.constantLong RX4 99 (29), Cond.methodLink RL 67 yX3_seed]
def wsL_law_r15 : List Cond := [Cond.instanceMethod yX3_seed, Cond.selects RX3 yX3_seed yX3_seed, Cond.code yX3_seed cX3_seed 2 (some .int), Cond.methodLink RX3 110 yX2_sow, Cond.instanceMethod yX2_sow, Cond.selects RX2 yX2_sow yX2_sow, Cond.code yX2_sow cX2_sow 2 none, Cond.methodLink RL 70 yX4_seed, Cond.instanceMethod yX4_seed, Cond.selects RX4 yX4_seed yX4_seed, Cond.code yX4_seed cX4_seed 2 (some .int), Cond.methodLink RL 71 yX3_go, Cond.instanceMethod yX3_go, Cond.selects RX3 yX3_go yX3_go, Cond.code yX3_go cX3_go 2 (some .int), Cond.methodLink RX3 114 yX2_stepSingly, Cond.instanceMethod yX2_stepSingly, Cond.selects RX2 yX2_stepSingly yX2_stepSingly, Cond.code yX2_stepSingly cX2_stepSingly 4 (some .int), Cond.methodLink RX2 58 yX2_draw, Cond.instanceMethod yX2_draw, Cond.selects RX2 yX2_draw yX2_draw, Cond.code yX2_draw cX2_draw 2 (some .int), Cond.constant RX2 65 (1103515245)]
def wsL_law_r16 : List Cond := [Cond.constant RX2 66 (2147483647), Cond.methodLink RX2 61 yX2_stepOnce, Cond.instanceMethod yX2_stepOnce, Cond.selects RX2 yX2_stepOnce yX2_stepOnce, Cond.code yX2_stepOnce cX2_stepOnce 3 (some .boolean), Cond.methodLink RX2 67 yX2_exchange, Cond.instanceMethod yX2_exchange, Cond.selects RX2 yX2_exchange yX2_exchange, Cond.code yX2_exchange cX2_exchange 6 (some .boolean), Cond.methodLink RX2 76 yX2_sortAt, Cond.methodLink RX2 79 yX2_put, Cond.methodLink RX2 70 yX2_comeToFirstPlace, Cond.instanceMethod yX2_comeToFirstPlace, Cond.selects RX2 yX2_comeToFirstPlace yX2_comeToFirstPlace, Cond.code yX2_comeToFirstPlace cX2_comeToFirstPlace 2 (some .boolean), Cond.methodLink RX2 73 yX2_goFromLastPlace, Cond.instanceMethod yX2_goFromLastPlace, Cond.selects RX2 yX2_goFromLastPlace yX2_goFromLastPlace, Cond.code yX2_goFromLastPlace cX2_goFromLastPlace 1 (some .boolean), Cond.methodLink RL 74 yX4_go, Cond.instanceMethod yX4_go, Cond.selects RX4 yX4_go yX4_go, Cond.code yX4_go cX4_go 6 (some .int), Cond.constantLong RX4 104 (10000)]
def wsL_law_r17 : List Cond := [Cond.constantLong RX4 106 (1103515245), Cond.constantLong RX4 108 (12345), Cond.constantLong RX4 110 (2147483647), Cond.constantLong RX4 112 (65536), Cond.methodLink RX4 114 yX4_changes, Cond.instanceMethod yX4_changes, Cond.selects RX4 yX4_changes yX4_changes, Cond.code yX4_changes cX4_changes 5 (some .boolean), Cond.methodLink RX4 118 yX4_comes, Cond.instanceMethod yX4_comes, Cond.selects RX4 yX4_comes yX4_comes, Cond.code yX4_comes cX4_comes 1 (some .boolean), Cond.methodLink RX4 122 yX4_goes, Cond.instanceMethod yX4_goes, Cond.selects RX4 yX4_goes yX4_goes, Cond.code yX4_goes cX4_goes 1 (some .boolean), Cond.methodLink RL 75 yX3_together, Cond.instanceMethod yX3_together, Cond.selects RX3 yX3_together yX3_together, Cond.code yX3_together cX3_together 2 (some .int), Cond.methodLink RX3 117 yX2_countOfSort, Cond.instanceMethod yX2_countOfSort, Cond.selects RX2 yX2_countOfSort yX2_countOfSort, Cond.code yX2_countOfSort cX2_countOfSort 2 (some .int)]
def wsL_law_r18 : List Cond := [Cond.methodLink RX2 45 yJ6_bitCount_0f7a4, Cond.methodLink RX3 120 yX2_stepAllAtOnce, Cond.instanceMethod yX2_stepAllAtOnce, Cond.selects RX2 yX2_stepAllAtOnce yX2_stepAllAtOnce, Cond.code yX2_stepAllAtOnce cX2_stepAllAtOnce 4 (some .int), Cond.methodLink RX2 83 yX2_stepOpenRow, Cond.instanceMethod yX2_stepOpenRow, Cond.selects RX2 yX2_stepOpenRow yX2_stepOpenRow, Cond.code yX2_stepOpenRow cX2_stepOpenRow 4 none, Cond.methodLink RX2 54 yX2_firstsWithFreeBehind, Cond.instanceMethod yX2_firstsWithFreeBehind, Cond.selects RX2 yX2_firstsWithFreeBehind yX2_firstsWithFreeBehind, Cond.code yX2_firstsWithFreeBehind cX2_firstsWithFreeBehind 3 (some .int), Cond.methodLink RX2 89 yX2_allPlaces, Cond.instanceMethod yX2_allPlaces, Cond.selects RX2 yX2_allPlaces yX2_allPlaces, Cond.code yX2_allPlaces cX2_allPlaces 1 (some .int), Cond.methodLink RX2 86 yX2_stepRing, Cond.instanceMethod yX2_stepRing, Cond.selects RX2 yX2_stepRing yX2_stepRing, Cond.code yX2_stepRing cX2_stepRing 4 none, Cond.methodLink RL 78 yX4_together, Cond.instanceMethod yX4_together, Cond.selects RX4 yX4_together yX4_together]
def wsL_law_r19 : List Cond := [Cond.code yX4_together cX4_together 7 (some .int), Cond.constantLong RX4 125 (1000), Cond.methodLink RL 79 yX3_at, Cond.instanceMethod yX3_at, Cond.selects RX3 yX3_at yX3_at, Cond.code yX3_at cX3_at 2 (some .int), Cond.methodLink RL 82 yX4_at, Cond.instanceMethod yX4_at, Cond.selects RX4 yX4_at yX4_at, Cond.code yX4_at cX4_at 2 (some .int), Cond.methodLink RL 83 yX3_told, Cond.instanceMethod yX3_told, Cond.selects RX3 yX3_told yX3_told, Cond.code yX3_told cX3_told 2 (some .int), Cond.methodLink RX3 123 yX2_tell, Cond.instanceMethod yX2_tell, Cond.selects RX2 yX2_tell yX2_tell, Cond.code yX2_tell cX2_tell 2 (some .int), Cond.methodLink RX2 51 yX2_countOfSort, Cond.methodLink RL 86 yX4_told, Cond.instanceMethod yX4_told, Cond.selects RX4 yX4_told yX4_told, Cond.code yX4_told cX4_told 7 (some .int), Cond.constantLong RX4 127 (7)]
def wsL_law : List Cond := (wsL_law_r1 ++ (wsL_law_r2 ++ (wsL_law_r3 ++ (wsL_law_r4 ++ (wsL_law_r5 ++ (wsL_law_r6 ++ (wsL_law_r7 ++ (wsL_law_r8 ++ (wsL_law_r9 ++ (wsL_law_r10 ++ (wsL_law_r11 ++ (wsL_law_r12 ++ (wsL_law_r13 ++ (wsL_law_r14 ++ (wsL_law_r15 ++ (wsL_law_r16 ++ (wsL_law_r17 ++ (wsL_law_r18 ++ wsL_law_r19)))))))))))))))))) ++ wsX30 ++ wsX40 ++ wsX00 ++ wsX20 ++ ([] : List Cond)
end
section
theorem rIn {big ws : List Cond} (ps : List Nat) (hp : ws = ps.filterMap (fun i => big[i]?)) : ∀ w ∈ ws, w ∈ big := by
  intro w hw
  rw [hp] at hw
  obtain ⟨i, -, hi⟩ := List.mem_filterMap.mp hw
  first | exact List.mem_of_getElem? hi | exact List.getElem?_mem hi
set_option maxRecDepth 20000 in
theorem lin_1 : ∀ w ∈ wsL_law_r1, w ∈ lw_tbl := rIn [31, 32, 25, 369, 370, 28, 33, 34, 35, 36, 37, 38, 39, 40, 26, 115, 84, 85, 27, 116, 41, 42, 43, 44] (by decide +kernel)
set_option maxRecDepth 20000 in
theorem lin_2 : ∀ w ∈ wsL_law_r2, w ∈ lw_tbl := rIn [83, 67, 68, 45, 46, 47, 48, 69, 70, 71, 49, 51, 0, 52, 53, 55, 1, 56, 58, 59, 60, 62, 2, 63] (by decide +kernel)
set_option maxRecDepth 20000 in
theorem lin_3 : ∀ w ∈ wsL_law_r3, w ∈ lw_tbl := rIn [64, 65, 66, 87, 88, 89, 371, 372, 373, 374, 383, 384, 385, 386, 389, 423, 390, 391, 375, 377, 15, 378, 379, 381] (by decide +kernel)
set_option maxRecDepth 20000 in
theorem lin_4 : ∀ w ∈ wsL_law_r4, w ∈ lw_tbl := rIn [16, 382, 122, 123, 124, 125, 126, 127, 128, 129, 130, 131, 132, 133, 424, 425, 426, 427, 428, 432, 429, 430, 431, 134] (by decide +kernel)
set_option maxRecDepth 20000 in
theorem lin_5 : ∀ w ∈ wsL_law_r5, w ∈ lw_tbl := rIn [135, 136, 137, 147, 138, 139, 140, 141, 142, 143, 144, 145, 146, 433, 434, 435, 436, 441, 437, 439, 17, 440, 148, 149] (by decide +kernel)
set_option maxRecDepth 20000 in
theorem lin_6 : ∀ w ∈ wsL_law_r6, w ∈ lw_tbl := rIn [150, 151, 152, 153, 154, 155, 442, 443, 444, 445, 446, 448, 18, 449, 156, 157, 158, 159, 160, 161, 162, 163, 164, 165] (by decide +kernel)
set_option maxRecDepth 20000 in
theorem lin_7 : ∀ w ∈ wsL_law_r7, w ∈ lw_tbl := rIn [166, 167, 168, 169, 450, 451, 452, 453, 454, 455, 456, 170, 171, 172, 173, 457, 458, 459, 460, 174, 175, 176, 177, 178] (by decide +kernel)
set_option maxRecDepth 20000 in
theorem lin_8 : ∀ w ∈ wsL_law_r8, w ∈ lw_tbl := rIn [179, 180, 181, 182, 461, 462, 463, 464, 183, 184, 185, 186, 187, 188, 189, 190, 191, 193, 3, 194, 195, 197, 4, 198] (by decide +kernel)
set_option maxRecDepth 20000 in
theorem lin_9 : ∀ w ∈ wsL_law_r9, w ∈ lw_tbl := rIn [199, 201, 5, 202, 203, 204, 205, 206, 465, 466, 467, 468, 395, 469, 471, 19, 472, 207, 208, 209, 210, 211, 212, 213] (by decide +kernel)
set_option maxRecDepth 20000 in
theorem lin_10 : ∀ w ∈ wsL_law_r10, w ∈ lw_tbl := rIn [214, 215, 216, 217, 218, 473, 474, 475, 476, 219, 220, 221, 222, 223, 224, 29, 225, 227, 228, 30, 229, 230, 231, 232] (by decide +kernel)
set_option maxRecDepth 20000 in
theorem lin_11 : ∀ w ∈ wsL_law_r11, w ∈ lw_tbl := rIn [233, 234, 235, 237, 238, 239, 240, 241, 242, 477, 478, 479, 480, 481, 482, 483, 484, 485, 486, 487, 243, 244, 245, 246] (by decide +kernel)
set_option maxRecDepth 20000 in
theorem lin_12 : ∀ w ∈ wsL_law_r12, w ∈ lw_tbl := rIn [247, 248, 249, 250, 251, 252, 253, 254, 255, 256, 488, 489, 490, 491, 257, 258, 259, 260, 261, 262, 263, 264, 90, 91] (by decide +kernel)
set_option maxRecDepth 20000 in
theorem lin_13 : ∀ w ∈ wsL_law_r13, w ∈ lw_tbl := rIn [92, 93, 94, 95, 96, 97, 492, 493, 494, 495, 496, 497, 387, 388, 392, 393, 394, 265, 266, 267, 268, 269, 270, 271] (by decide +kernel)
set_option maxRecDepth 20000 in
theorem lin_14 : ∀ w ∈ wsL_law_r14, w ∈ lw_tbl := rIn [272, 273, 274, 275, 276, 277, 278, 279, 280, 281, 283, 284, 285, 286, 498, 499, 500, 501, 502, 504, 20, 505, 506, 287] (by decide +kernel)
set_option maxRecDepth 20000 in
theorem lin_15 : ∀ w ∈ wsL_law_r15, w ∈ lw_tbl := rIn [288, 289, 290, 291, 292, 293, 294, 507, 508, 509, 510, 295, 296, 297, 298, 299, 300, 301, 302, 303, 305, 6, 306, 307] (by decide +kernel)
set_option maxRecDepth 20000 in
theorem lin_16 : ∀ w ∈ wsL_law_r16, w ∈ lw_tbl := rIn [308, 309, 311, 7, 312, 313, 315, 8, 316, 317, 318, 319, 321, 9, 322, 323, 325, 10, 326, 511, 512, 513, 514, 515] (by decide +kernel)
set_option maxRecDepth 20000 in
theorem lin_17 : ∀ w ∈ wsL_law_r17, w ∈ lw_tbl := rIn [516, 517, 518, 519, 520, 522, 21, 523, 524, 526, 22, 527, 528, 530, 23, 531, 327, 328, 329, 330, 331, 332, 333, 334] (by decide +kernel)
set_option maxRecDepth 20000 in
theorem lin_18 : ∀ w ∈ wsL_law_r18, w ∈ lw_tbl := rIn [335, 336, 337, 338, 339, 340, 342, 11, 343, 344, 346, 12, 347, 348, 350, 13, 351, 352, 354, 14, 355, 532, 533, 534] (by decide +kernel)
set_option maxRecDepth 20000 in
theorem lin_19 : ∀ w ∈ wsL_law_r19, w ∈ lw_tbl := rIn [535, 536, 356, 357, 358, 359, 537, 538, 539, 540, 360, 361, 362, 363, 364, 365, 366, 367, 368, 541, 542, 543, 544, 545] (by decide +kernel)
set_option maxRecDepth 20000 in
theorem lin_X0 : ∀ w ∈ wsX00, w ∈ lw_tbl := by decide +kernel
set_option maxRecDepth 20000 in
theorem lin_X2 : ∀ w ∈ wsX20, w ∈ lw_tbl := by decide +kernel
set_option maxRecDepth 20000 in
theorem lin_X3 : ∀ w ∈ wsX30, w ∈ lw_tbl := by decide +kernel
set_option maxRecDepth 20000 in
theorem lin_X4 : ∀ w ∈ wsX40, w ∈ lw_tbl := by decide +kernel
theorem wsL_law_in : ∀ w ∈ wsL_law, w ∈ lw_tbl := (List.forall_mem_append.mpr ⟨(List.forall_mem_append.mpr ⟨(List.forall_mem_append.mpr ⟨(List.forall_mem_append.mpr ⟨(List.forall_mem_append.mpr ⟨(List.forall_mem_append.mpr ⟨lin_1, (List.forall_mem_append.mpr ⟨lin_2, (List.forall_mem_append.mpr ⟨lin_3, (List.forall_mem_append.mpr ⟨lin_4, (List.forall_mem_append.mpr ⟨lin_5, (List.forall_mem_append.mpr ⟨lin_6, (List.forall_mem_append.mpr ⟨lin_7, (List.forall_mem_append.mpr ⟨lin_8, (List.forall_mem_append.mpr ⟨lin_9, (List.forall_mem_append.mpr ⟨lin_10, (List.forall_mem_append.mpr ⟨lin_11, (List.forall_mem_append.mpr ⟨lin_12, (List.forall_mem_append.mpr ⟨lin_13, (List.forall_mem_append.mpr ⟨lin_14, (List.forall_mem_append.mpr ⟨lin_15, (List.forall_mem_append.mpr ⟨lin_16, (List.forall_mem_append.mpr ⟨lin_17, (List.forall_mem_append.mpr ⟨lin_18, lin_19⟩)⟩)⟩)⟩)⟩)⟩)⟩)⟩)⟩)⟩)⟩)⟩)⟩)⟩)⟩)⟩)⟩)⟩), lin_X3⟩), lin_X4⟩), lin_X0⟩), lin_X2⟩), fun _ h => absurd h List.not_mem_nil⟩)
end
section
theorem inlX0 : ∀ w ∈ wsX00, w ∈ wsL_law := fun _ h => List.mem_append_left _ (List.mem_append_left _ (List.mem_append_right _ h))
theorem inX0 : ∀ w ∈ wsX00, w ∈ lw_tbl := fun w h => wsL_law_in w (inlX0 w h)
theorem inX1 : ∀ w ∈ wsX10, w ∈ lw_tbl := by decide +kernel
theorem inlX2 : ∀ w ∈ wsX20, w ∈ wsL_law := fun _ h => List.mem_append_left _ (List.mem_append_right _ h)
theorem inX2 : ∀ w ∈ wsX20, w ∈ lw_tbl := fun w h => wsL_law_in w (inlX2 w h)
theorem inlX3 : ∀ w ∈ wsX30, w ∈ wsL_law := fun _ h => List.mem_append_left _ (List.mem_append_left _ (List.mem_append_left _ (List.mem_append_left _ (List.mem_append_right _ h))))
theorem inX3 : ∀ w ∈ wsX30, w ∈ lw_tbl := fun w h => wsL_law_in w (inlX3 w h)
theorem inlX4 : ∀ w ∈ wsX40, w ∈ wsL_law := fun _ h => List.mem_append_left _ (List.mem_append_left _ (List.mem_append_left _ (List.mem_append_right _ h)))
theorem inX4 : ∀ w ∈ wsX40, w ∈ lw_tbl := fun w h => wsL_law_in w (inlX4 w h)
theorem inJ6 : ∀ w ∈ wsJ60, w ∈ lw_tbl := by decide +kernel
set_option maxRecDepth 20000 in
theorem ggX0_init_X0_become : GoodIn wsX0_init wsX0_become := goodIn_r _ [11, 12, 13, 14, 15, 16, 17, 10, 18, 5, 6, 19, 20, 21, 22, 23, 24, 25, 26, 27, 28, 29, 30, 31, 32, 33, 34, 35, 36, 37] (by decide +kernel) (by decide +kernel)
set_option maxRecDepth 20000 in
theorem gX0_init_X0_become : GoodIn wsX0_init (wsV RX0 18 RX0 yX0_become wsX0_become) := goodIn_app (goodIn_of _ (by decide +kernel)) ggX0_init_X0_become
theorem dX0_init_0 : decode cX0_init 0 = .ok (.aload_n 0, 1) := by decide +kernel
theorem dX0_init_1 : decode cX0_init 1 = .ok (.invokespecial 3, 3) := by decide +kernel
theorem dX0_init_4 : decode cX0_init 4 = .ok (.aload_n 0, 1) := by decide +kernel
theorem dX0_init_5 : decode cX0_init 5 = .ok (.sipush 512, 3) := by decide +kernel
theorem dX0_init_8 : decode cX0_init 8 = .ok (.newarray .long, 2) := by decide +kernel
theorem dX0_init_10 : decode cX0_init 10 = .ok (.putfield 9, 3) := by decide +kernel
theorem dX0_init_13 : decode cX0_init 13 = .ok (.aload_n 0, 1) := by decide +kernel
theorem dX0_init_14 : decode cX0_init 14 = .ok (.bipush 9, 2) := by decide +kernel
theorem dX0_init_16 : decode cX0_init 16 = .ok (.newarray .long, 2) := by decide +kernel
theorem dX0_init_18 : decode cX0_init 18 = .ok (.putfield 15, 3) := by decide +kernel
theorem dX0_init_21 : decode cX0_init 21 = .ok (.aload_n 0, 1) := by decide +kernel
theorem dX0_init_22 : decode cX0_init 22 = .ok (.iconst 1, 1) := by decide +kernel
theorem dX0_init_23 : decode cX0_init 23 = .ok (.iconst 1, 1) := by decide +kernel
theorem dX0_init_24 : decode cX0_init 24 = .ok (.iconst 1, 1) := by decide +kernel
theorem dX0_init_25 : decode cX0_init 25 = .ok (.invokevirtual 18, 3) := by decide +kernel
theorem dX0_init_28 : decode cX0_init 28 = .ok (.return_, 1) := by decide +kernel
set_option maxRecDepth 20000 in
theorem ggX0_become_X0_weighAllWords : GoodIn wsX0_become wsX0_weighAllWords := goodIn_r _ [8, 9, 10, 11, 12, 13, 7, 14, 2, 3, 15, 16, 17, 18, 19, 20, 21, 22, 23, 24, 25, 26, 27, 28, 29] (by decide +kernel) (by decide +kernel)
set_option maxRecDepth 20000 in
theorem gX0_become_X0_weighAllWords : GoodIn wsX0_become (wsV RX0 32 RX0 yX0_weighAllWords wsX0_weighAllWords) := goodIn_app (goodIn_of _ (by decide +kernel)) ggX0_become_X0_weighAllWords
theorem dX0_become_0 : decode cX0_become 0 = .ok (.aload_n 0, 1) := by decide +kernel
theorem dX0_become_1 : decode cX0_become 1 = .ok (.iload_n 1, 1) := by decide +kernel
theorem dX0_become_2 : decode cX0_become 2 = .ok (.putfield 22, 3) := by decide +kernel
theorem dX0_become_5 : decode cX0_become 5 = .ok (.iload_n 2, 1) := by decide +kernel
theorem dX0_become_6 : decode cX0_become 6 = .ok (.aload_n 0, 1) := by decide +kernel
theorem dX0_become_7 : decode cX0_become 7 = .ok (.getfield 26, 3) := by decide +kernel
theorem dX0_become_10 : decode cX0_become 10 = .ok (.if_icmp .ne 11, 3) := by decide +kernel
theorem dX0_become_13 : decode cX0_become 13 = .ok (.iload_n 3, 1) := by decide +kernel
theorem dX0_become_14 : decode cX0_become 14 = .ok (.aload_n 0, 1) := by decide +kernel
theorem dX0_become_15 : decode cX0_become 15 = .ok (.getfield 29, 3) := by decide +kernel
theorem dX0_become_18 : decode cX0_become 18 = .ok (.if_icmp .eq 17, 3) := by decide +kernel
theorem dX0_become_21 : decode cX0_become 21 = .ok (.aload_n 0, 1) := by decide +kernel
theorem dX0_become_22 : decode cX0_become 22 = .ok (.iload_n 2, 1) := by decide +kernel
theorem dX0_become_23 : decode cX0_become 23 = .ok (.putfield 26, 3) := by decide +kernel
theorem dX0_become_26 : decode cX0_become 26 = .ok (.aload_n 0, 1) := by decide +kernel
theorem dX0_become_27 : decode cX0_become 27 = .ok (.iload_n 3, 1) := by decide +kernel
theorem dX0_become_28 : decode cX0_become 28 = .ok (.putfield 29, 3) := by decide +kernel
theorem dX0_become_31 : decode cX0_become 31 = .ok (.aload_n 0, 1) := by decide +kernel
theorem dX0_become_32 : decode cX0_become 32 = .ok (.invokevirtual 32, 3) := by decide +kernel
theorem dX0_become_35 : decode cX0_become 35 = .ok (.return_, 1) := by decide +kernel
theorem dX0_countPlaces_0 : decode cX0_countPlaces 0 = .ok (.aload_n 0, 1) := by decide +kernel
theorem dX0_countPlaces_1 : decode cX0_countPlaces 1 = .ok (.getfield 22, 3) := by decide +kernel
theorem dX0_countPlaces_4 : decode cX0_countPlaces 4 = .ok (.ireturn, 1) := by decide +kernel
theorem dX0_countStates_0 : decode cX0_countStates 0 = .ok (.iconst 1, 1) := by decide +kernel
theorem dX0_countStates_1 : decode cX0_countStates 1 = .ok (.aload_n 0, 1) := by decide +kernel
theorem dX0_countStates_2 : decode cX0_countStates 2 = .ok (.getfield 22, 3) := by decide +kernel
theorem dX0_countStates_5 : decode cX0_countStates 5 = .ok (.ishl, 1) := by decide +kernel
theorem dX0_countStates_6 : decode cX0_countStates 6 = .ok (.ireturn, 1) := by decide +kernel
set_option maxRecDepth 20000 in
theorem ggX0_hasState_X0_countStates : GoodIn wsX0_hasState wsX0_countStates := goodIn_r _ [5, 6, 7, 8, 9, 10, 11] (by decide +kernel) (by decide +kernel)
set_option maxRecDepth 20000 in
theorem gX0_hasState_X0_countStates : GoodIn wsX0_hasState (wsV RX0 35 RX0 yX0_countStates wsX0_countStates) := goodIn_app (goodIn_of _ (by decide +kernel)) ggX0_hasState_X0_countStates
theorem dX0_hasState_0 : decode cX0_hasState 0 = .ok (.iload_n 1, 1) := by decide +kernel
theorem dX0_hasState_1 : decode cX0_hasState 1 = .ok (.ifCond .lt 15, 3) := by decide +kernel
theorem dX0_hasState_4 : decode cX0_hasState 4 = .ok (.iload_n 1, 1) := by decide +kernel
theorem dX0_hasState_5 : decode cX0_hasState 5 = .ok (.aload_n 0, 1) := by decide +kernel
theorem dX0_hasState_6 : decode cX0_hasState 6 = .ok (.invokevirtual 35, 3) := by decide +kernel
theorem dX0_hasState_9 : decode cX0_hasState 9 = .ok (.if_icmp .ge 7, 3) := by decide +kernel
theorem dX0_hasState_12 : decode cX0_hasState 12 = .ok (.iconst 1, 1) := by decide +kernel
theorem dX0_hasState_13 : decode cX0_hasState 13 = .ok (.goto 4, 3) := by decide +kernel
theorem dX0_hasState_16 : decode cX0_hasState 16 = .ok (.iconst 0, 1) := by decide +kernel
theorem dX0_hasState_17 : decode cX0_hasState 17 = .ok (.ireturn, 1) := by decide +kernel
set_option maxRecDepth 20000 in
theorem ggX0_weightOf_X0_weightOfWord : GoodIn wsX0_weightOf wsX0_weightOfWord := goodIn_r _ [6, 7, 8, 9, 10, 11, 12] (by decide +kernel) (by decide +kernel)
set_option maxRecDepth 20000 in
theorem gX0_weightOf_X0_weightOfWord : GoodIn wsX0_weightOf (wsV RX0 39 RX0 yX0_weightOfWord wsX0_weightOfWord) := goodIn_app (goodIn_of _ (by decide +kernel)) ggX0_weightOf_X0_weightOfWord
theorem dX0_weightOf_0 : decode cX0_weightOf 0 = .ok (.aload_n 0, 1) := by decide +kernel
theorem dX0_weightOf_1 : decode cX0_weightOf 1 = .ok (.aload_n 0, 1) := by decide +kernel
theorem dX0_weightOf_2 : decode cX0_weightOf 2 = .ok (.getfield 22, 3) := by decide +kernel
theorem dX0_weightOf_5 : decode cX0_weightOf 5 = .ok (.iload_n 1, 1) := by decide +kernel
theorem dX0_weightOf_6 : decode cX0_weightOf 6 = .ok (.invokevirtual 39, 3) := by decide +kernel
theorem dX0_weightOf_9 : decode cX0_weightOf 9 = .ok (.lreturn, 1) := by decide +kernel
theorem dX0_sumOf_0 : decode cX0_sumOf 0 = .ok (.iload_n 1, 1) := by decide +kernel
theorem dX0_sumOf_1 : decode cX0_sumOf 1 = .ok (.ifCond .lt 21, 3) := by decide +kernel
theorem dX0_sumOf_4 : decode cX0_sumOf 4 = .ok (.iload_n 1, 1) := by decide +kernel
theorem dX0_sumOf_5 : decode cX0_sumOf 5 = .ok (.aload_n 0, 1) := by decide +kernel
theorem dX0_sumOf_6 : decode cX0_sumOf 6 = .ok (.getfield 15, 3) := by decide +kernel
theorem dX0_sumOf_9 : decode cX0_sumOf 9 = .ok (.arraylength, 1) := by decide +kernel
theorem dX0_sumOf_10 : decode cX0_sumOf 10 = .ok (.if_icmp .ge 12, 3) := by decide +kernel
theorem dX0_sumOf_13 : decode cX0_sumOf 13 = .ok (.aload_n 0, 1) := by decide +kernel
theorem dX0_sumOf_14 : decode cX0_sumOf 14 = .ok (.getfield 15, 3) := by decide +kernel
theorem dX0_sumOf_17 : decode cX0_sumOf 17 = .ok (.iload_n 1, 1) := by decide +kernel
theorem dX0_sumOf_18 : decode cX0_sumOf 18 = .ok (.laload, 1) := by decide +kernel
theorem dX0_sumOf_19 : decode cX0_sumOf 19 = .ok (.goto 4, 3) := by decide +kernel
theorem dX0_sumOf_22 : decode cX0_sumOf 22 = .ok (.lconst 0, 1) := by decide +kernel
theorem dX0_sumOf_23 : decode cX0_sumOf 23 = .ok (.lreturn, 1) := by decide +kernel
set_option maxRecDepth 20000 in
theorem ggX0_sumWithTaken_X0_countStates : GoodIn wsX0_sumWithTaken wsX0_countStates := goodIn_r _ [5, 6, 16, 17, 18, 19, 20] (by decide +kernel) (by decide +kernel)
set_option maxRecDepth 20000 in
theorem gX0_sumWithTaken_X0_countStates : GoodIn wsX0_sumWithTaken (wsV RX0 35 RX0 yX0_countStates wsX0_countStates) := goodIn_app (goodIn_of _ (by decide +kernel)) ggX0_sumWithTaken_X0_countStates
set_option maxRecDepth 20000 in
theorem ggX0_sumWithTaken_X0_weightOf : GoodIn wsX0_sumWithTaken wsX0_weightOf := goodIn_r _ [10, 6, 11, 12, 13, 4, 14, 15, 16, 17, 18, 19, 20] (by decide +kernel) (by decide +kernel)
set_option maxRecDepth 20000 in
theorem gX0_sumWithTaken_X0_weightOf : GoodIn wsX0_sumWithTaken (wsV RX0 43 RX0 yX0_weightOf wsX0_weightOf) := goodIn_app (goodIn_of _ (by decide +kernel)) ggX0_sumWithTaken_X0_weightOf
theorem dX0_sumWithTaken_0 : decode cX0_sumWithTaken 0 = .ok (.lconst 0, 1) := by decide +kernel
theorem dX0_sumWithTaken_1 : decode cX0_sumWithTaken 1 = .ok (.lstore_n 2, 1) := by decide +kernel
theorem dX0_sumWithTaken_2 : decode cX0_sumWithTaken 2 = .ok (.iconst 0, 1) := by decide +kernel
theorem dX0_sumWithTaken_3 : decode cX0_sumWithTaken 3 = .ok (.istore 4, 2) := by decide +kernel
theorem dX0_sumWithTaken_5 : decode cX0_sumWithTaken 5 = .ok (.iload 4, 2) := by decide +kernel
theorem dX0_sumWithTaken_7 : decode cX0_sumWithTaken 7 = .ok (.aload_n 0, 1) := by decide +kernel
theorem dX0_sumWithTaken_8 : decode cX0_sumWithTaken 8 = .ok (.invokevirtual 35, 3) := by decide +kernel
theorem dX0_sumWithTaken_11 : decode cX0_sumWithTaken 11 = .ok (.if_icmp .ge 26, 3) := by decide +kernel
theorem dX0_sumWithTaken_14 : decode cX0_sumWithTaken 14 = .ok (.iload 4, 2) := by decide +kernel
theorem dX0_sumWithTaken_16 : decode cX0_sumWithTaken 16 = .ok (.iload_n 1, 1) := by decide +kernel
theorem dX0_sumWithTaken_17 : decode cX0_sumWithTaken 17 = .ok (.iand, 1) := by decide +kernel
theorem dX0_sumWithTaken_18 : decode cX0_sumWithTaken 18 = .ok (.iload_n 1, 1) := by decide +kernel
theorem dX0_sumWithTaken_19 : decode cX0_sumWithTaken 19 = .ok (.if_icmp .ne 12, 3) := by decide +kernel
theorem dX0_sumWithTaken_22 : decode cX0_sumWithTaken 22 = .ok (.lload_n 2, 1) := by decide +kernel
theorem dX0_sumWithTaken_23 : decode cX0_sumWithTaken 23 = .ok (.aload_n 0, 1) := by decide +kernel
theorem dX0_sumWithTaken_24 : decode cX0_sumWithTaken 24 = .ok (.iload 4, 2) := by decide +kernel
theorem dX0_sumWithTaken_26 : decode cX0_sumWithTaken 26 = .ok (.invokevirtual 43, 3) := by decide +kernel
theorem dX0_sumWithTaken_29 : decode cX0_sumWithTaken 29 = .ok (.ladd, 1) := by decide +kernel
theorem dX0_sumWithTaken_30 : decode cX0_sumWithTaken 30 = .ok (.lstore_n 2, 1) := by decide +kernel
theorem dX0_sumWithTaken_31 : decode cX0_sumWithTaken 31 = .ok (.iinc 4 1, 3) := by decide +kernel
theorem dX0_sumWithTaken_34 : decode cX0_sumWithTaken 34 = .ok (.goto (-29), 3) := by decide +kernel
theorem dX0_sumWithTaken_37 : decode cX0_sumWithTaken 37 = .ok (.lload_n 2, 1) := by decide +kernel
theorem dX0_sumWithTaken_38 : decode cX0_sumWithTaken 38 = .ok (.lreturn, 1) := by decide +kernel
set_option maxRecDepth 20000 in
theorem ggX0_flowInto_X3_isTaken : GoodIn wsX0_flowInto wsX3_isTaken := goodIn_r _ [4] (by decide +kernel) (by decide +kernel)
set_option maxRecDepth 20000 in
theorem gX0_flowInto_X3_isTaken_n47 : GoodIn wsX0_flowInto (wsX3_isTaken) := ggX0_flowInto_X3_isTaken
set_option maxRecDepth 20000 in
theorem ggX0_flowInto_X0_weightOf : GoodIn wsX0_flowInto wsX0_weightOf := goodIn_r _ [9, 1, 10, 11, 12, 8, 13, 14, 29, 30, 31, 32, 33] (by decide +kernel) (by decide +kernel)
set_option maxRecDepth 20000 in
theorem gX0_flowInto_X0_weightOf : GoodIn wsX0_flowInto (wsV RX0 43 RX0 yX0_weightOf wsX0_weightOf) := goodIn_app (goodIn_of _ (by decide +kernel)) ggX0_flowInto_X0_weightOf
set_option maxRecDepth 20000 in
theorem ggX0_flowInto_X0_rateIn : GoodIn wsX0_flowInto wsX0_rateIn := goodIn_r _ [18, 19, 29, 30, 31, 32, 33] (by decide +kernel) (by decide +kernel)
set_option maxRecDepth 20000 in
theorem gX0_flowInto_X0_rateIn : GoodIn wsX0_flowInto (wsV RX0 51 RX0 yX0_rateIn wsX0_rateIn) := goodIn_app (goodIn_of _ (by decide +kernel)) ggX0_flowInto_X0_rateIn
set_option maxRecDepth 20000 in
theorem ggX0_flowInto_X0_rateOut : GoodIn wsX0_flowInto wsX0_rateOut := goodIn_r _ [23, 24, 29, 30, 31, 32, 33] (by decide +kernel) (by decide +kernel)
set_option maxRecDepth 20000 in
theorem gX0_flowInto_X0_rateOut : GoodIn wsX0_flowInto (wsV RX0 55 RX0 yX0_rateOut wsX0_rateOut) := goodIn_app (goodIn_of _ (by decide +kernel)) ggX0_flowInto_X0_rateOut
set_option maxRecDepth 20000 in
theorem ggX0_flowInto_X0_rateOfStep : GoodIn wsX0_flowInto wsX0_rateOfStep := goodIn_r _ [28, 24, 19, 29, 30, 31, 32, 33] (by decide +kernel) (by decide +kernel)
set_option maxRecDepth 20000 in
theorem gX0_flowInto_X0_rateOfStep : GoodIn wsX0_flowInto (wsV RX0 58 RX0 yX0_rateOfStep wsX0_rateOfStep) := goodIn_app (goodIn_of _ (by decide +kernel)) ggX0_flowInto_X0_rateOfStep
theorem dX0_flowInto_0 : decode cX0_flowInto 0 = .ok (.lconst 0, 1) := by decide +kernel
theorem dX0_flowInto_1 : decode cX0_flowInto 1 = .ok (.lstore_n 2, 1) := by decide +kernel
theorem dX0_flowInto_2 : decode cX0_flowInto 2 = .ok (.iload_n 1, 1) := by decide +kernel
theorem dX0_flowInto_3 : decode cX0_flowInto 3 = .ok (.iconst 0, 1) := by decide +kernel
theorem dX0_flowInto_4 : decode cX0_flowInto 4 = .ok (.invokestatic 47, 3) := by decide +kernel
theorem dX0_flowInto_7 : decode cX0_flowInto 7 = .ok (.ifCond .eq 18, 3) := by decide +kernel
theorem dX0_flowInto_10 : decode cX0_flowInto 10 = .ok (.lload_n 2, 1) := by decide +kernel
theorem dX0_flowInto_11 : decode cX0_flowInto 11 = .ok (.aload_n 0, 1) := by decide +kernel
theorem dX0_flowInto_12 : decode cX0_flowInto 12 = .ok (.iload_n 1, 1) := by decide +kernel
theorem dX0_flowInto_13 : decode cX0_flowInto 13 = .ok (.iconst 1, 1) := by decide +kernel
theorem dX0_flowInto_14 : decode cX0_flowInto 14 = .ok (.ixor, 1) := by decide +kernel
theorem dX0_flowInto_15 : decode cX0_flowInto 15 = .ok (.invokevirtual 43, 3) := by decide +kernel
theorem dX0_flowInto_18 : decode cX0_flowInto 18 = .ok (.aload_n 0, 1) := by decide +kernel
theorem dX0_flowInto_19 : decode cX0_flowInto 19 = .ok (.invokevirtual 51, 3) := by decide +kernel
theorem dX0_flowInto_22 : decode cX0_flowInto 22 = .ok (.lmul, 1) := by decide +kernel
theorem dX0_flowInto_23 : decode cX0_flowInto 23 = .ok (.ladd, 1) := by decide +kernel
theorem dX0_flowInto_24 : decode cX0_flowInto 24 = .ok (.lstore_n 2, 1) := by decide +kernel
theorem dX0_flowInto_25 : decode cX0_flowInto 25 = .ok (.iload_n 1, 1) := by decide +kernel
theorem dX0_flowInto_26 : decode cX0_flowInto 26 = .ok (.aload_n 0, 1) := by decide +kernel
theorem dX0_flowInto_27 : decode cX0_flowInto 27 = .ok (.getfield 22, 3) := by decide +kernel
theorem dX0_flowInto_30 : decode cX0_flowInto 30 = .ok (.iconst 1, 1) := by decide +kernel
theorem dX0_flowInto_31 : decode cX0_flowInto 31 = .ok (.isub, 1) := by decide +kernel
theorem dX0_flowInto_32 : decode cX0_flowInto 32 = .ok (.invokestatic 47, 3) := by decide +kernel
theorem dX0_flowInto_35 : decode cX0_flowInto 35 = .ok (.ifCond .ne 25, 3) := by decide +kernel
theorem dX0_flowInto_38 : decode cX0_flowInto 38 = .ok (.lload_n 2, 1) := by decide +kernel
theorem dX0_flowInto_39 : decode cX0_flowInto 39 = .ok (.aload_n 0, 1) := by decide +kernel
theorem dX0_flowInto_40 : decode cX0_flowInto 40 = .ok (.iload_n 1, 1) := by decide +kernel
theorem dX0_flowInto_41 : decode cX0_flowInto 41 = .ok (.iconst 1, 1) := by decide +kernel
theorem dX0_flowInto_42 : decode cX0_flowInto 42 = .ok (.aload_n 0, 1) := by decide +kernel
theorem dX0_flowInto_43 : decode cX0_flowInto 43 = .ok (.getfield 22, 3) := by decide +kernel
theorem dX0_flowInto_46 : decode cX0_flowInto 46 = .ok (.iconst 1, 1) := by decide +kernel
theorem dX0_flowInto_47 : decode cX0_flowInto 47 = .ok (.isub, 1) := by decide +kernel
theorem dX0_flowInto_48 : decode cX0_flowInto 48 = .ok (.ishl, 1) := by decide +kernel
theorem dX0_flowInto_49 : decode cX0_flowInto 49 = .ok (.ixor, 1) := by decide +kernel
theorem dX0_flowInto_50 : decode cX0_flowInto 50 = .ok (.invokevirtual 43, 3) := by decide +kernel
theorem dX0_flowInto_53 : decode cX0_flowInto 53 = .ok (.aload_n 0, 1) := by decide +kernel
theorem dX0_flowInto_54 : decode cX0_flowInto 54 = .ok (.invokevirtual 55, 3) := by decide +kernel
theorem dX0_flowInto_57 : decode cX0_flowInto 57 = .ok (.lmul, 1) := by decide +kernel
theorem dX0_flowInto_58 : decode cX0_flowInto 58 = .ok (.ladd, 1) := by decide +kernel
theorem dX0_flowInto_59 : decode cX0_flowInto 59 = .ok (.lstore_n 2, 1) := by decide +kernel
theorem dX0_flowInto_60 : decode cX0_flowInto 60 = .ok (.iconst 0, 1) := by decide +kernel
theorem dX0_flowInto_61 : decode cX0_flowInto 61 = .ok (.istore 4, 2) := by decide +kernel
theorem dX0_flowInto_63 : decode cX0_flowInto 63 = .ok (.iload 4, 2) := by decide +kernel
theorem dX0_flowInto_65 : decode cX0_flowInto 65 = .ok (.aload_n 0, 1) := by decide +kernel
theorem dX0_flowInto_66 : decode cX0_flowInto 66 = .ok (.getfield 22, 3) := by decide +kernel
theorem dX0_flowInto_69 : decode cX0_flowInto 69 = .ok (.iconst 1, 1) := by decide +kernel
theorem dX0_flowInto_70 : decode cX0_flowInto 70 = .ok (.isub, 1) := by decide +kernel
theorem dX0_flowInto_71 : decode cX0_flowInto 71 = .ok (.if_icmp .ge 47, 3) := by decide +kernel
theorem dX0_flowInto_74 : decode cX0_flowInto 74 = .ok (.iload_n 1, 1) := by decide +kernel
theorem dX0_flowInto_75 : decode cX0_flowInto 75 = .ok (.iload 4, 2) := by decide +kernel
theorem dX0_flowInto_77 : decode cX0_flowInto 77 = .ok (.invokestatic 47, 3) := by decide +kernel
theorem dX0_flowInto_80 : decode cX0_flowInto 80 = .ok (.ifCond .ne 32, 3) := by decide +kernel
theorem dX0_flowInto_83 : decode cX0_flowInto 83 = .ok (.iload_n 1, 1) := by decide +kernel
theorem dX0_flowInto_84 : decode cX0_flowInto 84 = .ok (.iload 4, 2) := by decide +kernel
theorem dX0_flowInto_86 : decode cX0_flowInto 86 = .ok (.iconst 1, 1) := by decide +kernel
theorem dX0_flowInto_87 : decode cX0_flowInto 87 = .ok (.iadd, 1) := by decide +kernel
theorem dX0_flowInto_88 : decode cX0_flowInto 88 = .ok (.invokestatic 47, 3) := by decide +kernel
theorem dX0_flowInto_91 : decode cX0_flowInto 91 = .ok (.ifCond .eq 21, 3) := by decide +kernel
theorem dX0_flowInto_94 : decode cX0_flowInto 94 = .ok (.lload_n 2, 1) := by decide +kernel
theorem dX0_flowInto_95 : decode cX0_flowInto 95 = .ok (.aload_n 0, 1) := by decide +kernel
theorem dX0_flowInto_96 : decode cX0_flowInto 96 = .ok (.iload_n 1, 1) := by decide +kernel
theorem dX0_flowInto_97 : decode cX0_flowInto 97 = .ok (.iconst 3, 1) := by decide +kernel
theorem dX0_flowInto_98 : decode cX0_flowInto 98 = .ok (.iload 4, 2) := by decide +kernel
theorem dX0_flowInto_100 : decode cX0_flowInto 100 = .ok (.ishl, 1) := by decide +kernel
theorem dX0_flowInto_101 : decode cX0_flowInto 101 = .ok (.ixor, 1) := by decide +kernel
theorem dX0_flowInto_102 : decode cX0_flowInto 102 = .ok (.invokevirtual 43, 3) := by decide +kernel
theorem dX0_flowInto_105 : decode cX0_flowInto 105 = .ok (.aload_n 0, 1) := by decide +kernel
theorem dX0_flowInto_106 : decode cX0_flowInto 106 = .ok (.invokevirtual 58, 3) := by decide +kernel
theorem dX0_flowInto_109 : decode cX0_flowInto 109 = .ok (.lmul, 1) := by decide +kernel
theorem dX0_flowInto_110 : decode cX0_flowInto 110 = .ok (.ladd, 1) := by decide +kernel
theorem dX0_flowInto_111 : decode cX0_flowInto 111 = .ok (.lstore_n 2, 1) := by decide +kernel
theorem dX0_flowInto_112 : decode cX0_flowInto 112 = .ok (.iinc 4 1, 3) := by decide +kernel
theorem dX0_flowInto_115 : decode cX0_flowInto 115 = .ok (.goto (-52), 3) := by decide +kernel
theorem dX0_flowInto_118 : decode cX0_flowInto 118 = .ok (.lload_n 2, 1) := by decide +kernel
theorem dX0_flowInto_119 : decode cX0_flowInto 119 = .ok (.lreturn, 1) := by decide +kernel
set_option maxRecDepth 20000 in
theorem ggX0_flowOutOf_X3_isTaken : GoodIn wsX0_flowOutOf wsX3_isTaken := goodIn_r _ [4] (by decide +kernel) (by decide +kernel)
set_option maxRecDepth 20000 in
theorem gX0_flowOutOf_X3_isTaken_n47 : GoodIn wsX0_flowOutOf (wsX3_isTaken) := ggX0_flowOutOf_X3_isTaken
set_option maxRecDepth 20000 in
theorem ggX0_flowOutOf_X0_rateIn : GoodIn wsX0_flowOutOf wsX0_rateIn := goodIn_r _ [9, 10, 29, 30, 31, 32, 33] (by decide +kernel) (by decide +kernel)
set_option maxRecDepth 20000 in
theorem gX0_flowOutOf_X0_rateIn : GoodIn wsX0_flowOutOf (wsV RX0 51 RX0 yX0_rateIn wsX0_rateIn) := goodIn_app (goodIn_of _ (by decide +kernel)) ggX0_flowOutOf_X0_rateIn
set_option maxRecDepth 20000 in
theorem ggX0_flowOutOf_X0_rateOut : GoodIn wsX0_flowOutOf wsX0_rateOut := goodIn_r _ [14, 15, 29, 30, 31, 32, 33] (by decide +kernel) (by decide +kernel)
set_option maxRecDepth 20000 in
theorem gX0_flowOutOf_X0_rateOut : GoodIn wsX0_flowOutOf (wsV RX0 55 RX0 yX0_rateOut wsX0_rateOut) := goodIn_app (goodIn_of _ (by decide +kernel)) ggX0_flowOutOf_X0_rateOut
set_option maxRecDepth 20000 in
theorem ggX0_flowOutOf_X0_rateOfStep : GoodIn wsX0_flowOutOf wsX0_rateOfStep := goodIn_r _ [19, 15, 10, 29, 30, 31, 32, 33] (by decide +kernel) (by decide +kernel)
set_option maxRecDepth 20000 in
theorem gX0_flowOutOf_X0_rateOfStep : GoodIn wsX0_flowOutOf (wsV RX0 58 RX0 yX0_rateOfStep wsX0_rateOfStep) := goodIn_app (goodIn_of _ (by decide +kernel)) ggX0_flowOutOf_X0_rateOfStep
set_option maxRecDepth 20000 in
theorem ggX0_flowOutOf_X0_weightOf : GoodIn wsX0_flowOutOf wsX0_weightOf := goodIn_r _ [23, 1, 24, 25, 26, 8, 27, 28, 29, 30, 31, 32, 33] (by decide +kernel) (by decide +kernel)
set_option maxRecDepth 20000 in
theorem gX0_flowOutOf_X0_weightOf : GoodIn wsX0_flowOutOf (wsV RX0 43 RX0 yX0_weightOf wsX0_weightOf) := goodIn_app (goodIn_of _ (by decide +kernel)) ggX0_flowOutOf_X0_weightOf
theorem dX0_flowOutOf_0 : decode cX0_flowOutOf 0 = .ok (.lconst 0, 1) := by decide +kernel
theorem dX0_flowOutOf_1 : decode cX0_flowOutOf 1 = .ok (.lstore_n 2, 1) := by decide +kernel
theorem dX0_flowOutOf_2 : decode cX0_flowOutOf 2 = .ok (.iload_n 1, 1) := by decide +kernel
theorem dX0_flowOutOf_3 : decode cX0_flowOutOf 3 = .ok (.iconst 0, 1) := by decide +kernel
theorem dX0_flowOutOf_4 : decode cX0_flowOutOf 4 = .ok (.invokestatic 47, 3) := by decide +kernel
theorem dX0_flowOutOf_7 : decode cX0_flowOutOf 7 = .ok (.ifCond .ne 10, 3) := by decide +kernel
theorem dX0_flowOutOf_10 : decode cX0_flowOutOf 10 = .ok (.lload_n 2, 1) := by decide +kernel
theorem dX0_flowOutOf_11 : decode cX0_flowOutOf 11 = .ok (.aload_n 0, 1) := by decide +kernel
theorem dX0_flowOutOf_12 : decode cX0_flowOutOf 12 = .ok (.invokevirtual 51, 3) := by decide +kernel
theorem dX0_flowOutOf_15 : decode cX0_flowOutOf 15 = .ok (.ladd, 1) := by decide +kernel
theorem dX0_flowOutOf_16 : decode cX0_flowOutOf 16 = .ok (.lstore_n 2, 1) := by decide +kernel
theorem dX0_flowOutOf_17 : decode cX0_flowOutOf 17 = .ok (.iload_n 1, 1) := by decide +kernel
theorem dX0_flowOutOf_18 : decode cX0_flowOutOf 18 = .ok (.aload_n 0, 1) := by decide +kernel
theorem dX0_flowOutOf_19 : decode cX0_flowOutOf 19 = .ok (.getfield 22, 3) := by decide +kernel
theorem dX0_flowOutOf_22 : decode cX0_flowOutOf 22 = .ok (.iconst 1, 1) := by decide +kernel
theorem dX0_flowOutOf_23 : decode cX0_flowOutOf 23 = .ok (.isub, 1) := by decide +kernel
theorem dX0_flowOutOf_24 : decode cX0_flowOutOf 24 = .ok (.invokestatic 47, 3) := by decide +kernel
theorem dX0_flowOutOf_27 : decode cX0_flowOutOf 27 = .ok (.ifCond .eq 10, 3) := by decide +kernel
theorem dX0_flowOutOf_30 : decode cX0_flowOutOf 30 = .ok (.lload_n 2, 1) := by decide +kernel
theorem dX0_flowOutOf_31 : decode cX0_flowOutOf 31 = .ok (.aload_n 0, 1) := by decide +kernel
theorem dX0_flowOutOf_32 : decode cX0_flowOutOf 32 = .ok (.invokevirtual 55, 3) := by decide +kernel
theorem dX0_flowOutOf_35 : decode cX0_flowOutOf 35 = .ok (.ladd, 1) := by decide +kernel
theorem dX0_flowOutOf_36 : decode cX0_flowOutOf 36 = .ok (.lstore_n 2, 1) := by decide +kernel
theorem dX0_flowOutOf_37 : decode cX0_flowOutOf 37 = .ok (.iconst 0, 1) := by decide +kernel
theorem dX0_flowOutOf_38 : decode cX0_flowOutOf 38 = .ok (.istore 4, 2) := by decide +kernel
theorem dX0_flowOutOf_40 : decode cX0_flowOutOf 40 = .ok (.iload 4, 2) := by decide +kernel
theorem dX0_flowOutOf_42 : decode cX0_flowOutOf 42 = .ok (.aload_n 0, 1) := by decide +kernel
theorem dX0_flowOutOf_43 : decode cX0_flowOutOf 43 = .ok (.getfield 22, 3) := by decide +kernel
theorem dX0_flowOutOf_46 : decode cX0_flowOutOf 46 = .ok (.iconst 1, 1) := by decide +kernel
theorem dX0_flowOutOf_47 : decode cX0_flowOutOf 47 = .ok (.isub, 1) := by decide +kernel
theorem dX0_flowOutOf_48 : decode cX0_flowOutOf 48 = .ok (.if_icmp .ge 36, 3) := by decide +kernel
theorem dX0_flowOutOf_51 : decode cX0_flowOutOf 51 = .ok (.iload_n 1, 1) := by decide +kernel
theorem dX0_flowOutOf_52 : decode cX0_flowOutOf 52 = .ok (.iload 4, 2) := by decide +kernel
theorem dX0_flowOutOf_54 : decode cX0_flowOutOf 54 = .ok (.invokestatic 47, 3) := by decide +kernel
theorem dX0_flowOutOf_57 : decode cX0_flowOutOf 57 = .ok (.ifCond .eq 21, 3) := by decide +kernel
theorem dX0_flowOutOf_60 : decode cX0_flowOutOf 60 = .ok (.iload_n 1, 1) := by decide +kernel
theorem dX0_flowOutOf_61 : decode cX0_flowOutOf 61 = .ok (.iload 4, 2) := by decide +kernel
theorem dX0_flowOutOf_63 : decode cX0_flowOutOf 63 = .ok (.iconst 1, 1) := by decide +kernel
theorem dX0_flowOutOf_64 : decode cX0_flowOutOf 64 = .ok (.iadd, 1) := by decide +kernel
theorem dX0_flowOutOf_65 : decode cX0_flowOutOf 65 = .ok (.invokestatic 47, 3) := by decide +kernel
theorem dX0_flowOutOf_68 : decode cX0_flowOutOf 68 = .ok (.ifCond .ne 10, 3) := by decide +kernel
theorem dX0_flowOutOf_71 : decode cX0_flowOutOf 71 = .ok (.lload_n 2, 1) := by decide +kernel
theorem dX0_flowOutOf_72 : decode cX0_flowOutOf 72 = .ok (.aload_n 0, 1) := by decide +kernel
theorem dX0_flowOutOf_73 : decode cX0_flowOutOf 73 = .ok (.invokevirtual 58, 3) := by decide +kernel
theorem dX0_flowOutOf_76 : decode cX0_flowOutOf 76 = .ok (.ladd, 1) := by decide +kernel
theorem dX0_flowOutOf_77 : decode cX0_flowOutOf 77 = .ok (.lstore_n 2, 1) := by decide +kernel
theorem dX0_flowOutOf_78 : decode cX0_flowOutOf 78 = .ok (.iinc 4 1, 3) := by decide +kernel
theorem dX0_flowOutOf_81 : decode cX0_flowOutOf 81 = .ok (.goto (-41), 3) := by decide +kernel
theorem dX0_flowOutOf_84 : decode cX0_flowOutOf 84 = .ok (.aload_n 0, 1) := by decide +kernel
theorem dX0_flowOutOf_85 : decode cX0_flowOutOf 85 = .ok (.iload_n 1, 1) := by decide +kernel
theorem dX0_flowOutOf_86 : decode cX0_flowOutOf 86 = .ok (.invokevirtual 43, 3) := by decide +kernel
theorem dX0_flowOutOf_89 : decode cX0_flowOutOf 89 = .ok (.lload_n 2, 1) := by decide +kernel
theorem dX0_flowOutOf_90 : decode cX0_flowOutOf 90 = .ok (.lmul, 1) := by decide +kernel
theorem dX0_flowOutOf_91 : decode cX0_flowOutOf 91 = .ok (.lreturn, 1) := by decide +kernel
set_option maxRecDepth 20000 in
theorem ggX0_heaviestState_X0_countStates : GoodIn wsX0_heaviestState wsX0_countStates := goodIn_r _ [5, 6, 16, 17, 18, 19, 20] (by decide +kernel) (by decide +kernel)
set_option maxRecDepth 20000 in
theorem gX0_heaviestState_X0_countStates : GoodIn wsX0_heaviestState (wsV RX0 35 RX0 yX0_countStates wsX0_countStates) := goodIn_app (goodIn_of _ (by decide +kernel)) ggX0_heaviestState_X0_countStates
set_option maxRecDepth 20000 in
theorem ggX0_heaviestState_X0_weightOf : GoodIn wsX0_heaviestState wsX0_weightOf := goodIn_r _ [10, 6, 11, 12, 13, 4, 14, 15, 16, 17, 18, 19, 20] (by decide +kernel) (by decide +kernel)
set_option maxRecDepth 20000 in
theorem gX0_heaviestState_X0_weightOf : GoodIn wsX0_heaviestState (wsV RX0 43 RX0 yX0_weightOf wsX0_weightOf) := goodIn_app (goodIn_of _ (by decide +kernel)) ggX0_heaviestState_X0_weightOf
theorem dX0_heaviestState_0 : decode cX0_heaviestState 0 = .ok (.iconst 0, 1) := by decide +kernel
theorem dX0_heaviestState_1 : decode cX0_heaviestState 1 = .ok (.istore_n 1, 1) := by decide +kernel
theorem dX0_heaviestState_2 : decode cX0_heaviestState 2 = .ok (.iconst 1, 1) := by decide +kernel
theorem dX0_heaviestState_3 : decode cX0_heaviestState 3 = .ok (.istore_n 2, 1) := by decide +kernel
theorem dX0_heaviestState_4 : decode cX0_heaviestState 4 = .ok (.iload_n 2, 1) := by decide +kernel
theorem dX0_heaviestState_5 : decode cX0_heaviestState 5 = .ok (.aload_n 0, 1) := by decide +kernel
theorem dX0_heaviestState_6 : decode cX0_heaviestState 6 = .ok (.invokevirtual 35, 3) := by decide +kernel
theorem dX0_heaviestState_9 : decode cX0_heaviestState 9 = .ok (.if_icmp .ge 25, 3) := by decide +kernel
theorem dX0_heaviestState_12 : decode cX0_heaviestState 12 = .ok (.aload_n 0, 1) := by decide +kernel
theorem dX0_heaviestState_13 : decode cX0_heaviestState 13 = .ok (.iload_n 2, 1) := by decide +kernel
theorem dX0_heaviestState_14 : decode cX0_heaviestState 14 = .ok (.invokevirtual 43, 3) := by decide +kernel
theorem dX0_heaviestState_17 : decode cX0_heaviestState 17 = .ok (.aload_n 0, 1) := by decide +kernel
theorem dX0_heaviestState_18 : decode cX0_heaviestState 18 = .ok (.iload_n 1, 1) := by decide +kernel
theorem dX0_heaviestState_19 : decode cX0_heaviestState 19 = .ok (.invokevirtual 43, 3) := by decide +kernel
theorem dX0_heaviestState_22 : decode cX0_heaviestState 22 = .ok (.lcmp, 1) := by decide +kernel
theorem dX0_heaviestState_23 : decode cX0_heaviestState 23 = .ok (.ifCond .le 5, 3) := by decide +kernel
theorem dX0_heaviestState_26 : decode cX0_heaviestState 26 = .ok (.iload_n 2, 1) := by decide +kernel
theorem dX0_heaviestState_27 : decode cX0_heaviestState 27 = .ok (.istore_n 1, 1) := by decide +kernel
theorem dX0_heaviestState_28 : decode cX0_heaviestState 28 = .ok (.iinc 2 1, 3) := by decide +kernel
theorem dX0_heaviestState_31 : decode cX0_heaviestState 31 = .ok (.goto (-27), 3) := by decide +kernel
theorem dX0_heaviestState_34 : decode cX0_heaviestState 34 = .ok (.iload_n 1, 1) := by decide +kernel
theorem dX0_heaviestState_35 : decode cX0_heaviestState 35 = .ok (.ireturn, 1) := by decide +kernel
set_option maxRecDepth 20000 in
theorem ggX0_lightestState_X0_countStates : GoodIn wsX0_lightestState wsX0_countStates := goodIn_r _ [5, 6, 16, 17, 18, 19, 20] (by decide +kernel) (by decide +kernel)
set_option maxRecDepth 20000 in
theorem gX0_lightestState_X0_countStates : GoodIn wsX0_lightestState (wsV RX0 35 RX0 yX0_countStates wsX0_countStates) := goodIn_app (goodIn_of _ (by decide +kernel)) ggX0_lightestState_X0_countStates
set_option maxRecDepth 20000 in
theorem ggX0_lightestState_X0_weightOf : GoodIn wsX0_lightestState wsX0_weightOf := goodIn_r _ [10, 6, 11, 12, 13, 4, 14, 15, 16, 17, 18, 19, 20] (by decide +kernel) (by decide +kernel)
set_option maxRecDepth 20000 in
theorem gX0_lightestState_X0_weightOf : GoodIn wsX0_lightestState (wsV RX0 43 RX0 yX0_weightOf wsX0_weightOf) := goodIn_app (goodIn_of _ (by decide +kernel)) ggX0_lightestState_X0_weightOf
theorem dX0_lightestState_0 : decode cX0_lightestState 0 = .ok (.iconst 0, 1) := by decide +kernel
theorem dX0_lightestState_1 : decode cX0_lightestState 1 = .ok (.istore_n 1, 1) := by decide +kernel
theorem dX0_lightestState_2 : decode cX0_lightestState 2 = .ok (.iconst 1, 1) := by decide +kernel
theorem dX0_lightestState_3 : decode cX0_lightestState 3 = .ok (.istore_n 2, 1) := by decide +kernel
theorem dX0_lightestState_4 : decode cX0_lightestState 4 = .ok (.iload_n 2, 1) := by decide +kernel
theorem dX0_lightestState_5 : decode cX0_lightestState 5 = .ok (.aload_n 0, 1) := by decide +kernel
theorem dX0_lightestState_6 : decode cX0_lightestState 6 = .ok (.invokevirtual 35, 3) := by decide +kernel
theorem dX0_lightestState_9 : decode cX0_lightestState 9 = .ok (.if_icmp .ge 25, 3) := by decide +kernel
theorem dX0_lightestState_12 : decode cX0_lightestState 12 = .ok (.aload_n 0, 1) := by decide +kernel
theorem dX0_lightestState_13 : decode cX0_lightestState 13 = .ok (.iload_n 2, 1) := by decide +kernel
theorem dX0_lightestState_14 : decode cX0_lightestState 14 = .ok (.invokevirtual 43, 3) := by decide +kernel
theorem dX0_lightestState_17 : decode cX0_lightestState 17 = .ok (.aload_n 0, 1) := by decide +kernel
theorem dX0_lightestState_18 : decode cX0_lightestState 18 = .ok (.iload_n 1, 1) := by decide +kernel
theorem dX0_lightestState_19 : decode cX0_lightestState 19 = .ok (.invokevirtual 43, 3) := by decide +kernel
theorem dX0_lightestState_22 : decode cX0_lightestState 22 = .ok (.lcmp, 1) := by decide +kernel
theorem dX0_lightestState_23 : decode cX0_lightestState 23 = .ok (.ifCond .ge 5, 3) := by decide +kernel
theorem dX0_lightestState_26 : decode cX0_lightestState 26 = .ok (.iload_n 2, 1) := by decide +kernel
theorem dX0_lightestState_27 : decode cX0_lightestState 27 = .ok (.istore_n 1, 1) := by decide +kernel
theorem dX0_lightestState_28 : decode cX0_lightestState 28 = .ok (.iinc 2 1, 3) := by decide +kernel
theorem dX0_lightestState_31 : decode cX0_lightestState 31 = .ok (.goto (-27), 3) := by decide +kernel
theorem dX0_lightestState_34 : decode cX0_lightestState 34 = .ok (.iload_n 1, 1) := by decide +kernel
theorem dX0_lightestState_35 : decode cX0_lightestState 35 = .ok (.ireturn, 1) := by decide +kernel
theorem dX0_rateIn_0 : decode cX0_rateIn 0 = .ok (.aload_n 0, 1) := by decide +kernel
theorem dX0_rateIn_1 : decode cX0_rateIn 1 = .ok (.getfield 29, 3) := by decide +kernel
theorem dX0_rateIn_4 : decode cX0_rateIn 4 = .ok (.i2l, 1) := by decide +kernel
theorem dX0_rateIn_5 : decode cX0_rateIn 5 = .ok (.lreturn, 1) := by decide +kernel
theorem dX0_rateOut_0 : decode cX0_rateOut 0 = .ok (.aload_n 0, 1) := by decide +kernel
theorem dX0_rateOut_1 : decode cX0_rateOut 1 = .ok (.getfield 26, 3) := by decide +kernel
theorem dX0_rateOut_4 : decode cX0_rateOut 4 = .ok (.i2l, 1) := by decide +kernel
theorem dX0_rateOut_5 : decode cX0_rateOut 5 = .ok (.lreturn, 1) := by decide +kernel
theorem dX0_rateOfStep_0 : decode cX0_rateOfStep 0 = .ok (.aload_n 0, 1) := by decide +kernel
theorem dX0_rateOfStep_1 : decode cX0_rateOfStep 1 = .ok (.getfield 26, 3) := by decide +kernel
theorem dX0_rateOfStep_4 : decode cX0_rateOfStep 4 = .ok (.i2l, 1) := by decide +kernel
theorem dX0_rateOfStep_5 : decode cX0_rateOfStep 5 = .ok (.aload_n 0, 1) := by decide +kernel
theorem dX0_rateOfStep_6 : decode cX0_rateOfStep 6 = .ok (.getfield 29, 3) := by decide +kernel
theorem dX0_rateOfStep_9 : decode cX0_rateOfStep 9 = .ok (.i2l, 1) := by decide +kernel
theorem dX0_rateOfStep_10 : decode cX0_rateOfStep 10 = .ok (.lmul, 1) := by decide +kernel
theorem dX0_rateOfStep_11 : decode cX0_rateOfStep 11 = .ok (.lreturn, 1) := by decide +kernel
set_option maxRecDepth 20000 in
theorem ggX0_weighAllWords_X0_weigh : GoodIn wsX0_weighAllWords wsX0_weigh := goodIn_r _ [7, 8, 9, 10, 11, 12, 13, 14, 15, 6, 16, 1, 17, 18, 19, 20, 21, 22, 23, 24] (by decide +kernel) (by decide +kernel)
set_option maxRecDepth 20000 in
theorem gX0_weighAllWords_X0_weigh : GoodIn wsX0_weighAllWords (wsV RX0 61 RX0 yX0_weigh wsX0_weigh) := goodIn_app (goodIn_of _ (by decide +kernel)) ggX0_weighAllWords_X0_weigh
theorem dX0_weighAllWords_0 : decode cX0_weighAllWords 0 = .ok (.aload_n 0, 1) := by decide +kernel
theorem dX0_weighAllWords_1 : decode cX0_weighAllWords 1 = .ok (.getfield 9, 3) := by decide +kernel
theorem dX0_weighAllWords_4 : decode cX0_weighAllWords 4 = .ok (.iconst 1, 1) := by decide +kernel
theorem dX0_weighAllWords_5 : decode cX0_weighAllWords 5 = .ok (.lconst 1, 1) := by decide +kernel
theorem dX0_weighAllWords_6 : decode cX0_weighAllWords 6 = .ok (.lastore, 1) := by decide +kernel
theorem dX0_weighAllWords_7 : decode cX0_weighAllWords 7 = .ok (.aload_n 0, 1) := by decide +kernel
theorem dX0_weighAllWords_8 : decode cX0_weighAllWords 8 = .ok (.getfield 15, 3) := by decide +kernel
theorem dX0_weighAllWords_11 : decode cX0_weighAllWords 11 = .ok (.iconst 0, 1) := by decide +kernel
theorem dX0_weighAllWords_12 : decode cX0_weighAllWords 12 = .ok (.lconst 1, 1) := by decide +kernel
theorem dX0_weighAllWords_13 : decode cX0_weighAllWords 13 = .ok (.lastore, 1) := by decide +kernel
theorem dX0_weighAllWords_14 : decode cX0_weighAllWords 14 = .ok (.iconst 1, 1) := by decide +kernel
theorem dX0_weighAllWords_15 : decode cX0_weighAllWords 15 = .ok (.istore_n 1, 1) := by decide +kernel
theorem dX0_weighAllWords_16 : decode cX0_weighAllWords 16 = .ok (.iload_n 1, 1) := by decide +kernel
theorem dX0_weighAllWords_17 : decode cX0_weighAllWords 17 = .ok (.bipush 8, 2) := by decide +kernel
theorem dX0_weighAllWords_19 : decode cX0_weighAllWords 19 = .ok (.if_icmp .gt 62, 3) := by decide +kernel
theorem dX0_weighAllWords_22 : decode cX0_weighAllWords 22 = .ok (.lconst 0, 1) := by decide +kernel
theorem dX0_weighAllWords_23 : decode cX0_weighAllWords 23 = .ok (.lstore_n 2, 1) := by decide +kernel
theorem dX0_weighAllWords_24 : decode cX0_weighAllWords 24 = .ok (.iconst 0, 1) := by decide +kernel
theorem dX0_weighAllWords_25 : decode cX0_weighAllWords 25 = .ok (.istore 4, 2) := by decide +kernel
theorem dX0_weighAllWords_27 : decode cX0_weighAllWords 27 = .ok (.iload 4, 2) := by decide +kernel
theorem dX0_weighAllWords_29 : decode cX0_weighAllWords 29 = .ok (.iconst 1, 1) := by decide +kernel
theorem dX0_weighAllWords_30 : decode cX0_weighAllWords 30 = .ok (.iload_n 1, 1) := by decide +kernel
theorem dX0_weighAllWords_31 : decode cX0_weighAllWords 31 = .ok (.ishl, 1) := by decide +kernel
theorem dX0_weighAllWords_32 : decode cX0_weighAllWords 32 = .ok (.if_icmp .ge 36, 3) := by decide +kernel
theorem dX0_weighAllWords_35 : decode cX0_weighAllWords 35 = .ok (.aload_n 0, 1) := by decide +kernel
theorem dX0_weighAllWords_36 : decode cX0_weighAllWords 36 = .ok (.iload_n 1, 1) := by decide +kernel
theorem dX0_weighAllWords_37 : decode cX0_weighAllWords 37 = .ok (.iload 4, 2) := by decide +kernel
theorem dX0_weighAllWords_39 : decode cX0_weighAllWords 39 = .ok (.invokevirtual 61, 3) := by decide +kernel
theorem dX0_weighAllWords_42 : decode cX0_weighAllWords 42 = .ok (.lstore 5, 2) := by decide +kernel
theorem dX0_weighAllWords_44 : decode cX0_weighAllWords 44 = .ok (.aload_n 0, 1) := by decide +kernel
theorem dX0_weighAllWords_45 : decode cX0_weighAllWords 45 = .ok (.getfield 9, 3) := by decide +kernel
theorem dX0_weighAllWords_48 : decode cX0_weighAllWords 48 = .ok (.iconst 1, 1) := by decide +kernel
theorem dX0_weighAllWords_49 : decode cX0_weighAllWords 49 = .ok (.iload_n 1, 1) := by decide +kernel
theorem dX0_weighAllWords_50 : decode cX0_weighAllWords 50 = .ok (.ishl, 1) := by decide +kernel
theorem dX0_weighAllWords_51 : decode cX0_weighAllWords 51 = .ok (.iload 4, 2) := by decide +kernel
theorem dX0_weighAllWords_53 : decode cX0_weighAllWords 53 = .ok (.iadd, 1) := by decide +kernel
theorem dX0_weighAllWords_54 : decode cX0_weighAllWords 54 = .ok (.lload 5, 2) := by decide +kernel
theorem dX0_weighAllWords_56 : decode cX0_weighAllWords 56 = .ok (.lastore, 1) := by decide +kernel
theorem dX0_weighAllWords_57 : decode cX0_weighAllWords 57 = .ok (.lload_n 2, 1) := by decide +kernel
theorem dX0_weighAllWords_58 : decode cX0_weighAllWords 58 = .ok (.lload 5, 2) := by decide +kernel
theorem dX0_weighAllWords_60 : decode cX0_weighAllWords 60 = .ok (.ladd, 1) := by decide +kernel
theorem dX0_weighAllWords_61 : decode cX0_weighAllWords 61 = .ok (.lstore_n 2, 1) := by decide +kernel
theorem dX0_weighAllWords_62 : decode cX0_weighAllWords 62 = .ok (.iinc 4 1, 3) := by decide +kernel
theorem dX0_weighAllWords_65 : decode cX0_weighAllWords 65 = .ok (.goto (-38), 3) := by decide +kernel
theorem dX0_weighAllWords_68 : decode cX0_weighAllWords 68 = .ok (.aload_n 0, 1) := by decide +kernel
theorem dX0_weighAllWords_69 : decode cX0_weighAllWords 69 = .ok (.getfield 15, 3) := by decide +kernel
theorem dX0_weighAllWords_72 : decode cX0_weighAllWords 72 = .ok (.iload_n 1, 1) := by decide +kernel
theorem dX0_weighAllWords_73 : decode cX0_weighAllWords 73 = .ok (.lload_n 2, 1) := by decide +kernel
theorem dX0_weighAllWords_74 : decode cX0_weighAllWords 74 = .ok (.lastore, 1) := by decide +kernel
theorem dX0_weighAllWords_75 : decode cX0_weighAllWords 75 = .ok (.iinc 1 1, 3) := by decide +kernel
theorem dX0_weighAllWords_78 : decode cX0_weighAllWords 78 = .ok (.goto (-62), 3) := by decide +kernel
theorem dX0_weighAllWords_81 : decode cX0_weighAllWords 81 = .ok (.return_, 1) := by decide +kernel
set_option maxRecDepth 20000 in
theorem ggX0_weigh_X3_isTaken : GoodIn wsX0_weigh wsX3_isTaken := goodIn_r _ [5] (by decide +kernel) (by decide +kernel)
set_option maxRecDepth 20000 in
theorem gX0_weigh_X3_isTaken_n47 : GoodIn wsX0_weigh (wsX3_isTaken) := ggX0_weigh_X3_isTaken
set_option maxRecDepth 20000 in
theorem ggX0_weigh_X0_weightOfWord : GoodIn wsX0_weigh wsX0_weightOfWord := goodIn_r _ [10, 11, 15, 16, 17, 18, 19] (by decide +kernel) (by decide +kernel)
set_option maxRecDepth 20000 in
theorem gX0_weigh_X0_weightOfWord : GoodIn wsX0_weigh (wsV RX0 39 RX0 yX0_weightOfWord wsX0_weightOfWord) := goodIn_app (goodIn_of _ (by decide +kernel)) ggX0_weigh_X0_weightOfWord
set_option maxRecDepth 20000 in
theorem ggX0_weigh_X0_lastOfLeadingTaken : GoodIn wsX0_weigh wsX0_lastOfLeadingTaken := goodIn_r _ [14, 3, 4, 5] (by decide +kernel) (by decide +kernel)
set_option maxRecDepth 20000 in
theorem gX0_weigh_X0_lastOfLeadingTaken : GoodIn wsX0_weigh (va_wsS RX0 64 yX0_lastOfLeadingTaken wsX0_lastOfLeadingTaken) := goodIn_app (goodIn_of _ (by decide +kernel)) ggX0_weigh_X0_lastOfLeadingTaken
theorem dX0_weigh_0 : decode cX0_weigh 0 = .ok (.iload_n 2, 1) := by decide +kernel
theorem dX0_weigh_1 : decode cX0_weigh 1 = .ok (.iconst 0, 1) := by decide +kernel
theorem dX0_weigh_2 : decode cX0_weigh 2 = .ok (.invokestatic 47, 3) := by decide +kernel
theorem dX0_weigh_5 : decode cX0_weigh 5 = .ok (.ifCond .ne 20, 3) := by decide +kernel
theorem dX0_weigh_8 : decode cX0_weigh 8 = .ok (.aload_n 0, 1) := by decide +kernel
theorem dX0_weigh_9 : decode cX0_weigh 9 = .ok (.getfield 26, 3) := by decide +kernel
theorem dX0_weigh_12 : decode cX0_weigh 12 = .ok (.i2l, 1) := by decide +kernel
theorem dX0_weigh_13 : decode cX0_weigh 13 = .ok (.aload_n 0, 1) := by decide +kernel
theorem dX0_weigh_14 : decode cX0_weigh 14 = .ok (.iload_n 1, 1) := by decide +kernel
theorem dX0_weigh_15 : decode cX0_weigh 15 = .ok (.iconst 1, 1) := by decide +kernel
theorem dX0_weigh_16 : decode cX0_weigh 16 = .ok (.isub, 1) := by decide +kernel
theorem dX0_weigh_17 : decode cX0_weigh 17 = .ok (.iload_n 2, 1) := by decide +kernel
theorem dX0_weigh_18 : decode cX0_weigh 18 = .ok (.iconst 1, 1) := by decide +kernel
theorem dX0_weigh_19 : decode cX0_weigh 19 = .ok (.ishr, 1) := by decide +kernel
theorem dX0_weigh_20 : decode cX0_weigh 20 = .ok (.invokevirtual 39, 3) := by decide +kernel
theorem dX0_weigh_23 : decode cX0_weigh 23 = .ok (.lmul, 1) := by decide +kernel
theorem dX0_weigh_24 : decode cX0_weigh 24 = .ok (.lreturn, 1) := by decide +kernel
theorem dX0_weigh_25 : decode cX0_weigh 25 = .ok (.iload_n 2, 1) := by decide +kernel
theorem dX0_weigh_26 : decode cX0_weigh 26 = .ok (.iload_n 1, 1) := by decide +kernel
theorem dX0_weigh_27 : decode cX0_weigh 27 = .ok (.iconst 1, 1) := by decide +kernel
theorem dX0_weigh_28 : decode cX0_weigh 28 = .ok (.isub, 1) := by decide +kernel
theorem dX0_weigh_29 : decode cX0_weigh 29 = .ok (.invokestatic 47, 3) := by decide +kernel
theorem dX0_weigh_32 : decode cX0_weigh 32 = .ok (.ifCond .eq 24, 3) := by decide +kernel
theorem dX0_weigh_35 : decode cX0_weigh 35 = .ok (.aload_n 0, 1) := by decide +kernel
theorem dX0_weigh_36 : decode cX0_weigh 36 = .ok (.getfield 29, 3) := by decide +kernel
theorem dX0_weigh_39 : decode cX0_weigh 39 = .ok (.i2l, 1) := by decide +kernel
theorem dX0_weigh_40 : decode cX0_weigh 40 = .ok (.aload_n 0, 1) := by decide +kernel
theorem dX0_weigh_41 : decode cX0_weigh 41 = .ok (.iload_n 1, 1) := by decide +kernel
theorem dX0_weigh_42 : decode cX0_weigh 42 = .ok (.iconst 1, 1) := by decide +kernel
theorem dX0_weigh_43 : decode cX0_weigh 43 = .ok (.isub, 1) := by decide +kernel
theorem dX0_weigh_44 : decode cX0_weigh 44 = .ok (.iload_n 2, 1) := by decide +kernel
theorem dX0_weigh_45 : decode cX0_weigh 45 = .ok (.iconst 1, 1) := by decide +kernel
theorem dX0_weigh_46 : decode cX0_weigh 46 = .ok (.iload_n 1, 1) := by decide +kernel
theorem dX0_weigh_47 : decode cX0_weigh 47 = .ok (.iconst 1, 1) := by decide +kernel
theorem dX0_weigh_48 : decode cX0_weigh 48 = .ok (.isub, 1) := by decide +kernel
theorem dX0_weigh_49 : decode cX0_weigh 49 = .ok (.ishl, 1) := by decide +kernel
theorem dX0_weigh_50 : decode cX0_weigh 50 = .ok (.ixor, 1) := by decide +kernel
theorem dX0_weigh_51 : decode cX0_weigh 51 = .ok (.invokevirtual 39, 3) := by decide +kernel
theorem dX0_weigh_54 : decode cX0_weigh 54 = .ok (.lmul, 1) := by decide +kernel
theorem dX0_weigh_55 : decode cX0_weigh 55 = .ok (.lreturn, 1) := by decide +kernel
theorem dX0_weigh_56 : decode cX0_weigh 56 = .ok (.iload_n 1, 1) := by decide +kernel
theorem dX0_weigh_57 : decode cX0_weigh 57 = .ok (.iload_n 2, 1) := by decide +kernel
theorem dX0_weigh_58 : decode cX0_weigh 58 = .ok (.invokestatic 64, 3) := by decide +kernel
theorem dX0_weigh_61 : decode cX0_weigh 61 = .ok (.istore_n 3, 1) := by decide +kernel
theorem dX0_weigh_62 : decode cX0_weigh 62 = .ok (.iload_n 2, 1) := by decide +kernel
theorem dX0_weigh_63 : decode cX0_weigh 63 = .ok (.iconst 1, 1) := by decide +kernel
theorem dX0_weigh_64 : decode cX0_weigh 64 = .ok (.iload_n 3, 1) := by decide +kernel
theorem dX0_weigh_65 : decode cX0_weigh 65 = .ok (.ishl, 1) := by decide +kernel
theorem dX0_weigh_66 : decode cX0_weigh 66 = .ok (.iconst 1, 1) := by decide +kernel
theorem dX0_weigh_67 : decode cX0_weigh 67 = .ok (.isub, 1) := by decide +kernel
theorem dX0_weigh_68 : decode cX0_weigh 68 = .ok (.iand, 1) := by decide +kernel
theorem dX0_weigh_69 : decode cX0_weigh 69 = .ok (.istore 4, 2) := by decide +kernel
theorem dX0_weigh_71 : decode cX0_weigh 71 = .ok (.iload_n 2, 1) := by decide +kernel
theorem dX0_weigh_72 : decode cX0_weigh 72 = .ok (.iload_n 3, 1) := by decide +kernel
theorem dX0_weigh_73 : decode cX0_weigh 73 = .ok (.iconst 2, 1) := by decide +kernel
theorem dX0_weigh_74 : decode cX0_weigh 74 = .ok (.iadd, 1) := by decide +kernel
theorem dX0_weigh_75 : decode cX0_weigh 75 = .ok (.ishr, 1) := by decide +kernel
theorem dX0_weigh_76 : decode cX0_weigh 76 = .ok (.iload_n 3, 1) := by decide +kernel
theorem dX0_weigh_77 : decode cX0_weigh 77 = .ok (.iconst 1, 1) := by decide +kernel
theorem dX0_weigh_78 : decode cX0_weigh 78 = .ok (.iadd, 1) := by decide +kernel
theorem dX0_weigh_79 : decode cX0_weigh 79 = .ok (.ishl, 1) := by decide +kernel
theorem dX0_weigh_80 : decode cX0_weigh 80 = .ok (.istore 5, 2) := by decide +kernel
theorem dX0_weigh_82 : decode cX0_weigh 82 = .ok (.aload_n 0, 1) := by decide +kernel
theorem dX0_weigh_83 : decode cX0_weigh 83 = .ok (.iload_n 1, 1) := by decide +kernel
theorem dX0_weigh_84 : decode cX0_weigh 84 = .ok (.iconst 1, 1) := by decide +kernel
theorem dX0_weigh_85 : decode cX0_weigh 85 = .ok (.isub, 1) := by decide +kernel
theorem dX0_weigh_86 : decode cX0_weigh 86 = .ok (.iload 4, 2) := by decide +kernel
theorem dX0_weigh_88 : decode cX0_weigh 88 = .ok (.iconst 1, 1) := by decide +kernel
theorem dX0_weigh_89 : decode cX0_weigh 89 = .ok (.iload_n 3, 1) := by decide +kernel
theorem dX0_weigh_90 : decode cX0_weigh 90 = .ok (.ishl, 1) := by decide +kernel
theorem dX0_weigh_91 : decode cX0_weigh 91 = .ok (.ior, 1) := by decide +kernel
theorem dX0_weigh_92 : decode cX0_weigh 92 = .ok (.iload 5, 2) := by decide +kernel
theorem dX0_weigh_94 : decode cX0_weigh 94 = .ok (.ior, 1) := by decide +kernel
theorem dX0_weigh_95 : decode cX0_weigh 95 = .ok (.invokevirtual 39, 3) := by decide +kernel
theorem dX0_weigh_98 : decode cX0_weigh 98 = .ok (.aload_n 0, 1) := by decide +kernel
theorem dX0_weigh_99 : decode cX0_weigh 99 = .ok (.iload_n 1, 1) := by decide +kernel
theorem dX0_weigh_100 : decode cX0_weigh 100 = .ok (.iconst 1, 1) := by decide +kernel
theorem dX0_weigh_101 : decode cX0_weigh 101 = .ok (.isub, 1) := by decide +kernel
theorem dX0_weigh_102 : decode cX0_weigh 102 = .ok (.iload 4, 2) := by decide +kernel
theorem dX0_weigh_104 : decode cX0_weigh 104 = .ok (.iload 5, 2) := by decide +kernel
theorem dX0_weigh_106 : decode cX0_weigh 106 = .ok (.ior, 1) := by decide +kernel
theorem dX0_weigh_107 : decode cX0_weigh 107 = .ok (.invokevirtual 39, 3) := by decide +kernel
theorem dX0_weigh_110 : decode cX0_weigh 110 = .ok (.ladd, 1) := by decide +kernel
theorem dX0_weigh_111 : decode cX0_weigh 111 = .ok (.lreturn, 1) := by decide +kernel
set_option maxRecDepth 20000 in
theorem ggX0_lastOfLeadingTaken_X3_isTaken : GoodIn wsX0_lastOfLeadingTaken wsX3_isTaken := goodIn_r _ [3] (by decide +kernel) (by decide +kernel)
set_option maxRecDepth 20000 in
theorem gX0_lastOfLeadingTaken_X3_isTaken_n47 : GoodIn wsX0_lastOfLeadingTaken (wsX3_isTaken) := ggX0_lastOfLeadingTaken_X3_isTaken
theorem dX0_lastOfLeadingTaken_0 : decode cX0_lastOfLeadingTaken 0 = .ok (.iconst 0, 1) := by decide +kernel
theorem dX0_lastOfLeadingTaken_1 : decode cX0_lastOfLeadingTaken 1 = .ok (.istore_n 2, 1) := by decide +kernel
theorem dX0_lastOfLeadingTaken_2 : decode cX0_lastOfLeadingTaken 2 = .ok (.iload_n 2, 1) := by decide +kernel
theorem dX0_lastOfLeadingTaken_3 : decode cX0_lastOfLeadingTaken 3 = .ok (.iload_n 0, 1) := by decide +kernel
theorem dX0_lastOfLeadingTaken_4 : decode cX0_lastOfLeadingTaken 4 = .ok (.iconst 1, 1) := by decide +kernel
theorem dX0_lastOfLeadingTaken_5 : decode cX0_lastOfLeadingTaken 5 = .ok (.isub, 1) := by decide +kernel
theorem dX0_lastOfLeadingTaken_6 : decode cX0_lastOfLeadingTaken 6 = .ok (.if_icmp .ge 19, 3) := by decide +kernel
theorem dX0_lastOfLeadingTaken_9 : decode cX0_lastOfLeadingTaken 9 = .ok (.iload_n 1, 1) := by decide +kernel
theorem dX0_lastOfLeadingTaken_10 : decode cX0_lastOfLeadingTaken 10 = .ok (.iload_n 2, 1) := by decide +kernel
theorem dX0_lastOfLeadingTaken_11 : decode cX0_lastOfLeadingTaken 11 = .ok (.iconst 1, 1) := by decide +kernel
theorem dX0_lastOfLeadingTaken_12 : decode cX0_lastOfLeadingTaken 12 = .ok (.iadd, 1) := by decide +kernel
theorem dX0_lastOfLeadingTaken_13 : decode cX0_lastOfLeadingTaken 13 = .ok (.invokestatic 47, 3) := by decide +kernel
theorem dX0_lastOfLeadingTaken_16 : decode cX0_lastOfLeadingTaken 16 = .ok (.ifCond .eq 9, 3) := by decide +kernel
theorem dX0_lastOfLeadingTaken_19 : decode cX0_lastOfLeadingTaken 19 = .ok (.iinc 2 1, 3) := by decide +kernel
theorem dX0_lastOfLeadingTaken_22 : decode cX0_lastOfLeadingTaken 22 = .ok (.goto (-20), 3) := by decide +kernel
theorem dX0_lastOfLeadingTaken_25 : decode cX0_lastOfLeadingTaken 25 = .ok (.iload_n 2, 1) := by decide +kernel
theorem dX0_lastOfLeadingTaken_26 : decode cX0_lastOfLeadingTaken 26 = .ok (.ireturn, 1) := by decide +kernel
theorem dX0_weightOfWord_0 : decode cX0_weightOfWord 0 = .ok (.iconst 1, 1) := by decide +kernel
theorem dX0_weightOfWord_1 : decode cX0_weightOfWord 1 = .ok (.iload_n 1, 1) := by decide +kernel
theorem dX0_weightOfWord_2 : decode cX0_weightOfWord 2 = .ok (.ishl, 1) := by decide +kernel
theorem dX0_weightOfWord_3 : decode cX0_weightOfWord 3 = .ok (.iload_n 2, 1) := by decide +kernel
theorem dX0_weightOfWord_4 : decode cX0_weightOfWord 4 = .ok (.iadd, 1) := by decide +kernel
theorem dX0_weightOfWord_5 : decode cX0_weightOfWord 5 = .ok (.istore_n 3, 1) := by decide +kernel
theorem dX0_weightOfWord_6 : decode cX0_weightOfWord 6 = .ok (.iload_n 3, 1) := by decide +kernel
theorem dX0_weightOfWord_7 : decode cX0_weightOfWord 7 = .ok (.ifCond .lt 21, 3) := by decide +kernel
theorem dX0_weightOfWord_10 : decode cX0_weightOfWord 10 = .ok (.iload_n 3, 1) := by decide +kernel
theorem dX0_weightOfWord_11 : decode cX0_weightOfWord 11 = .ok (.aload_n 0, 1) := by decide +kernel
theorem dX0_weightOfWord_12 : decode cX0_weightOfWord 12 = .ok (.getfield 9, 3) := by decide +kernel
theorem dX0_weightOfWord_15 : decode cX0_weightOfWord 15 = .ok (.arraylength, 1) := by decide +kernel
theorem dX0_weightOfWord_16 : decode cX0_weightOfWord 16 = .ok (.if_icmp .ge 12, 3) := by decide +kernel
theorem dX0_weightOfWord_19 : decode cX0_weightOfWord 19 = .ok (.aload_n 0, 1) := by decide +kernel
theorem dX0_weightOfWord_20 : decode cX0_weightOfWord 20 = .ok (.getfield 9, 3) := by decide +kernel
theorem dX0_weightOfWord_23 : decode cX0_weightOfWord 23 = .ok (.iload_n 3, 1) := by decide +kernel
theorem dX0_weightOfWord_24 : decode cX0_weightOfWord 24 = .ok (.laload, 1) := by decide +kernel
theorem dX0_weightOfWord_25 : decode cX0_weightOfWord 25 = .ok (.goto 4, 3) := by decide +kernel
theorem dX0_weightOfWord_28 : decode cX0_weightOfWord 28 = .ok (.lconst 0, 1) := by decide +kernel
theorem dX0_weightOfWord_29 : decode cX0_weightOfWord 29 = .ok (.lreturn, 1) := by decide +kernel
set_option maxRecDepth 20000 in
theorem ggX1_areRows_X3_isWithin : GoodIn wsX1_areRows wsX3_isWithin := goodIn_r _ [3] (by decide +kernel) (by decide +kernel)
set_option maxRecDepth 20000 in
theorem gX1_areRows_X3_isWithin_n7 : GoodIn wsX1_areRows (wsX3_isWithin) := ggX1_areRows_X3_isWithin
set_option maxRecDepth 20000 in
theorem ggX1_areRows_J6_bitCount_0f7a4 : GoodIn wsX1_areRows wsJ6_bitCount_0f7a4 := goodIn_r _ [7, 8, 9, 10] (by decide +kernel) (by decide +kernel)
set_option maxRecDepth 20000 in
theorem gX1_areRows_J6_bitCount_0f7a4 : GoodIn wsX1_areRows (va_wsS RX1 13 yJ6_bitCount_0f7a4 wsJ6_bitCount_0f7a4) := goodIn_app (goodIn_of _ (by decide +kernel)) ggX1_areRows_J6_bitCount_0f7a4
theorem dX1_areRows_0 : decode cX1_areRows 0 = .ok (.iconst 1, 1) := by decide +kernel
theorem dX1_areRows_1 : decode cX1_areRows 1 = .ok (.iload_n 0, 1) := by decide +kernel
theorem dX1_areRows_2 : decode cX1_areRows 2 = .ok (.ishl, 1) := by decide +kernel
theorem dX1_areRows_3 : decode cX1_areRows 3 = .ok (.iconst 1, 1) := by decide +kernel
theorem dX1_areRows_4 : decode cX1_areRows 4 = .ok (.isub, 1) := by decide +kernel
theorem dX1_areRows_5 : decode cX1_areRows 5 = .ok (.istore_n 3, 1) := by decide +kernel
theorem dX1_areRows_6 : decode cX1_areRows 6 = .ok (.iload_n 1, 1) := by decide +kernel
theorem dX1_areRows_7 : decode cX1_areRows 7 = .ok (.iconst 1, 1) := by decide +kernel
theorem dX1_areRows_8 : decode cX1_areRows 8 = .ok (.iload_n 3, 1) := by decide +kernel
theorem dX1_areRows_9 : decode cX1_areRows 9 = .ok (.invokestatic 7, 3) := by decide +kernel
theorem dX1_areRows_12 : decode cX1_areRows 12 = .ok (.ifCond .eq 14, 3) := by decide +kernel
theorem dX1_areRows_15 : decode cX1_areRows 15 = .ok (.iload_n 2, 1) := by decide +kernel
theorem dX1_areRows_16 : decode cX1_areRows 16 = .ok (.iconst 1, 1) := by decide +kernel
theorem dX1_areRows_17 : decode cX1_areRows 17 = .ok (.iload_n 3, 1) := by decide +kernel
theorem dX1_areRows_18 : decode cX1_areRows 18 = .ok (.iconst 1, 1) := by decide +kernel
theorem dX1_areRows_19 : decode cX1_areRows 19 = .ok (.isub, 1) := by decide +kernel
theorem dX1_areRows_20 : decode cX1_areRows 20 = .ok (.invokestatic 7, 3) := by decide +kernel
theorem dX1_areRows_23 : decode cX1_areRows 23 = .ok (.ifCond .ne 5, 3) := by decide +kernel
theorem dX1_areRows_26 : decode cX1_areRows 26 = .ok (.iconst 0, 1) := by decide +kernel
theorem dX1_areRows_27 : decode cX1_areRows 27 = .ok (.ireturn, 1) := by decide +kernel
theorem dX1_areRows_28 : decode cX1_areRows 28 = .ok (.iload_n 2, 1) := by decide +kernel
theorem dX1_areRows_29 : decode cX1_areRows 29 = .ok (.invokestatic 13, 3) := by decide +kernel
theorem dX1_areRows_32 : decode cX1_areRows 32 = .ok (.iload_n 1, 1) := by decide +kernel
theorem dX1_areRows_33 : decode cX1_areRows 33 = .ok (.invokestatic 13, 3) := by decide +kernel
theorem dX1_areRows_36 : decode cX1_areRows 36 = .ok (.if_icmp .le 7, 3) := by decide +kernel
theorem dX1_areRows_39 : decode cX1_areRows 39 = .ok (.iconst 1, 1) := by decide +kernel
theorem dX1_areRows_40 : decode cX1_areRows 40 = .ok (.goto 4, 3) := by decide +kernel
theorem dX1_areRows_43 : decode cX1_areRows 43 = .ok (.iconst 0, 1) := by decide +kernel
theorem dX1_areRows_44 : decode cX1_areRows 44 = .ok (.ireturn, 1) := by decide +kernel
set_option maxRecDepth 20000 in
theorem ggX1_servedPlaces_X3_isTaken : GoodIn wsX1_servedPlaces wsX3_isTaken := goodIn_r _ [3] (by decide +kernel) (by decide +kernel)
set_option maxRecDepth 20000 in
theorem gX1_servedPlaces_X3_isTaken_n19 : GoodIn wsX1_servedPlaces (wsX3_isTaken) := ggX1_servedPlaces_X3_isTaken
set_option maxRecDepth 20000 in
theorem ggX1_servedPlaces_X1_firstFrom : GoodIn wsX1_servedPlaces wsX1_firstFrom := goodIn_r _ [7, 1, 2, 3] (by decide +kernel) (by decide +kernel)
set_option maxRecDepth 20000 in
theorem gX1_servedPlaces_X1_firstFrom : GoodIn wsX1_servedPlaces (va_wsS RX1 23 yX1_firstFrom wsX1_firstFrom) := goodIn_app (goodIn_of _ (by decide +kernel)) ggX1_servedPlaces_X1_firstFrom
theorem dX1_servedPlaces_0 : decode cX1_servedPlaces 0 = .ok (.iconst 0, 1) := by decide +kernel
theorem dX1_servedPlaces_1 : decode cX1_servedPlaces 1 = .ok (.istore_n 3, 1) := by decide +kernel
theorem dX1_servedPlaces_2 : decode cX1_servedPlaces 2 = .ok (.iconst 0, 1) := by decide +kernel
theorem dX1_servedPlaces_3 : decode cX1_servedPlaces 3 = .ok (.istore 4, 2) := by decide +kernel
theorem dX1_servedPlaces_5 : decode cX1_servedPlaces 5 = .ok (.iload 4, 2) := by decide +kernel
theorem dX1_servedPlaces_7 : decode cX1_servedPlaces 7 = .ok (.iload_n 0, 1) := by decide +kernel
theorem dX1_servedPlaces_8 : decode cX1_servedPlaces 8 = .ok (.if_icmp .ge 32, 3) := by decide +kernel
theorem dX1_servedPlaces_11 : decode cX1_servedPlaces 11 = .ok (.iload_n 1, 1) := by decide +kernel
theorem dX1_servedPlaces_12 : decode cX1_servedPlaces 12 = .ok (.iload 4, 2) := by decide +kernel
theorem dX1_servedPlaces_14 : decode cX1_servedPlaces 14 = .ok (.invokestatic 19, 3) := by decide +kernel
theorem dX1_servedPlaces_17 : decode cX1_servedPlaces 17 = .ok (.ifCond .eq 17, 3) := by decide +kernel
theorem dX1_servedPlaces_20 : decode cX1_servedPlaces 20 = .ok (.iload_n 3, 1) := by decide +kernel
theorem dX1_servedPlaces_21 : decode cX1_servedPlaces 21 = .ok (.iload_n 0, 1) := by decide +kernel
theorem dX1_servedPlaces_22 : decode cX1_servedPlaces 22 = .ok (.iload 4, 2) := by decide +kernel
theorem dX1_servedPlaces_24 : decode cX1_servedPlaces 24 = .ok (.iload_n 2, 1) := by decide +kernel
theorem dX1_servedPlaces_25 : decode cX1_servedPlaces 25 = .ok (.iload_n 3, 1) := by decide +kernel
theorem dX1_servedPlaces_26 : decode cX1_servedPlaces 26 = .ok (.iconst (-1), 1) := by decide +kernel
theorem dX1_servedPlaces_27 : decode cX1_servedPlaces 27 = .ok (.ixor, 1) := by decide +kernel
theorem dX1_servedPlaces_28 : decode cX1_servedPlaces 28 = .ok (.iand, 1) := by decide +kernel
theorem dX1_servedPlaces_29 : decode cX1_servedPlaces 29 = .ok (.invokestatic 23, 3) := by decide +kernel
theorem dX1_servedPlaces_32 : decode cX1_servedPlaces 32 = .ok (.ior, 1) := by decide +kernel
theorem dX1_servedPlaces_33 : decode cX1_servedPlaces 33 = .ok (.istore_n 3, 1) := by decide +kernel
theorem dX1_servedPlaces_34 : decode cX1_servedPlaces 34 = .ok (.iinc 4 1, 3) := by decide +kernel
theorem dX1_servedPlaces_37 : decode cX1_servedPlaces 37 = .ok (.goto (-32), 3) := by decide +kernel
theorem dX1_servedPlaces_40 : decode cX1_servedPlaces 40 = .ok (.iload_n 3, 1) := by decide +kernel
theorem dX1_servedPlaces_41 : decode cX1_servedPlaces 41 = .ok (.ireturn, 1) := by decide +kernel
set_option maxRecDepth 20000 in
theorem ggX1_firstFrom_X3_isTaken : GoodIn wsX1_firstFrom wsX3_isTaken := goodIn_r _ [3] (by decide +kernel) (by decide +kernel)
set_option maxRecDepth 20000 in
theorem gX1_firstFrom_X3_isTaken_n19 : GoodIn wsX1_firstFrom (wsX3_isTaken) := ggX1_firstFrom_X3_isTaken
theorem dX1_firstFrom_0 : decode cX1_firstFrom 0 = .ok (.iload_n 1, 1) := by decide +kernel
theorem dX1_firstFrom_1 : decode cX1_firstFrom 1 = .ok (.istore_n 3, 1) := by decide +kernel
theorem dX1_firstFrom_2 : decode cX1_firstFrom 2 = .ok (.iconst 0, 1) := by decide +kernel
theorem dX1_firstFrom_3 : decode cX1_firstFrom 3 = .ok (.istore 4, 2) := by decide +kernel
theorem dX1_firstFrom_5 : decode cX1_firstFrom 5 = .ok (.iload 4, 2) := by decide +kernel
theorem dX1_firstFrom_7 : decode cX1_firstFrom 7 = .ok (.iload_n 0, 1) := by decide +kernel
theorem dX1_firstFrom_8 : decode cX1_firstFrom 8 = .ok (.if_icmp .ge 35, 3) := by decide +kernel
theorem dX1_firstFrom_11 : decode cX1_firstFrom 11 = .ok (.iload_n 2, 1) := by decide +kernel
theorem dX1_firstFrom_12 : decode cX1_firstFrom 12 = .ok (.iload_n 3, 1) := by decide +kernel
theorem dX1_firstFrom_13 : decode cX1_firstFrom 13 = .ok (.invokestatic 19, 3) := by decide +kernel
theorem dX1_firstFrom_16 : decode cX1_firstFrom 16 = .ok (.ifCond .eq 7, 3) := by decide +kernel
theorem dX1_firstFrom_19 : decode cX1_firstFrom 19 = .ok (.iconst 1, 1) := by decide +kernel
theorem dX1_firstFrom_20 : decode cX1_firstFrom 20 = .ok (.iload_n 3, 1) := by decide +kernel
theorem dX1_firstFrom_21 : decode cX1_firstFrom 21 = .ok (.ishl, 1) := by decide +kernel
theorem dX1_firstFrom_22 : decode cX1_firstFrom 22 = .ok (.ireturn, 1) := by decide +kernel
theorem dX1_firstFrom_23 : decode cX1_firstFrom 23 = .ok (.iload_n 3, 1) := by decide +kernel
theorem dX1_firstFrom_24 : decode cX1_firstFrom 24 = .ok (.ifCond .ne 9, 3) := by decide +kernel
theorem dX1_firstFrom_27 : decode cX1_firstFrom 27 = .ok (.iload_n 0, 1) := by decide +kernel
theorem dX1_firstFrom_28 : decode cX1_firstFrom 28 = .ok (.iconst 1, 1) := by decide +kernel
theorem dX1_firstFrom_29 : decode cX1_firstFrom 29 = .ok (.isub, 1) := by decide +kernel
theorem dX1_firstFrom_30 : decode cX1_firstFrom 30 = .ok (.goto 6, 3) := by decide +kernel
theorem dX1_firstFrom_33 : decode cX1_firstFrom 33 = .ok (.iload_n 3, 1) := by decide +kernel
theorem dX1_firstFrom_34 : decode cX1_firstFrom 34 = .ok (.iconst 1, 1) := by decide +kernel
theorem dX1_firstFrom_35 : decode cX1_firstFrom 35 = .ok (.isub, 1) := by decide +kernel
theorem dX1_firstFrom_36 : decode cX1_firstFrom 36 = .ok (.istore_n 3, 1) := by decide +kernel
theorem dX1_firstFrom_37 : decode cX1_firstFrom 37 = .ok (.iinc 4 1, 3) := by decide +kernel
theorem dX1_firstFrom_40 : decode cX1_firstFrom 40 = .ok (.goto (-35), 3) := by decide +kernel
theorem dX1_firstFrom_43 : decode cX1_firstFrom 43 = .ok (.iconst 0, 1) := by decide +kernel
theorem dX1_firstFrom_44 : decode cX1_firstFrom 44 = .ok (.ireturn, 1) := by decide +kernel
set_option maxRecDepth 20000 in
theorem ggX1_numberOf_X3_isTaken : GoodIn wsX1_numberOf wsX3_isTaken := goodIn_r _ [3] (by decide +kernel) (by decide +kernel)
set_option maxRecDepth 20000 in
theorem gX1_numberOf_X3_isTaken_n19 : GoodIn wsX1_numberOf (wsX3_isTaken) := ggX1_numberOf_X3_isTaken
theorem dX1_numberOf_0 : decode cX1_numberOf 0 = .ok (.iconst 0, 1) := by decide +kernel
theorem dX1_numberOf_1 : decode cX1_numberOf 1 = .ok (.istore_n 3, 1) := by decide +kernel
theorem dX1_numberOf_2 : decode cX1_numberOf 2 = .ok (.iload_n 0, 1) := by decide +kernel
theorem dX1_numberOf_3 : decode cX1_numberOf 3 = .ok (.iconst 1, 1) := by decide +kernel
theorem dX1_numberOf_4 : decode cX1_numberOf 4 = .ok (.isub, 1) := by decide +kernel
theorem dX1_numberOf_5 : decode cX1_numberOf 5 = .ok (.istore 4, 2) := by decide +kernel
theorem dX1_numberOf_7 : decode cX1_numberOf 7 = .ok (.iload 4, 2) := by decide +kernel
theorem dX1_numberOf_9 : decode cX1_numberOf 9 = .ok (.ifCond .lt 44, 3) := by decide +kernel
theorem dX1_numberOf_12 : decode cX1_numberOf 12 = .ok (.iconst 0, 1) := by decide +kernel
theorem dX1_numberOf_13 : decode cX1_numberOf 13 = .ok (.istore 5, 2) := by decide +kernel
theorem dX1_numberOf_15 : decode cX1_numberOf 15 = .ok (.iload_n 2, 1) := by decide +kernel
theorem dX1_numberOf_16 : decode cX1_numberOf 16 = .ok (.iload 4, 2) := by decide +kernel
theorem dX1_numberOf_18 : decode cX1_numberOf 18 = .ok (.invokestatic 19, 3) := by decide +kernel
theorem dX1_numberOf_21 : decode cX1_numberOf 21 = .ok (.ifCond .eq 19, 3) := by decide +kernel
theorem dX1_numberOf_24 : decode cX1_numberOf 24 = .ok (.iload_n 1, 1) := by decide +kernel
theorem dX1_numberOf_25 : decode cX1_numberOf 25 = .ok (.iload 4, 2) := by decide +kernel
theorem dX1_numberOf_27 : decode cX1_numberOf 27 = .ok (.invokestatic 19, 3) := by decide +kernel
theorem dX1_numberOf_30 : decode cX1_numberOf 30 = .ok (.ifCond .eq 7, 3) := by decide +kernel
theorem dX1_numberOf_33 : decode cX1_numberOf 33 = .ok (.iconst 1, 1) := by decide +kernel
theorem dX1_numberOf_34 : decode cX1_numberOf 34 = .ok (.goto 4, 3) := by decide +kernel
theorem dX1_numberOf_37 : decode cX1_numberOf 37 = .ok (.iconst 2, 1) := by decide +kernel
theorem dX1_numberOf_38 : decode cX1_numberOf 38 = .ok (.istore 5, 2) := by decide +kernel
theorem dX1_numberOf_40 : decode cX1_numberOf 40 = .ok (.iconst 3, 1) := by decide +kernel
theorem dX1_numberOf_41 : decode cX1_numberOf 41 = .ok (.iload_n 3, 1) := by decide +kernel
theorem dX1_numberOf_42 : decode cX1_numberOf 42 = .ok (.imul, 1) := by decide +kernel
theorem dX1_numberOf_43 : decode cX1_numberOf 43 = .ok (.iload 5, 2) := by decide +kernel
theorem dX1_numberOf_45 : decode cX1_numberOf 45 = .ok (.iadd, 1) := by decide +kernel
theorem dX1_numberOf_46 : decode cX1_numberOf 46 = .ok (.istore_n 3, 1) := by decide +kernel
theorem dX1_numberOf_47 : decode cX1_numberOf 47 = .ok (.iinc 4 (-1), 3) := by decide +kernel
theorem dX1_numberOf_50 : decode cX1_numberOf 50 = .ok (.goto (-43), 3) := by decide +kernel
theorem dX1_numberOf_53 : decode cX1_numberOf 53 = .ok (.iload_n 3, 1) := by decide +kernel
theorem dX1_numberOf_54 : decode cX1_numberOf 54 = .ok (.ireturn, 1) := by decide +kernel
theorem dX1_greatestNumber_0 : decode cX1_greatestNumber 0 = .ok (.iconst 0, 1) := by decide +kernel
theorem dX1_greatestNumber_1 : decode cX1_greatestNumber 1 = .ok (.istore_n 1, 1) := by decide +kernel
theorem dX1_greatestNumber_2 : decode cX1_greatestNumber 2 = .ok (.iconst 0, 1) := by decide +kernel
theorem dX1_greatestNumber_3 : decode cX1_greatestNumber 3 = .ok (.istore_n 2, 1) := by decide +kernel
theorem dX1_greatestNumber_4 : decode cX1_greatestNumber 4 = .ok (.iload_n 2, 1) := by decide +kernel
theorem dX1_greatestNumber_5 : decode cX1_greatestNumber 5 = .ok (.iload_n 0, 1) := by decide +kernel
theorem dX1_greatestNumber_6 : decode cX1_greatestNumber 6 = .ok (.if_icmp .ge 15, 3) := by decide +kernel
theorem dX1_greatestNumber_9 : decode cX1_greatestNumber 9 = .ok (.iconst 3, 1) := by decide +kernel
theorem dX1_greatestNumber_10 : decode cX1_greatestNumber 10 = .ok (.iload_n 1, 1) := by decide +kernel
theorem dX1_greatestNumber_11 : decode cX1_greatestNumber 11 = .ok (.imul, 1) := by decide +kernel
theorem dX1_greatestNumber_12 : decode cX1_greatestNumber 12 = .ok (.iconst 2, 1) := by decide +kernel
theorem dX1_greatestNumber_13 : decode cX1_greatestNumber 13 = .ok (.iadd, 1) := by decide +kernel
theorem dX1_greatestNumber_14 : decode cX1_greatestNumber 14 = .ok (.istore_n 1, 1) := by decide +kernel
theorem dX1_greatestNumber_15 : decode cX1_greatestNumber 15 = .ok (.iinc 2 1, 3) := by decide +kernel
theorem dX1_greatestNumber_18 : decode cX1_greatestNumber 18 = .ok (.goto (-14), 3) := by decide +kernel
theorem dX1_greatestNumber_21 : decode cX1_greatestNumber 21 = .ok (.iload_n 1, 1) := by decide +kernel
theorem dX1_greatestNumber_22 : decode cX1_greatestNumber 22 = .ok (.ireturn, 1) := by decide +kernel
theorem dX1_placesOfSort_0 : decode cX1_placesOfSort 0 = .ok (.iconst 0, 1) := by decide +kernel
theorem dX1_placesOfSort_1 : decode cX1_placesOfSort 1 = .ok (.istore_n 3, 1) := by decide +kernel
theorem dX1_placesOfSort_2 : decode cX1_placesOfSort 2 = .ok (.iload_n 1, 1) := by decide +kernel
theorem dX1_placesOfSort_3 : decode cX1_placesOfSort 3 = .ok (.istore 4, 2) := by decide +kernel
theorem dX1_placesOfSort_5 : decode cX1_placesOfSort 5 = .ok (.iconst 0, 1) := by decide +kernel
theorem dX1_placesOfSort_6 : decode cX1_placesOfSort 6 = .ok (.istore 5, 2) := by decide +kernel
theorem dX1_placesOfSort_8 : decode cX1_placesOfSort 8 = .ok (.iload 5, 2) := by decide +kernel
theorem dX1_placesOfSort_10 : decode cX1_placesOfSort 10 = .ok (.iload_n 0, 1) := by decide +kernel
theorem dX1_placesOfSort_11 : decode cX1_placesOfSort 11 = .ok (.if_icmp .ge 30, 3) := by decide +kernel
theorem dX1_placesOfSort_14 : decode cX1_placesOfSort 14 = .ok (.iload 4, 2) := by decide +kernel
theorem dX1_placesOfSort_16 : decode cX1_placesOfSort 16 = .ok (.iconst 3, 1) := by decide +kernel
theorem dX1_placesOfSort_17 : decode cX1_placesOfSort 17 = .ok (.irem, 1) := by decide +kernel
theorem dX1_placesOfSort_18 : decode cX1_placesOfSort 18 = .ok (.iload_n 2, 1) := by decide +kernel
theorem dX1_placesOfSort_19 : decode cX1_placesOfSort 19 = .ok (.if_icmp .ne 10, 3) := by decide +kernel
theorem dX1_placesOfSort_22 : decode cX1_placesOfSort 22 = .ok (.iload_n 3, 1) := by decide +kernel
theorem dX1_placesOfSort_23 : decode cX1_placesOfSort 23 = .ok (.iconst 1, 1) := by decide +kernel
theorem dX1_placesOfSort_24 : decode cX1_placesOfSort 24 = .ok (.iload 5, 2) := by decide +kernel
theorem dX1_placesOfSort_26 : decode cX1_placesOfSort 26 = .ok (.ishl, 1) := by decide +kernel
theorem dX1_placesOfSort_27 : decode cX1_placesOfSort 27 = .ok (.ior, 1) := by decide +kernel
theorem dX1_placesOfSort_28 : decode cX1_placesOfSort 28 = .ok (.istore_n 3, 1) := by decide +kernel
theorem dX1_placesOfSort_29 : decode cX1_placesOfSort 29 = .ok (.iload 4, 2) := by decide +kernel
theorem dX1_placesOfSort_31 : decode cX1_placesOfSort 31 = .ok (.iconst 3, 1) := by decide +kernel
theorem dX1_placesOfSort_32 : decode cX1_placesOfSort 32 = .ok (.idiv, 1) := by decide +kernel
theorem dX1_placesOfSort_33 : decode cX1_placesOfSort 33 = .ok (.istore 4, 2) := by decide +kernel
theorem dX1_placesOfSort_35 : decode cX1_placesOfSort 35 = .ok (.iinc 5 1, 3) := by decide +kernel
theorem dX1_placesOfSort_38 : decode cX1_placesOfSort 38 = .ok (.goto (-30), 3) := by decide +kernel
theorem dX1_placesOfSort_41 : decode cX1_placesOfSort 41 = .ok (.iload_n 3, 1) := by decide +kernel
theorem dX1_placesOfSort_42 : decode cX1_placesOfSort 42 = .ok (.ireturn, 1) := by decide +kernel
set_option maxRecDepth 20000 in
theorem ggX1_countUpperRows_J6_bitCount_0f7a4 : GoodIn wsX1_countUpperRows wsJ6_bitCount_0f7a4 := goodIn_r _ [4, 5, 6, 7] (by decide +kernel) (by decide +kernel)
set_option maxRecDepth 20000 in
theorem gX1_countUpperRows_J6_bitCount_0f7a4 : GoodIn wsX1_countUpperRows (va_wsS RX1 13 yJ6_bitCount_0f7a4 wsJ6_bitCount_0f7a4) := goodIn_app (goodIn_of _ (by decide +kernel)) ggX1_countUpperRows_J6_bitCount_0f7a4
set_option maxRecDepth 20000 in
theorem ggX1_countUpperRows_X1_servedPlaces : GoodIn wsX1_countUpperRows wsX1_servedPlaces := goodIn_r _ [11, 12, 13, 14, 15, 16, 10, 17] (by decide +kernel) (by decide +kernel)
set_option maxRecDepth 20000 in
theorem gX1_countUpperRows_X1_servedPlaces : GoodIn wsX1_countUpperRows (va_wsS RX1 29 yX1_servedPlaces wsX1_servedPlaces) := goodIn_app (goodIn_of _ (by decide +kernel)) ggX1_countUpperRows_X1_servedPlaces
theorem dX1_countUpperRows_0 : decode cX1_countUpperRows 0 = .ok (.iconst 0, 1) := by decide +kernel
theorem dX1_countUpperRows_1 : decode cX1_countUpperRows 1 = .ok (.istore_n 3, 1) := by decide +kernel
theorem dX1_countUpperRows_2 : decode cX1_countUpperRows 2 = .ok (.iconst 1, 1) := by decide +kernel
theorem dX1_countUpperRows_3 : decode cX1_countUpperRows 3 = .ok (.istore 4, 2) := by decide +kernel
theorem dX1_countUpperRows_5 : decode cX1_countUpperRows 5 = .ok (.iload 4, 2) := by decide +kernel
theorem dX1_countUpperRows_7 : decode cX1_countUpperRows 7 = .ok (.iconst 1, 1) := by decide +kernel
theorem dX1_countUpperRows_8 : decode cX1_countUpperRows 8 = .ok (.iload_n 0, 1) := by decide +kernel
theorem dX1_countUpperRows_9 : decode cX1_countUpperRows 9 = .ok (.ishl, 1) := by decide +kernel
theorem dX1_countUpperRows_10 : decode cX1_countUpperRows 10 = .ok (.if_icmp .ge 35, 3) := by decide +kernel
theorem dX1_countUpperRows_13 : decode cX1_countUpperRows 13 = .ok (.iload 4, 2) := by decide +kernel
theorem dX1_countUpperRows_15 : decode cX1_countUpperRows 15 = .ok (.invokestatic 13, 3) := by decide +kernel
theorem dX1_countUpperRows_18 : decode cX1_countUpperRows 18 = .ok (.iload_n 1, 1) := by decide +kernel
theorem dX1_countUpperRows_19 : decode cX1_countUpperRows 19 = .ok (.invokestatic 13, 3) := by decide +kernel
theorem dX1_countUpperRows_22 : decode cX1_countUpperRows 22 = .ok (.if_icmp .ne 17, 3) := by decide +kernel
theorem dX1_countUpperRows_25 : decode cX1_countUpperRows 25 = .ok (.iload_n 0, 1) := by decide +kernel
theorem dX1_countUpperRows_26 : decode cX1_countUpperRows 26 = .ok (.iload 4, 2) := by decide +kernel
theorem dX1_countUpperRows_28 : decode cX1_countUpperRows 28 = .ok (.iload_n 2, 1) := by decide +kernel
theorem dX1_countUpperRows_29 : decode cX1_countUpperRows 29 = .ok (.invokestatic 29, 3) := by decide +kernel
theorem dX1_countUpperRows_32 : decode cX1_countUpperRows 32 = .ok (.iload_n 1, 1) := by decide +kernel
theorem dX1_countUpperRows_33 : decode cX1_countUpperRows 33 = .ok (.if_icmp .ne 6, 3) := by decide +kernel
theorem dX1_countUpperRows_36 : decode cX1_countUpperRows 36 = .ok (.iinc 3 1, 3) := by decide +kernel
theorem dX1_countUpperRows_39 : decode cX1_countUpperRows 39 = .ok (.iinc 4 1, 3) := by decide +kernel
theorem dX1_countUpperRows_42 : decode cX1_countUpperRows 42 = .ok (.goto (-37), 3) := by decide +kernel
theorem dX1_countUpperRows_45 : decode cX1_countUpperRows 45 = .ok (.iload_n 3, 1) := by decide +kernel
theorem dX1_countUpperRows_46 : decode cX1_countUpperRows 46 = .ok (.ireturn, 1) := by decide +kernel
theorem dX2_init_0 : decode cX2_init 0 = .ok (.aload_n 0, 1) := by decide +kernel
theorem dX2_init_1 : decode cX2_init 1 = .ok (.invokespecial 3, 3) := by decide +kernel
theorem dX2_init_4 : decode cX2_init 4 = .ok (.return_, 1) := by decide +kernel
theorem dX2_begin_0 : decode cX2_begin 0 = .ok (.aload_n 0, 1) := by decide +kernel
theorem dX2_begin_1 : decode cX2_begin 1 = .ok (.iload_n 1, 1) := by decide +kernel
theorem dX2_begin_2 : decode cX2_begin 2 = .ok (.putfield 9, 3) := by decide +kernel
theorem dX2_begin_5 : decode cX2_begin 5 = .ok (.aload_n 0, 1) := by decide +kernel
theorem dX2_begin_6 : decode cX2_begin 6 = .ok (.iload_n 2, 1) := by decide +kernel
theorem dX2_begin_7 : decode cX2_begin 7 = .ok (.putfield 15, 3) := by decide +kernel
theorem dX2_begin_10 : decode cX2_begin 10 = .ok (.aload_n 0, 1) := by decide +kernel
theorem dX2_begin_11 : decode cX2_begin 11 = .ok (.iconst 0, 1) := by decide +kernel
theorem dX2_begin_12 : decode cX2_begin 12 = .ok (.putfield 19, 3) := by decide +kernel
theorem dX2_begin_15 : decode cX2_begin 15 = .ok (.aload_n 0, 1) := by decide +kernel
theorem dX2_begin_16 : decode cX2_begin 16 = .ok (.iconst 0, 1) := by decide +kernel
theorem dX2_begin_17 : decode cX2_begin 17 = .ok (.putfield 22, 3) := by decide +kernel
theorem dX2_begin_20 : decode cX2_begin 20 = .ok (.aload_n 0, 1) := by decide +kernel
theorem dX2_begin_21 : decode cX2_begin 21 = .ok (.iconst 1, 1) := by decide +kernel
theorem dX2_begin_22 : decode cX2_begin 22 = .ok (.putfield 25, 3) := by decide +kernel
theorem dX2_begin_25 : decode cX2_begin 25 = .ok (.aload_n 0, 1) := by decide +kernel
theorem dX2_begin_26 : decode cX2_begin 26 = .ok (.iconst 0, 1) := by decide +kernel
theorem dX2_begin_27 : decode cX2_begin 27 = .ok (.putfield 28, 3) := by decide +kernel
theorem dX2_begin_30 : decode cX2_begin 30 = .ok (.aload_n 0, 1) := by decide +kernel
theorem dX2_begin_31 : decode cX2_begin 31 = .ok (.iconst 0, 1) := by decide +kernel
theorem dX2_begin_32 : decode cX2_begin 32 = .ok (.putfield 31, 3) := by decide +kernel
theorem dX2_begin_35 : decode cX2_begin 35 = .ok (.aload_n 0, 1) := by decide +kernel
theorem dX2_begin_36 : decode cX2_begin 36 = .ok (.iconst 0, 1) := by decide +kernel
theorem dX2_begin_37 : decode cX2_begin 37 = .ok (.putfield 34, 3) := by decide +kernel
theorem dX2_begin_40 : decode cX2_begin 40 = .ok (.return_, 1) := by decide +kernel
theorem dX2_isThere_0 : decode cX2_isThere 0 = .ok (.aload_n 0, 1) := by decide +kernel
theorem dX2_isThere_1 : decode cX2_isThere 1 = .ok (.getfield 9, 3) := by decide +kernel
theorem dX2_isThere_4 : decode cX2_isThere 4 = .ok (.ifCond .le 7, 3) := by decide +kernel
theorem dX2_isThere_7 : decode cX2_isThere 7 = .ok (.iconst 1, 1) := by decide +kernel
theorem dX2_isThere_8 : decode cX2_isThere 8 = .ok (.goto 4, 3) := by decide +kernel
theorem dX2_isThere_11 : decode cX2_isThere 11 = .ok (.iconst 0, 1) := by decide +kernel
theorem dX2_isThere_12 : decode cX2_isThere 12 = .ok (.ireturn, 1) := by decide +kernel
set_option maxRecDepth 20000 in
theorem ggX2_mayHavePlace_X2_isThere : GoodIn wsX2_mayHavePlace wsX2_isThere := goodIn_r _ [6, 1, 7, 8, 9, 10, 11, 12, 13, 14] (by decide +kernel) (by decide +kernel)
set_option maxRecDepth 20000 in
theorem gX2_mayHavePlace_X2_isThere : GoodIn wsX2_mayHavePlace (wsV RX2 37 RX2 yX2_isThere wsX2_isThere) := goodIn_app (goodIn_of _ (by decide +kernel)) ggX2_mayHavePlace_X2_isThere
theorem dX2_mayHavePlace_0 : decode cX2_mayHavePlace 0 = .ok (.iload_n 1, 1) := by decide +kernel
theorem dX2_mayHavePlace_1 : decode cX2_mayHavePlace 1 = .ok (.ifCond .lt 27, 3) := by decide +kernel
theorem dX2_mayHavePlace_4 : decode cX2_mayHavePlace 4 = .ok (.iload_n 1, 1) := by decide +kernel
theorem dX2_mayHavePlace_5 : decode cX2_mayHavePlace 5 = .ok (.aload_n 0, 1) := by decide +kernel
theorem dX2_mayHavePlace_6 : decode cX2_mayHavePlace 6 = .ok (.invokevirtual 37, 3) := by decide +kernel
theorem dX2_mayHavePlace_9 : decode cX2_mayHavePlace 9 = .ok (.ifCond .eq 10, 3) := by decide +kernel
theorem dX2_mayHavePlace_12 : decode cX2_mayHavePlace 12 = .ok (.aload_n 0, 1) := by decide +kernel
theorem dX2_mayHavePlace_13 : decode cX2_mayHavePlace 13 = .ok (.getfield 9, 3) := by decide +kernel
theorem dX2_mayHavePlace_16 : decode cX2_mayHavePlace 16 = .ok (.goto 5, 3) := by decide +kernel
theorem dX2_mayHavePlace_19 : decode cX2_mayHavePlace 19 = .ok (.bipush 30, 2) := by decide +kernel
theorem dX2_mayHavePlace_21 : decode cX2_mayHavePlace 21 = .ok (.if_icmp .ge 7, 3) := by decide +kernel
theorem dX2_mayHavePlace_24 : decode cX2_mayHavePlace 24 = .ok (.iconst 1, 1) := by decide +kernel
theorem dX2_mayHavePlace_25 : decode cX2_mayHavePlace 25 = .ok (.goto 4, 3) := by decide +kernel
theorem dX2_mayHavePlace_28 : decode cX2_mayHavePlace 28 = .ok (.iconst 0, 1) := by decide +kernel
theorem dX2_mayHavePlace_29 : decode cX2_mayHavePlace 29 = .ok (.ireturn, 1) := by decide +kernel
set_option maxRecDepth 20000 in
theorem ggX2_sortAt_X3_isTaken : GoodIn wsX2_sortAt wsX3_isTaken := goodIn_r _ [5] (by decide +kernel) (by decide +kernel)
set_option maxRecDepth 20000 in
theorem gX2_sortAt_X3_isTaken_n41 : GoodIn wsX2_sortAt (wsX3_isTaken) := ggX2_sortAt_X3_isTaken
theorem dX2_sortAt_0 : decode cX2_sortAt 0 = .ok (.aload_n 0, 1) := by decide +kernel
theorem dX2_sortAt_1 : decode cX2_sortAt 1 = .ok (.getfield 19, 3) := by decide +kernel
theorem dX2_sortAt_4 : decode cX2_sortAt 4 = .ok (.iload_n 1, 1) := by decide +kernel
theorem dX2_sortAt_5 : decode cX2_sortAt 5 = .ok (.invokestatic 41, 3) := by decide +kernel
theorem dX2_sortAt_8 : decode cX2_sortAt 8 = .ok (.ifCond .eq 5, 3) := by decide +kernel
theorem dX2_sortAt_11 : decode cX2_sortAt 11 = .ok (.iconst 1, 1) := by decide +kernel
theorem dX2_sortAt_12 : decode cX2_sortAt 12 = .ok (.ireturn, 1) := by decide +kernel
theorem dX2_sortAt_13 : decode cX2_sortAt 13 = .ok (.aload_n 0, 1) := by decide +kernel
theorem dX2_sortAt_14 : decode cX2_sortAt 14 = .ok (.getfield 22, 3) := by decide +kernel
theorem dX2_sortAt_17 : decode cX2_sortAt 17 = .ok (.iload_n 1, 1) := by decide +kernel
theorem dX2_sortAt_18 : decode cX2_sortAt 18 = .ok (.invokestatic 41, 3) := by decide +kernel
theorem dX2_sortAt_21 : decode cX2_sortAt 21 = .ok (.ifCond .eq 7, 3) := by decide +kernel
theorem dX2_sortAt_24 : decode cX2_sortAt 24 = .ok (.iconst 2, 1) := by decide +kernel
theorem dX2_sortAt_25 : decode cX2_sortAt 25 = .ok (.goto 4, 3) := by decide +kernel
theorem dX2_sortAt_28 : decode cX2_sortAt 28 = .ok (.iconst 0, 1) := by decide +kernel
theorem dX2_sortAt_29 : decode cX2_sortAt 29 = .ok (.ireturn, 1) := by decide +kernel
theorem dX2_put_0 : decode cX2_put 0 = .ok (.iconst 1, 1) := by decide +kernel
theorem dX2_put_1 : decode cX2_put 1 = .ok (.iload_n 1, 1) := by decide +kernel
theorem dX2_put_2 : decode cX2_put 2 = .ok (.ishl, 1) := by decide +kernel
theorem dX2_put_3 : decode cX2_put 3 = .ok (.istore_n 3, 1) := by decide +kernel
theorem dX2_put_4 : decode cX2_put 4 = .ok (.aload_n 0, 1) := by decide +kernel
theorem dX2_put_5 : decode cX2_put 5 = .ok (.iload_n 2, 1) := by decide +kernel
theorem dX2_put_6 : decode cX2_put 6 = .ok (.iconst 1, 1) := by decide +kernel
theorem dX2_put_7 : decode cX2_put 7 = .ok (.if_icmp .ne 12, 3) := by decide +kernel
theorem dX2_put_10 : decode cX2_put 10 = .ok (.aload_n 0, 1) := by decide +kernel
theorem dX2_put_11 : decode cX2_put 11 = .ok (.getfield 19, 3) := by decide +kernel
theorem dX2_put_14 : decode cX2_put 14 = .ok (.iload_n 3, 1) := by decide +kernel
theorem dX2_put_15 : decode cX2_put 15 = .ok (.ior, 1) := by decide +kernel
theorem dX2_put_16 : decode cX2_put 16 = .ok (.goto 11, 3) := by decide +kernel
theorem dX2_put_19 : decode cX2_put 19 = .ok (.aload_n 0, 1) := by decide +kernel
theorem dX2_put_20 : decode cX2_put 20 = .ok (.getfield 19, 3) := by decide +kernel
theorem dX2_put_23 : decode cX2_put 23 = .ok (.iload_n 3, 1) := by decide +kernel
theorem dX2_put_24 : decode cX2_put 24 = .ok (.iconst (-1), 1) := by decide +kernel
theorem dX2_put_25 : decode cX2_put 25 = .ok (.ixor, 1) := by decide +kernel
theorem dX2_put_26 : decode cX2_put 26 = .ok (.iand, 1) := by decide +kernel
theorem dX2_put_27 : decode cX2_put 27 = .ok (.putfield 19, 3) := by decide +kernel
theorem dX2_put_30 : decode cX2_put 30 = .ok (.aload_n 0, 1) := by decide +kernel
theorem dX2_put_31 : decode cX2_put 31 = .ok (.iload_n 2, 1) := by decide +kernel
theorem dX2_put_32 : decode cX2_put 32 = .ok (.iconst 2, 1) := by decide +kernel
theorem dX2_put_33 : decode cX2_put 33 = .ok (.if_icmp .ne 12, 3) := by decide +kernel
theorem dX2_put_36 : decode cX2_put 36 = .ok (.aload_n 0, 1) := by decide +kernel
theorem dX2_put_37 : decode cX2_put 37 = .ok (.getfield 22, 3) := by decide +kernel
theorem dX2_put_40 : decode cX2_put 40 = .ok (.iload_n 3, 1) := by decide +kernel
theorem dX2_put_41 : decode cX2_put 41 = .ok (.ior, 1) := by decide +kernel
theorem dX2_put_42 : decode cX2_put 42 = .ok (.goto 11, 3) := by decide +kernel
theorem dX2_put_45 : decode cX2_put 45 = .ok (.aload_n 0, 1) := by decide +kernel
theorem dX2_put_46 : decode cX2_put 46 = .ok (.getfield 22, 3) := by decide +kernel
theorem dX2_put_49 : decode cX2_put 49 = .ok (.iload_n 3, 1) := by decide +kernel
theorem dX2_put_50 : decode cX2_put 50 = .ok (.iconst (-1), 1) := by decide +kernel
theorem dX2_put_51 : decode cX2_put 51 = .ok (.ixor, 1) := by decide +kernel
theorem dX2_put_52 : decode cX2_put 52 = .ok (.iand, 1) := by decide +kernel
theorem dX2_put_53 : decode cX2_put 53 = .ok (.putfield 22, 3) := by decide +kernel
theorem dX2_put_56 : decode cX2_put 56 = .ok (.return_, 1) := by decide +kernel
theorem dX2_sow_0 : decode cX2_sow 0 = .ok (.aload_n 0, 1) := by decide +kernel
theorem dX2_sow_1 : decode cX2_sow 1 = .ok (.iload_n 1, 1) := by decide +kernel
theorem dX2_sow_2 : decode cX2_sow 2 = .ok (.putfield 25, 3) := by decide +kernel
theorem dX2_sow_5 : decode cX2_sow 5 = .ok (.return_, 1) := by decide +kernel
set_option maxRecDepth 20000 in
theorem ggX2_countOfSort_J6_bitCount_0f7a4 : GoodIn wsX2_countOfSort wsJ6_bitCount_0f7a4 := goodIn_r _ [6, 7, 8, 9] (by decide +kernel) (by decide +kernel)
set_option maxRecDepth 20000 in
theorem gX2_countOfSort_J6_bitCount_0f7a4 : GoodIn wsX2_countOfSort (va_wsS RX2 45 yJ6_bitCount_0f7a4 wsJ6_bitCount_0f7a4) := goodIn_app (goodIn_of _ (by decide +kernel)) ggX2_countOfSort_J6_bitCount_0f7a4
theorem dX2_countOfSort_0 : decode cX2_countOfSort 0 = .ok (.iload_n 1, 1) := by decide +kernel
theorem dX2_countOfSort_1 : decode cX2_countOfSort 1 = .ok (.iconst 1, 1) := by decide +kernel
theorem dX2_countOfSort_2 : decode cX2_countOfSort 2 = .ok (.if_icmp .ne 10, 3) := by decide +kernel
theorem dX2_countOfSort_5 : decode cX2_countOfSort 5 = .ok (.aload_n 0, 1) := by decide +kernel
theorem dX2_countOfSort_6 : decode cX2_countOfSort 6 = .ok (.getfield 19, 3) := by decide +kernel
theorem dX2_countOfSort_9 : decode cX2_countOfSort 9 = .ok (.goto 7, 3) := by decide +kernel
theorem dX2_countOfSort_12 : decode cX2_countOfSort 12 = .ok (.aload_n 0, 1) := by decide +kernel
theorem dX2_countOfSort_13 : decode cX2_countOfSort 13 = .ok (.getfield 22, 3) := by decide +kernel
theorem dX2_countOfSort_16 : decode cX2_countOfSort 16 = .ok (.invokestatic 45, 3) := by decide +kernel
theorem dX2_countOfSort_19 : decode cX2_countOfSort 19 = .ok (.ireturn, 1) := by decide +kernel
set_option maxRecDepth 20000 in
theorem ggX2_tell_X2_countOfSort : GoodIn wsX2_tell wsX2_countOfSort := goodIn_r _ [10, 11, 12, 13, 14, 15, 16, 17, 18, 19, 28, 29, 30, 31, 32, 33, 34, 35] (by decide +kernel) (by decide +kernel)
set_option maxRecDepth 20000 in
theorem gX2_tell_X2_countOfSort : GoodIn wsX2_tell (wsV RX2 51 RX2 yX2_countOfSort wsX2_countOfSort) := goodIn_app (goodIn_of _ (by decide +kernel)) ggX2_tell_X2_countOfSort
set_option maxRecDepth 20000 in
theorem ggX2_tell_X2_firstsWithFreeBehind : GoodIn wsX2_tell wsX2_firstsWithFreeBehind := goodIn_r _ [23, 11, 12, 2, 1, 24, 25, 26, 9, 27, 28, 29, 30, 31, 32, 33, 34, 35] (by decide +kernel) (by decide +kernel)
set_option maxRecDepth 20000 in
theorem gX2_tell_X2_firstsWithFreeBehind : GoodIn wsX2_tell (wsV RX2 54 RX2 yX2_firstsWithFreeBehind wsX2_firstsWithFreeBehind) := goodIn_app (goodIn_of _ (by decide +kernel)) ggX2_tell_X2_firstsWithFreeBehind
set_option maxRecDepth 20000 in
theorem ggX2_tell_J6_bitCount_0f7a4 : GoodIn wsX2_tell wsJ6_bitCount_0f7a4 := goodIn_r _ [16, 17, 18, 19] (by decide +kernel) (by decide +kernel)
set_option maxRecDepth 20000 in
theorem gX2_tell_J6_bitCount_0f7a4 : GoodIn wsX2_tell (va_wsS RX2 45 yJ6_bitCount_0f7a4 wsJ6_bitCount_0f7a4) := goodIn_app (goodIn_of _ (by decide +kernel)) ggX2_tell_J6_bitCount_0f7a4
theorem dX2_tell_0 : decode cX2_tell 0 = .ok (.iload_n 1, 1) := by decide +kernel
theorem dX2_tell_1 : decode cX2_tell 1 = .ok (.tableswitch 88 0 6 #[43, 48, 61, 66, 71, 76, 82], 43) := by decide +kernel
theorem dX2_tell_44 : decode cX2_tell 44 = .ok (.aload_n 0, 1) := by decide +kernel
theorem dX2_tell_45 : decode cX2_tell 45 = .ok (.getfield 9, 3) := by decide +kernel
theorem dX2_tell_48 : decode cX2_tell 48 = .ok (.ireturn, 1) := by decide +kernel
theorem dX2_tell_49 : decode cX2_tell 49 = .ok (.aload_n 0, 1) := by decide +kernel
theorem dX2_tell_50 : decode cX2_tell 50 = .ok (.getfield 15, 3) := by decide +kernel
theorem dX2_tell_53 : decode cX2_tell 53 = .ok (.ifCond .eq 7, 3) := by decide +kernel
theorem dX2_tell_56 : decode cX2_tell 56 = .ok (.iconst 1, 1) := by decide +kernel
theorem dX2_tell_57 : decode cX2_tell 57 = .ok (.goto 4, 3) := by decide +kernel
theorem dX2_tell_60 : decode cX2_tell 60 = .ok (.iconst 0, 1) := by decide +kernel
theorem dX2_tell_61 : decode cX2_tell 61 = .ok (.ireturn, 1) := by decide +kernel
theorem dX2_tell_62 : decode cX2_tell 62 = .ok (.aload_n 0, 1) := by decide +kernel
theorem dX2_tell_63 : decode cX2_tell 63 = .ok (.getfield 28, 3) := by decide +kernel
theorem dX2_tell_66 : decode cX2_tell 66 = .ok (.ireturn, 1) := by decide +kernel
theorem dX2_tell_67 : decode cX2_tell 67 = .ok (.aload_n 0, 1) := by decide +kernel
theorem dX2_tell_68 : decode cX2_tell 68 = .ok (.getfield 31, 3) := by decide +kernel
theorem dX2_tell_71 : decode cX2_tell 71 = .ok (.ireturn, 1) := by decide +kernel
theorem dX2_tell_72 : decode cX2_tell 72 = .ok (.aload_n 0, 1) := by decide +kernel
theorem dX2_tell_73 : decode cX2_tell 73 = .ok (.getfield 34, 3) := by decide +kernel
theorem dX2_tell_76 : decode cX2_tell 76 = .ok (.ireturn, 1) := by decide +kernel
theorem dX2_tell_77 : decode cX2_tell 77 = .ok (.aload_n 0, 1) := by decide +kernel
theorem dX2_tell_78 : decode cX2_tell 78 = .ok (.iconst 1, 1) := by decide +kernel
theorem dX2_tell_79 : decode cX2_tell 79 = .ok (.invokevirtual 51, 3) := by decide +kernel
theorem dX2_tell_82 : decode cX2_tell 82 = .ok (.ireturn, 1) := by decide +kernel
theorem dX2_tell_83 : decode cX2_tell 83 = .ok (.aload_n 0, 1) := by decide +kernel
theorem dX2_tell_84 : decode cX2_tell 84 = .ok (.iconst 2, 1) := by decide +kernel
theorem dX2_tell_85 : decode cX2_tell 85 = .ok (.invokevirtual 51, 3) := by decide +kernel
theorem dX2_tell_88 : decode cX2_tell 88 = .ok (.ireturn, 1) := by decide +kernel
theorem dX2_tell_89 : decode cX2_tell 89 = .ok (.aload_n 0, 1) := by decide +kernel
theorem dX2_tell_90 : decode cX2_tell 90 = .ok (.invokevirtual 54, 3) := by decide +kernel
theorem dX2_tell_93 : decode cX2_tell 93 = .ok (.invokestatic 45, 3) := by decide +kernel
theorem dX2_tell_96 : decode cX2_tell 96 = .ok (.ireturn, 1) := by decide +kernel
set_option maxRecDepth 20000 in
theorem ggX2_stepSingly_X2_draw : GoodIn wsX2_stepSingly wsX2_draw := goodIn_r _ [5, 6, 7, 8, 9, 43, 44, 45, 46, 47, 48, 49, 50] (by decide +kernel) (by decide +kernel)
set_option maxRecDepth 20000 in
theorem gX2_stepSingly_X2_draw : GoodIn wsX2_stepSingly (wsV RX2 58 RX2 yX2_draw wsX2_draw) := goodIn_app (goodIn_of _ (by decide +kernel)) ggX2_stepSingly_X2_draw
set_option maxRecDepth 20000 in
theorem ggX2_stepSingly_X2_stepOnce : GoodIn wsX2_stepSingly wsX2_stepOnce := goodIn_r _ [13, 9, 14, 15, 16, 17, 4, 18, 19, 20, 21, 22, 23, 24, 25, 26, 27, 28, 29, 30, 31, 32, 33, 34, 35, 36, 37, 38, 39, 40, 41, 42, 43, 44, 45, 46, 47, 48, 49, 50] (by decide +kernel) (by decide +kernel)
set_option maxRecDepth 20000 in
theorem gX2_stepSingly_X2_stepOnce : GoodIn wsX2_stepSingly (wsV RX2 61 RX2 yX2_stepOnce wsX2_stepOnce) := goodIn_app (goodIn_of _ (by decide +kernel)) ggX2_stepSingly_X2_stepOnce
theorem dX2_stepSingly_0 : decode cX2_stepSingly 0 = .ok (.iconst 0, 1) := by decide +kernel
theorem dX2_stepSingly_1 : decode cX2_stepSingly 1 = .ok (.istore_n 2, 1) := by decide +kernel
theorem dX2_stepSingly_2 : decode cX2_stepSingly 2 = .ok (.iconst 0, 1) := by decide +kernel
theorem dX2_stepSingly_3 : decode cX2_stepSingly 3 = .ok (.istore_n 3, 1) := by decide +kernel
theorem dX2_stepSingly_4 : decode cX2_stepSingly 4 = .ok (.iload_n 3, 1) := by decide +kernel
theorem dX2_stepSingly_5 : decode cX2_stepSingly 5 = .ok (.iload_n 1, 1) := by decide +kernel
theorem dX2_stepSingly_6 : decode cX2_stepSingly 6 = .ok (.if_icmp .ge 23, 3) := by decide +kernel
theorem dX2_stepSingly_9 : decode cX2_stepSingly 9 = .ok (.aload_n 0, 1) := by decide +kernel
theorem dX2_stepSingly_10 : decode cX2_stepSingly 10 = .ok (.aload_n 0, 1) := by decide +kernel
theorem dX2_stepSingly_11 : decode cX2_stepSingly 11 = .ok (.invokevirtual 58, 3) := by decide +kernel
theorem dX2_stepSingly_14 : decode cX2_stepSingly 14 = .ok (.invokevirtual 61, 3) := by decide +kernel
theorem dX2_stepSingly_17 : decode cX2_stepSingly 17 = .ok (.ifCond .eq 6, 3) := by decide +kernel
theorem dX2_stepSingly_20 : decode cX2_stepSingly 20 = .ok (.iinc 2 1, 3) := by decide +kernel
theorem dX2_stepSingly_23 : decode cX2_stepSingly 23 = .ok (.iinc 3 1, 3) := by decide +kernel
theorem dX2_stepSingly_26 : decode cX2_stepSingly 26 = .ok (.goto (-22), 3) := by decide +kernel
theorem dX2_stepSingly_29 : decode cX2_stepSingly 29 = .ok (.iload_n 2, 1) := by decide +kernel
theorem dX2_stepSingly_30 : decode cX2_stepSingly 30 = .ok (.ireturn, 1) := by decide +kernel
theorem dX2_draw_0 : decode cX2_draw 0 = .ok (.aload_n 0, 1) := by decide +kernel
theorem dX2_draw_1 : decode cX2_draw 1 = .ok (.aload_n 0, 1) := by decide +kernel
theorem dX2_draw_2 : decode cX2_draw 2 = .ok (.getfield 25, 3) := by decide +kernel
theorem dX2_draw_5 : decode cX2_draw 5 = .ok (.ldc 65, 2) := by decide +kernel
theorem dX2_draw_7 : decode cX2_draw 7 = .ok (.imul, 1) := by decide +kernel
theorem dX2_draw_8 : decode cX2_draw 8 = .ok (.sipush 12345, 3) := by decide +kernel
theorem dX2_draw_11 : decode cX2_draw 11 = .ok (.iadd, 1) := by decide +kernel
theorem dX2_draw_12 : decode cX2_draw 12 = .ok (.ldc 66, 2) := by decide +kernel
theorem dX2_draw_14 : decode cX2_draw 14 = .ok (.iand, 1) := by decide +kernel
theorem dX2_draw_15 : decode cX2_draw 15 = .ok (.putfield 25, 3) := by decide +kernel
theorem dX2_draw_18 : decode cX2_draw 18 = .ok (.aload_n 0, 1) := by decide +kernel
theorem dX2_draw_19 : decode cX2_draw 19 = .ok (.getfield 9, 3) := by decide +kernel
theorem dX2_draw_22 : decode cX2_draw 22 = .ok (.iconst 1, 1) := by decide +kernel
theorem dX2_draw_23 : decode cX2_draw 23 = .ok (.iadd, 1) := by decide +kernel
theorem dX2_draw_24 : decode cX2_draw 24 = .ok (.istore_n 1, 1) := by decide +kernel
theorem dX2_draw_25 : decode cX2_draw 25 = .ok (.iload_n 1, 1) := by decide +kernel
theorem dX2_draw_26 : decode cX2_draw 26 = .ok (.ifCond .le 15, 3) := by decide +kernel
theorem dX2_draw_29 : decode cX2_draw 29 = .ok (.aload_n 0, 1) := by decide +kernel
theorem dX2_draw_30 : decode cX2_draw 30 = .ok (.getfield 25, 3) := by decide +kernel
theorem dX2_draw_33 : decode cX2_draw 33 = .ok (.bipush 16, 2) := by decide +kernel
theorem dX2_draw_35 : decode cX2_draw 35 = .ok (.ishr, 1) := by decide +kernel
theorem dX2_draw_36 : decode cX2_draw 36 = .ok (.iload_n 1, 1) := by decide +kernel
theorem dX2_draw_37 : decode cX2_draw 37 = .ok (.irem, 1) := by decide +kernel
theorem dX2_draw_38 : decode cX2_draw 38 = .ok (.goto 4, 3) := by decide +kernel
theorem dX2_draw_41 : decode cX2_draw 41 = .ok (.iconst 0, 1) := by decide +kernel
theorem dX2_draw_42 : decode cX2_draw 42 = .ok (.ireturn, 1) := by decide +kernel
set_option maxRecDepth 20000 in
theorem ggX2_stepOnce_X2_exchange : GoodIn wsX2_stepOnce wsX2_exchange := goodIn_r _ [7, 8, 9, 10, 11, 6, 12, 13, 14, 15, 16, 17, 18, 19, 20, 21, 32, 33, 34, 35, 36, 37, 38, 39] (by decide +kernel) (by decide +kernel)
set_option maxRecDepth 20000 in
theorem gX2_stepOnce_X2_exchange : GoodIn wsX2_stepOnce (wsV RX2 67 RX2 yX2_exchange wsX2_exchange) := goodIn_app (goodIn_of _ (by decide +kernel)) ggX2_stepOnce_X2_exchange
set_option maxRecDepth 20000 in
theorem ggX2_stepOnce_X2_comeToFirstPlace : GoodIn wsX2_stepOnce wsX2_comeToFirstPlace := goodIn_r _ [25, 26, 27, 9, 10, 11, 6, 12, 13, 14, 15, 16, 17, 18, 19, 20, 21, 32, 33, 34, 35, 36, 37, 38, 39] (by decide +kernel) (by decide +kernel)
set_option maxRecDepth 20000 in
theorem gX2_stepOnce_X2_comeToFirstPlace : GoodIn wsX2_stepOnce (wsV RX2 70 RX2 yX2_comeToFirstPlace wsX2_comeToFirstPlace) := goodIn_app (goodIn_of _ (by decide +kernel)) ggX2_stepOnce_X2_comeToFirstPlace
set_option maxRecDepth 20000 in
theorem ggX2_stepOnce_X2_goFromLastPlace : GoodIn wsX2_stepOnce wsX2_goFromLastPlace := goodIn_r _ [31, 1, 26, 9, 10, 11, 6, 12, 13, 14, 15, 16, 17, 18, 19, 20, 21, 32, 33, 34, 35, 36, 37, 38, 39] (by decide +kernel) (by decide +kernel)
set_option maxRecDepth 20000 in
theorem gX2_stepOnce_X2_goFromLastPlace : GoodIn wsX2_stepOnce (wsV RX2 73 RX2 yX2_goFromLastPlace wsX2_goFromLastPlace) := goodIn_app (goodIn_of _ (by decide +kernel)) ggX2_stepOnce_X2_goFromLastPlace
theorem dX2_stepOnce_0 : decode cX2_stepOnce 0 = .ok (.aload_n 0, 1) := by decide +kernel
theorem dX2_stepOnce_1 : decode cX2_stepOnce 1 = .ok (.getfield 9, 3) := by decide +kernel
theorem dX2_stepOnce_4 : decode cX2_stepOnce 4 = .ok (.iconst 1, 1) := by decide +kernel
theorem dX2_stepOnce_5 : decode cX2_stepOnce 5 = .ok (.isub, 1) := by decide +kernel
theorem dX2_stepOnce_6 : decode cX2_stepOnce 6 = .ok (.istore_n 2, 1) := by decide +kernel
theorem dX2_stepOnce_7 : decode cX2_stepOnce 7 = .ok (.iload_n 1, 1) := by decide +kernel
theorem dX2_stepOnce_8 : decode cX2_stepOnce 8 = .ok (.iload_n 2, 1) := by decide +kernel
theorem dX2_stepOnce_9 : decode cX2_stepOnce 9 = .ok (.if_icmp .ge 12, 3) := by decide +kernel
theorem dX2_stepOnce_12 : decode cX2_stepOnce 12 = .ok (.aload_n 0, 1) := by decide +kernel
theorem dX2_stepOnce_13 : decode cX2_stepOnce 13 = .ok (.iload_n 1, 1) := by decide +kernel
theorem dX2_stepOnce_14 : decode cX2_stepOnce 14 = .ok (.iload_n 1, 1) := by decide +kernel
theorem dX2_stepOnce_15 : decode cX2_stepOnce 15 = .ok (.iconst 1, 1) := by decide +kernel
theorem dX2_stepOnce_16 : decode cX2_stepOnce 16 = .ok (.iadd, 1) := by decide +kernel
theorem dX2_stepOnce_17 : decode cX2_stepOnce 17 = .ok (.invokevirtual 67, 3) := by decide +kernel
theorem dX2_stepOnce_20 : decode cX2_stepOnce 20 = .ok (.ireturn, 1) := by decide +kernel
theorem dX2_stepOnce_21 : decode cX2_stepOnce 21 = .ok (.iload_n 1, 1) := by decide +kernel
theorem dX2_stepOnce_22 : decode cX2_stepOnce 22 = .ok (.iload_n 2, 1) := by decide +kernel
theorem dX2_stepOnce_23 : decode cX2_stepOnce 23 = .ok (.if_icmp .ne 24, 3) := by decide +kernel
theorem dX2_stepOnce_26 : decode cX2_stepOnce 26 = .ok (.aload_n 0, 1) := by decide +kernel
theorem dX2_stepOnce_27 : decode cX2_stepOnce 27 = .ok (.getfield 15, 3) := by decide +kernel
theorem dX2_stepOnce_30 : decode cX2_stepOnce 30 = .ok (.ifCond .eq 10, 3) := by decide +kernel
theorem dX2_stepOnce_33 : decode cX2_stepOnce 33 = .ok (.aload_n 0, 1) := by decide +kernel
theorem dX2_stepOnce_34 : decode cX2_stepOnce 34 = .ok (.invokevirtual 70, 3) := by decide +kernel
theorem dX2_stepOnce_37 : decode cX2_stepOnce 37 = .ok (.goto 9, 3) := by decide +kernel
theorem dX2_stepOnce_40 : decode cX2_stepOnce 40 = .ok (.aload_n 0, 1) := by decide +kernel
theorem dX2_stepOnce_41 : decode cX2_stepOnce 41 = .ok (.iload_n 2, 1) := by decide +kernel
theorem dX2_stepOnce_42 : decode cX2_stepOnce 42 = .ok (.iconst 0, 1) := by decide +kernel
theorem dX2_stepOnce_43 : decode cX2_stepOnce 43 = .ok (.invokevirtual 67, 3) := by decide +kernel
theorem dX2_stepOnce_46 : decode cX2_stepOnce 46 = .ok (.ireturn, 1) := by decide +kernel
theorem dX2_stepOnce_47 : decode cX2_stepOnce 47 = .ok (.aload_n 0, 1) := by decide +kernel
theorem dX2_stepOnce_48 : decode cX2_stepOnce 48 = .ok (.getfield 15, 3) := by decide +kernel
theorem dX2_stepOnce_51 : decode cX2_stepOnce 51 = .ok (.ifCond .eq 14, 3) := by decide +kernel
theorem dX2_stepOnce_54 : decode cX2_stepOnce 54 = .ok (.aload_n 0, 1) := by decide +kernel
theorem dX2_stepOnce_55 : decode cX2_stepOnce 55 = .ok (.invokevirtual 73, 3) := by decide +kernel
theorem dX2_stepOnce_58 : decode cX2_stepOnce 58 = .ok (.ifCond .eq 7, 3) := by decide +kernel
theorem dX2_stepOnce_61 : decode cX2_stepOnce 61 = .ok (.iconst 1, 1) := by decide +kernel
theorem dX2_stepOnce_62 : decode cX2_stepOnce 62 = .ok (.goto 4, 3) := by decide +kernel
theorem dX2_stepOnce_65 : decode cX2_stepOnce 65 = .ok (.iconst 0, 1) := by decide +kernel
theorem dX2_stepOnce_66 : decode cX2_stepOnce 66 = .ok (.ireturn, 1) := by decide +kernel
set_option maxRecDepth 20000 in
theorem ggX2_exchange_X2_sortAt : GoodIn wsX2_exchange wsX2_sortAt := goodIn_r _ [6, 7, 8, 9, 10, 11, 16, 17, 18, 19, 20, 21, 22, 23] (by decide +kernel) (by decide +kernel)
set_option maxRecDepth 20000 in
theorem gX2_exchange_X2_sortAt : GoodIn wsX2_exchange (wsV RX2 76 RX2 yX2_sortAt wsX2_sortAt) := goodIn_app (goodIn_of _ (by decide +kernel)) ggX2_exchange_X2_sortAt
set_option maxRecDepth 20000 in
theorem ggX2_exchange_X2_put : GoodIn wsX2_exchange wsX2_put := goodIn_r _ [15, 7, 8, 16, 17, 18, 19, 20, 21, 22, 23] (by decide +kernel) (by decide +kernel)
set_option maxRecDepth 20000 in
theorem gX2_exchange_X2_put : GoodIn wsX2_exchange (wsV RX2 79 RX2 yX2_put wsX2_put) := goodIn_app (goodIn_of _ (by decide +kernel)) ggX2_exchange_X2_put
theorem dX2_exchange_0 : decode cX2_exchange 0 = .ok (.aload_n 0, 1) := by decide +kernel
theorem dX2_exchange_1 : decode cX2_exchange 1 = .ok (.iload_n 1, 1) := by decide +kernel
theorem dX2_exchange_2 : decode cX2_exchange 2 = .ok (.invokevirtual 76, 3) := by decide +kernel
theorem dX2_exchange_5 : decode cX2_exchange 5 = .ok (.istore_n 3, 1) := by decide +kernel
theorem dX2_exchange_6 : decode cX2_exchange 6 = .ok (.aload_n 0, 1) := by decide +kernel
theorem dX2_exchange_7 : decode cX2_exchange 7 = .ok (.iload_n 2, 1) := by decide +kernel
theorem dX2_exchange_8 : decode cX2_exchange 8 = .ok (.invokevirtual 76, 3) := by decide +kernel
theorem dX2_exchange_11 : decode cX2_exchange 11 = .ok (.istore 4, 2) := by decide +kernel
theorem dX2_exchange_13 : decode cX2_exchange 13 = .ok (.iload_n 3, 1) := by decide +kernel
theorem dX2_exchange_14 : decode cX2_exchange 14 = .ok (.iconst 1, 1) := by decide +kernel
theorem dX2_exchange_15 : decode cX2_exchange 15 = .ok (.if_icmp .ne 9, 3) := by decide +kernel
theorem dX2_exchange_18 : decode cX2_exchange 18 = .ok (.iload 4, 2) := by decide +kernel
theorem dX2_exchange_20 : decode cX2_exchange 20 = .ok (.iconst 1, 1) := by decide +kernel
theorem dX2_exchange_21 : decode cX2_exchange 21 = .ok (.if_icmp .ne 13, 3) := by decide +kernel
theorem dX2_exchange_24 : decode cX2_exchange 24 = .ok (.iload_n 3, 1) := by decide +kernel
theorem dX2_exchange_25 : decode cX2_exchange 25 = .ok (.iconst 2, 1) := by decide +kernel
theorem dX2_exchange_26 : decode cX2_exchange 26 = .ok (.if_icmp .ne 12, 3) := by decide +kernel
theorem dX2_exchange_29 : decode cX2_exchange 29 = .ok (.iload 4, 2) := by decide +kernel
theorem dX2_exchange_31 : decode cX2_exchange 31 = .ok (.ifCond .ne 7, 3) := by decide +kernel
theorem dX2_exchange_34 : decode cX2_exchange 34 = .ok (.iconst 1, 1) := by decide +kernel
theorem dX2_exchange_35 : decode cX2_exchange 35 = .ok (.goto 4, 3) := by decide +kernel
theorem dX2_exchange_38 : decode cX2_exchange 38 = .ok (.iconst 0, 1) := by decide +kernel
theorem dX2_exchange_39 : decode cX2_exchange 39 = .ok (.istore 5, 2) := by decide +kernel
theorem dX2_exchange_41 : decode cX2_exchange 41 = .ok (.iload 5, 2) := by decide +kernel
theorem dX2_exchange_43 : decode cX2_exchange 43 = .ok (.ifCond .eq 26, 3) := by decide +kernel
theorem dX2_exchange_46 : decode cX2_exchange 46 = .ok (.aload_n 0, 1) := by decide +kernel
theorem dX2_exchange_47 : decode cX2_exchange 47 = .ok (.iload_n 1, 1) := by decide +kernel
theorem dX2_exchange_48 : decode cX2_exchange 48 = .ok (.iload 4, 2) := by decide +kernel
theorem dX2_exchange_50 : decode cX2_exchange 50 = .ok (.invokevirtual 79, 3) := by decide +kernel
end
section
theorem dX2_exchange_53 : decode cX2_exchange 53 = .ok (.aload_n 0, 1) := by decide +kernel
theorem dX2_exchange_54 : decode cX2_exchange 54 = .ok (.iload_n 2, 1) := by decide +kernel
theorem dX2_exchange_55 : decode cX2_exchange 55 = .ok (.iload_n 3, 1) := by decide +kernel
theorem dX2_exchange_56 : decode cX2_exchange 56 = .ok (.invokevirtual 79, 3) := by decide +kernel
theorem dX2_exchange_59 : decode cX2_exchange 59 = .ok (.aload_n 0, 1) := by decide +kernel
theorem dX2_exchange_60 : decode cX2_exchange 60 = .ok (.dup, 1) := by decide +kernel
theorem dX2_exchange_61 : decode cX2_exchange 61 = .ok (.getfield 34, 3) := by decide +kernel
theorem dX2_exchange_64 : decode cX2_exchange 64 = .ok (.iconst 1, 1) := by decide +kernel
theorem dX2_exchange_65 : decode cX2_exchange 65 = .ok (.iadd, 1) := by decide +kernel
theorem dX2_exchange_66 : decode cX2_exchange 66 = .ok (.putfield 34, 3) := by decide +kernel
theorem dX2_exchange_69 : decode cX2_exchange 69 = .ok (.iload 5, 2) := by decide +kernel
theorem dX2_exchange_71 : decode cX2_exchange 71 = .ok (.ireturn, 1) := by decide +kernel
set_option maxRecDepth 20000 in
theorem ggX2_comeToFirstPlace_X2_sortAt : GoodIn wsX2_comeToFirstPlace wsX2_sortAt := goodIn_r _ [7, 8, 9, 10, 11, 12, 17, 18, 19, 20, 21, 22, 23, 24] (by decide +kernel) (by decide +kernel)
set_option maxRecDepth 20000 in
theorem gX2_comeToFirstPlace_X2_sortAt : GoodIn wsX2_comeToFirstPlace (wsV RX2 76 RX2 yX2_sortAt wsX2_sortAt) := goodIn_app (goodIn_of _ (by decide +kernel)) ggX2_comeToFirstPlace_X2_sortAt
set_option maxRecDepth 20000 in
theorem ggX2_comeToFirstPlace_X2_put : GoodIn wsX2_comeToFirstPlace wsX2_put := goodIn_r _ [16, 8, 9, 17, 18, 19, 20, 21, 22, 23, 24] (by decide +kernel) (by decide +kernel)
set_option maxRecDepth 20000 in
theorem gX2_comeToFirstPlace_X2_put : GoodIn wsX2_comeToFirstPlace (wsV RX2 79 RX2 yX2_put wsX2_put) := goodIn_app (goodIn_of _ (by decide +kernel)) ggX2_comeToFirstPlace_X2_put
theorem dX2_comeToFirstPlace_0 : decode cX2_comeToFirstPlace 0 = .ok (.aload_n 0, 1) := by decide +kernel
theorem dX2_comeToFirstPlace_1 : decode cX2_comeToFirstPlace 1 = .ok (.iconst 0, 1) := by decide +kernel
theorem dX2_comeToFirstPlace_2 : decode cX2_comeToFirstPlace 2 = .ok (.invokevirtual 76, 3) := by decide +kernel
theorem dX2_comeToFirstPlace_5 : decode cX2_comeToFirstPlace 5 = .ok (.istore_n 1, 1) := by decide +kernel
theorem dX2_comeToFirstPlace_6 : decode cX2_comeToFirstPlace 6 = .ok (.iload_n 1, 1) := by decide +kernel
theorem dX2_comeToFirstPlace_7 : decode cX2_comeToFirstPlace 7 = .ok (.iconst 1, 1) := by decide +kernel
theorem dX2_comeToFirstPlace_8 : decode cX2_comeToFirstPlace 8 = .ok (.if_icmp .ne 5, 3) := by decide +kernel
theorem dX2_comeToFirstPlace_11 : decode cX2_comeToFirstPlace 11 = .ok (.iconst 0, 1) := by decide +kernel
theorem dX2_comeToFirstPlace_12 : decode cX2_comeToFirstPlace 12 = .ok (.ireturn, 1) := by decide +kernel
theorem dX2_comeToFirstPlace_13 : decode cX2_comeToFirstPlace 13 = .ok (.iload_n 1, 1) := by decide +kernel
theorem dX2_comeToFirstPlace_14 : decode cX2_comeToFirstPlace 14 = .ok (.iconst 2, 1) := by decide +kernel
theorem dX2_comeToFirstPlace_15 : decode cX2_comeToFirstPlace 15 = .ok (.if_icmp .ne 13, 3) := by decide +kernel
theorem dX2_comeToFirstPlace_18 : decode cX2_comeToFirstPlace 18 = .ok (.aload_n 0, 1) := by decide +kernel
theorem dX2_comeToFirstPlace_19 : decode cX2_comeToFirstPlace 19 = .ok (.dup, 1) := by decide +kernel
theorem dX2_comeToFirstPlace_20 : decode cX2_comeToFirstPlace 20 = .ok (.getfield 31, 3) := by decide +kernel
theorem dX2_comeToFirstPlace_23 : decode cX2_comeToFirstPlace 23 = .ok (.iconst 1, 1) := by decide +kernel
theorem dX2_comeToFirstPlace_24 : decode cX2_comeToFirstPlace 24 = .ok (.iadd, 1) := by decide +kernel
theorem dX2_comeToFirstPlace_25 : decode cX2_comeToFirstPlace 25 = .ok (.putfield 31, 3) := by decide +kernel
theorem dX2_comeToFirstPlace_28 : decode cX2_comeToFirstPlace 28 = .ok (.aload_n 0, 1) := by decide +kernel
theorem dX2_comeToFirstPlace_29 : decode cX2_comeToFirstPlace 29 = .ok (.iconst 0, 1) := by decide +kernel
theorem dX2_comeToFirstPlace_30 : decode cX2_comeToFirstPlace 30 = .ok (.iconst 1, 1) := by decide +kernel
theorem dX2_comeToFirstPlace_31 : decode cX2_comeToFirstPlace 31 = .ok (.invokevirtual 79, 3) := by decide +kernel
theorem dX2_comeToFirstPlace_34 : decode cX2_comeToFirstPlace 34 = .ok (.aload_n 0, 1) := by decide +kernel
theorem dX2_comeToFirstPlace_35 : decode cX2_comeToFirstPlace 35 = .ok (.dup, 1) := by decide +kernel
theorem dX2_comeToFirstPlace_36 : decode cX2_comeToFirstPlace 36 = .ok (.getfield 28, 3) := by decide +kernel
theorem dX2_comeToFirstPlace_39 : decode cX2_comeToFirstPlace 39 = .ok (.iconst 1, 1) := by decide +kernel
theorem dX2_comeToFirstPlace_40 : decode cX2_comeToFirstPlace 40 = .ok (.iadd, 1) := by decide +kernel
theorem dX2_comeToFirstPlace_41 : decode cX2_comeToFirstPlace 41 = .ok (.putfield 28, 3) := by decide +kernel
theorem dX2_comeToFirstPlace_44 : decode cX2_comeToFirstPlace 44 = .ok (.iconst 1, 1) := by decide +kernel
theorem dX2_comeToFirstPlace_45 : decode cX2_comeToFirstPlace 45 = .ok (.ireturn, 1) := by decide +kernel
set_option maxRecDepth 20000 in
theorem ggX2_goFromLastPlace_X2_sortAt : GoodIn wsX2_goFromLastPlace wsX2_sortAt := goodIn_r _ [7, 8, 9, 10, 11, 12, 17, 18, 19, 20, 21, 22, 23, 24] (by decide +kernel) (by decide +kernel)
set_option maxRecDepth 20000 in
theorem gX2_goFromLastPlace_X2_sortAt : GoodIn wsX2_goFromLastPlace (wsV RX2 76 RX2 yX2_sortAt wsX2_sortAt) := goodIn_app (goodIn_of _ (by decide +kernel)) ggX2_goFromLastPlace_X2_sortAt
set_option maxRecDepth 20000 in
theorem ggX2_goFromLastPlace_X2_put : GoodIn wsX2_goFromLastPlace wsX2_put := goodIn_r _ [16, 8, 9, 17, 18, 19, 20, 21, 22, 23, 24] (by decide +kernel) (by decide +kernel)
set_option maxRecDepth 20000 in
theorem gX2_goFromLastPlace_X2_put : GoodIn wsX2_goFromLastPlace (wsV RX2 79 RX2 yX2_put wsX2_put) := goodIn_app (goodIn_of _ (by decide +kernel)) ggX2_goFromLastPlace_X2_put
theorem dX2_goFromLastPlace_0 : decode cX2_goFromLastPlace 0 = .ok (.aload_n 0, 1) := by decide +kernel
theorem dX2_goFromLastPlace_1 : decode cX2_goFromLastPlace 1 = .ok (.aload_n 0, 1) := by decide +kernel
theorem dX2_goFromLastPlace_2 : decode cX2_goFromLastPlace 2 = .ok (.getfield 9, 3) := by decide +kernel
theorem dX2_goFromLastPlace_5 : decode cX2_goFromLastPlace 5 = .ok (.iconst 1, 1) := by decide +kernel
theorem dX2_goFromLastPlace_6 : decode cX2_goFromLastPlace 6 = .ok (.isub, 1) := by decide +kernel
theorem dX2_goFromLastPlace_7 : decode cX2_goFromLastPlace 7 = .ok (.invokevirtual 76, 3) := by decide +kernel
theorem dX2_goFromLastPlace_10 : decode cX2_goFromLastPlace 10 = .ok (.iconst 1, 1) := by decide +kernel
theorem dX2_goFromLastPlace_11 : decode cX2_goFromLastPlace 11 = .ok (.if_icmp .eq 5, 3) := by decide +kernel
theorem dX2_goFromLastPlace_14 : decode cX2_goFromLastPlace 14 = .ok (.iconst 0, 1) := by decide +kernel
theorem dX2_goFromLastPlace_15 : decode cX2_goFromLastPlace 15 = .ok (.ireturn, 1) := by decide +kernel
theorem dX2_goFromLastPlace_16 : decode cX2_goFromLastPlace 16 = .ok (.aload_n 0, 1) := by decide +kernel
theorem dX2_goFromLastPlace_17 : decode cX2_goFromLastPlace 17 = .ok (.aload_n 0, 1) := by decide +kernel
theorem dX2_goFromLastPlace_18 : decode cX2_goFromLastPlace 18 = .ok (.getfield 9, 3) := by decide +kernel
theorem dX2_goFromLastPlace_21 : decode cX2_goFromLastPlace 21 = .ok (.iconst 1, 1) := by decide +kernel
theorem dX2_goFromLastPlace_22 : decode cX2_goFromLastPlace 22 = .ok (.isub, 1) := by decide +kernel
theorem dX2_goFromLastPlace_23 : decode cX2_goFromLastPlace 23 = .ok (.iconst 0, 1) := by decide +kernel
theorem dX2_goFromLastPlace_24 : decode cX2_goFromLastPlace 24 = .ok (.invokevirtual 79, 3) := by decide +kernel
theorem dX2_goFromLastPlace_27 : decode cX2_goFromLastPlace 27 = .ok (.aload_n 0, 1) := by decide +kernel
theorem dX2_goFromLastPlace_28 : decode cX2_goFromLastPlace 28 = .ok (.dup, 1) := by decide +kernel
theorem dX2_goFromLastPlace_29 : decode cX2_goFromLastPlace 29 = .ok (.getfield 31, 3) := by decide +kernel
theorem dX2_goFromLastPlace_32 : decode cX2_goFromLastPlace 32 = .ok (.iconst 1, 1) := by decide +kernel
theorem dX2_goFromLastPlace_33 : decode cX2_goFromLastPlace 33 = .ok (.iadd, 1) := by decide +kernel
theorem dX2_goFromLastPlace_34 : decode cX2_goFromLastPlace 34 = .ok (.putfield 31, 3) := by decide +kernel
theorem dX2_goFromLastPlace_37 : decode cX2_goFromLastPlace 37 = .ok (.iconst 1, 1) := by decide +kernel
theorem dX2_goFromLastPlace_38 : decode cX2_goFromLastPlace 38 = .ok (.ireturn, 1) := by decide +kernel
set_option maxRecDepth 20000 in
theorem ggX2_stepAllAtOnce_X2_stepOpenRow : GoodIn wsX2_stepAllAtOnce wsX2_stepOpenRow := goodIn_r _ [7, 8, 9, 1, 10, 11, 12, 13, 14, 6, 15, 16, 2, 17, 18, 19, 20, 21, 22, 23, 24, 25, 26, 27, 32, 33, 34, 35, 36, 37, 38, 39] (by decide +kernel) (by decide +kernel)
set_option maxRecDepth 20000 in
theorem gX2_stepAllAtOnce_X2_stepOpenRow : GoodIn wsX2_stepAllAtOnce (wsV RX2 83 RX2 yX2_stepOpenRow wsX2_stepOpenRow) := goodIn_app (goodIn_of _ (by decide +kernel)) ggX2_stepAllAtOnce_X2_stepOpenRow
set_option maxRecDepth 20000 in
theorem ggX2_stepAllAtOnce_X2_stepRing : GoodIn wsX2_stepAllAtOnce wsX2_stepRing := goodIn_r _ [31, 9, 8, 1, 12, 13, 14, 6, 15, 16, 2, 17, 18, 19, 20, 21, 22, 23, 24, 25, 26, 27, 32, 33, 34, 35, 36, 37, 38, 39] (by decide +kernel) (by decide +kernel)
set_option maxRecDepth 20000 in
theorem gX2_stepAllAtOnce_X2_stepRing : GoodIn wsX2_stepAllAtOnce (wsV RX2 86 RX2 yX2_stepRing wsX2_stepRing) := goodIn_app (goodIn_of _ (by decide +kernel)) ggX2_stepAllAtOnce_X2_stepRing
theorem dX2_stepAllAtOnce_0 : decode cX2_stepAllAtOnce 0 = .ok (.aload_n 0, 1) := by decide +kernel
theorem dX2_stepAllAtOnce_1 : decode cX2_stepAllAtOnce 1 = .ok (.getfield 34, 3) := by decide +kernel
theorem dX2_stepAllAtOnce_4 : decode cX2_stepAllAtOnce 4 = .ok (.istore_n 2, 1) := by decide +kernel
theorem dX2_stepAllAtOnce_5 : decode cX2_stepAllAtOnce 5 = .ok (.iconst 0, 1) := by decide +kernel
theorem dX2_stepAllAtOnce_6 : decode cX2_stepAllAtOnce 6 = .ok (.istore_n 3, 1) := by decide +kernel
theorem dX2_stepAllAtOnce_7 : decode cX2_stepAllAtOnce 7 = .ok (.iload_n 3, 1) := by decide +kernel
theorem dX2_stepAllAtOnce_8 : decode cX2_stepAllAtOnce 8 = .ok (.iload_n 1, 1) := by decide +kernel
theorem dX2_stepAllAtOnce_9 : decode cX2_stepAllAtOnce 9 = .ok (.if_icmp .ge 27, 3) := by decide +kernel
theorem dX2_stepAllAtOnce_12 : decode cX2_stepAllAtOnce 12 = .ok (.aload_n 0, 1) := by decide +kernel
theorem dX2_stepAllAtOnce_13 : decode cX2_stepAllAtOnce 13 = .ok (.getfield 15, 3) := by decide +kernel
theorem dX2_stepAllAtOnce_16 : decode cX2_stepAllAtOnce 16 = .ok (.ifCond .eq 10, 3) := by decide +kernel
theorem dX2_stepAllAtOnce_19 : decode cX2_stepAllAtOnce 19 = .ok (.aload_n 0, 1) := by decide +kernel
theorem dX2_stepAllAtOnce_20 : decode cX2_stepAllAtOnce 20 = .ok (.invokevirtual 83, 3) := by decide +kernel
theorem dX2_stepAllAtOnce_23 : decode cX2_stepAllAtOnce 23 = .ok (.goto 7, 3) := by decide +kernel
theorem dX2_stepAllAtOnce_26 : decode cX2_stepAllAtOnce 26 = .ok (.aload_n 0, 1) := by decide +kernel
theorem dX2_stepAllAtOnce_27 : decode cX2_stepAllAtOnce 27 = .ok (.invokevirtual 86, 3) := by decide +kernel
theorem dX2_stepAllAtOnce_30 : decode cX2_stepAllAtOnce 30 = .ok (.iinc 3 1, 3) := by decide +kernel
theorem dX2_stepAllAtOnce_33 : decode cX2_stepAllAtOnce 33 = .ok (.goto (-26), 3) := by decide +kernel
theorem dX2_stepAllAtOnce_36 : decode cX2_stepAllAtOnce 36 = .ok (.aload_n 0, 1) := by decide +kernel
theorem dX2_stepAllAtOnce_37 : decode cX2_stepAllAtOnce 37 = .ok (.getfield 34, 3) := by decide +kernel
theorem dX2_stepAllAtOnce_40 : decode cX2_stepAllAtOnce 40 = .ok (.iload_n 2, 1) := by decide +kernel
theorem dX2_stepAllAtOnce_41 : decode cX2_stepAllAtOnce 41 = .ok (.isub, 1) := by decide +kernel
theorem dX2_stepAllAtOnce_42 : decode cX2_stepAllAtOnce 42 = .ok (.ireturn, 1) := by decide +kernel
set_option maxRecDepth 20000 in
theorem ggX2_stepOpenRow_X2_firstsWithFreeBehind : GoodIn wsX2_stepOpenRow wsX2_firstsWithFreeBehind := goodIn_r _ [10, 1, 11, 12, 2, 13, 14, 15, 9, 16, 24, 25, 26, 27, 28, 29, 30, 31] (by decide +kernel) (by decide +kernel)
set_option maxRecDepth 20000 in
theorem gX2_stepOpenRow_X2_firstsWithFreeBehind : GoodIn wsX2_stepOpenRow (wsV RX2 54 RX2 yX2_firstsWithFreeBehind wsX2_firstsWithFreeBehind) := goodIn_app (goodIn_of _ (by decide +kernel)) ggX2_stepOpenRow_X2_firstsWithFreeBehind
set_option maxRecDepth 20000 in
theorem ggX2_stepOpenRow_J6_bitCount_0f7a4 : GoodIn wsX2_stepOpenRow wsJ6_bitCount_0f7a4 := goodIn_r _ [20, 21, 22, 23] (by decide +kernel) (by decide +kernel)
set_option maxRecDepth 20000 in
theorem gX2_stepOpenRow_J6_bitCount_0f7a4 : GoodIn wsX2_stepOpenRow (va_wsS RX2 45 yJ6_bitCount_0f7a4 wsJ6_bitCount_0f7a4) := goodIn_app (goodIn_of _ (by decide +kernel)) ggX2_stepOpenRow_J6_bitCount_0f7a4
theorem dX2_stepOpenRow_0 : decode cX2_stepOpenRow 0 = .ok (.aload_n 0, 1) := by decide +kernel
theorem dX2_stepOpenRow_1 : decode cX2_stepOpenRow 1 = .ok (.invokevirtual 54, 3) := by decide +kernel
theorem dX2_stepOpenRow_4 : decode cX2_stepOpenRow 4 = .ok (.istore_n 1, 1) := by decide +kernel
theorem dX2_stepOpenRow_5 : decode cX2_stepOpenRow 5 = .ok (.aload_n 0, 1) := by decide +kernel
theorem dX2_stepOpenRow_6 : decode cX2_stepOpenRow 6 = .ok (.getfield 19, 3) := by decide +kernel
theorem dX2_stepOpenRow_9 : decode cX2_stepOpenRow 9 = .ok (.iconst (-1), 1) := by decide +kernel
theorem dX2_stepOpenRow_10 : decode cX2_stepOpenRow 10 = .ok (.ixor, 1) := by decide +kernel
theorem dX2_stepOpenRow_11 : decode cX2_stepOpenRow 11 = .ok (.iconst 1, 1) := by decide +kernel
theorem dX2_stepOpenRow_12 : decode cX2_stepOpenRow 12 = .ok (.iand, 1) := by decide +kernel
theorem dX2_stepOpenRow_13 : decode cX2_stepOpenRow 13 = .ok (.istore_n 2, 1) := by decide +kernel
theorem dX2_stepOpenRow_14 : decode cX2_stepOpenRow 14 = .ok (.aload_n 0, 1) := by decide +kernel
theorem dX2_stepOpenRow_15 : decode cX2_stepOpenRow 15 = .ok (.getfield 19, 3) := by decide +kernel
theorem dX2_stepOpenRow_18 : decode cX2_stepOpenRow 18 = .ok (.iconst 1, 1) := by decide +kernel
theorem dX2_stepOpenRow_19 : decode cX2_stepOpenRow 19 = .ok (.aload_n 0, 1) := by decide +kernel
theorem dX2_stepOpenRow_20 : decode cX2_stepOpenRow 20 = .ok (.getfield 9, 3) := by decide +kernel
theorem dX2_stepOpenRow_23 : decode cX2_stepOpenRow 23 = .ok (.iconst 1, 1) := by decide +kernel
theorem dX2_stepOpenRow_24 : decode cX2_stepOpenRow 24 = .ok (.isub, 1) := by decide +kernel
theorem dX2_stepOpenRow_25 : decode cX2_stepOpenRow 25 = .ok (.ishl, 1) := by decide +kernel
theorem dX2_stepOpenRow_26 : decode cX2_stepOpenRow 26 = .ok (.iand, 1) := by decide +kernel
theorem dX2_stepOpenRow_27 : decode cX2_stepOpenRow 27 = .ok (.istore_n 3, 1) := by decide +kernel
theorem dX2_stepOpenRow_28 : decode cX2_stepOpenRow 28 = .ok (.aload_n 0, 1) := by decide +kernel
theorem dX2_stepOpenRow_29 : decode cX2_stepOpenRow 29 = .ok (.aload_n 0, 1) := by decide +kernel
theorem dX2_stepOpenRow_30 : decode cX2_stepOpenRow 30 = .ok (.getfield 19, 3) := by decide +kernel
theorem dX2_stepOpenRow_33 : decode cX2_stepOpenRow 33 = .ok (.iload_n 1, 1) := by decide +kernel
theorem dX2_stepOpenRow_34 : decode cX2_stepOpenRow 34 = .ok (.iconst (-1), 1) := by decide +kernel
theorem dX2_stepOpenRow_35 : decode cX2_stepOpenRow 35 = .ok (.ixor, 1) := by decide +kernel
theorem dX2_stepOpenRow_36 : decode cX2_stepOpenRow 36 = .ok (.iand, 1) := by decide +kernel
theorem dX2_stepOpenRow_37 : decode cX2_stepOpenRow 37 = .ok (.iload_n 3, 1) := by decide +kernel
theorem dX2_stepOpenRow_38 : decode cX2_stepOpenRow 38 = .ok (.iconst (-1), 1) := by decide +kernel
theorem dX2_stepOpenRow_39 : decode cX2_stepOpenRow 39 = .ok (.ixor, 1) := by decide +kernel
theorem dX2_stepOpenRow_40 : decode cX2_stepOpenRow 40 = .ok (.iand, 1) := by decide +kernel
theorem dX2_stepOpenRow_41 : decode cX2_stepOpenRow 41 = .ok (.iload_n 1, 1) := by decide +kernel
theorem dX2_stepOpenRow_42 : decode cX2_stepOpenRow 42 = .ok (.iconst 1, 1) := by decide +kernel
theorem dX2_stepOpenRow_43 : decode cX2_stepOpenRow 43 = .ok (.ishl, 1) := by decide +kernel
theorem dX2_stepOpenRow_44 : decode cX2_stepOpenRow 44 = .ok (.ior, 1) := by decide +kernel
theorem dX2_stepOpenRow_45 : decode cX2_stepOpenRow 45 = .ok (.iload_n 2, 1) := by decide +kernel
theorem dX2_stepOpenRow_46 : decode cX2_stepOpenRow 46 = .ok (.ior, 1) := by decide +kernel
theorem dX2_stepOpenRow_47 : decode cX2_stepOpenRow 47 = .ok (.putfield 19, 3) := by decide +kernel
theorem dX2_stepOpenRow_50 : decode cX2_stepOpenRow 50 = .ok (.aload_n 0, 1) := by decide +kernel
theorem dX2_stepOpenRow_51 : decode cX2_stepOpenRow 51 = .ok (.dup, 1) := by decide +kernel
theorem dX2_stepOpenRow_52 : decode cX2_stepOpenRow 52 = .ok (.getfield 34, 3) := by decide +kernel
theorem dX2_stepOpenRow_55 : decode cX2_stepOpenRow 55 = .ok (.iload_n 1, 1) := by decide +kernel
theorem dX2_stepOpenRow_56 : decode cX2_stepOpenRow 56 = .ok (.invokestatic 45, 3) := by decide +kernel
theorem dX2_stepOpenRow_59 : decode cX2_stepOpenRow 59 = .ok (.iadd, 1) := by decide +kernel
theorem dX2_stepOpenRow_60 : decode cX2_stepOpenRow 60 = .ok (.putfield 34, 3) := by decide +kernel
theorem dX2_stepOpenRow_63 : decode cX2_stepOpenRow 63 = .ok (.aload_n 0, 1) := by decide +kernel
theorem dX2_stepOpenRow_64 : decode cX2_stepOpenRow 64 = .ok (.dup, 1) := by decide +kernel
theorem dX2_stepOpenRow_65 : decode cX2_stepOpenRow 65 = .ok (.getfield 28, 3) := by decide +kernel
theorem dX2_stepOpenRow_68 : decode cX2_stepOpenRow 68 = .ok (.iload_n 2, 1) := by decide +kernel
theorem dX2_stepOpenRow_69 : decode cX2_stepOpenRow 69 = .ok (.iadd, 1) := by decide +kernel
theorem dX2_stepOpenRow_70 : decode cX2_stepOpenRow 70 = .ok (.putfield 28, 3) := by decide +kernel
theorem dX2_stepOpenRow_73 : decode cX2_stepOpenRow 73 = .ok (.aload_n 0, 1) := by decide +kernel
theorem dX2_stepOpenRow_74 : decode cX2_stepOpenRow 74 = .ok (.dup, 1) := by decide +kernel
theorem dX2_stepOpenRow_75 : decode cX2_stepOpenRow 75 = .ok (.getfield 31, 3) := by decide +kernel
theorem dX2_stepOpenRow_78 : decode cX2_stepOpenRow 78 = .ok (.iload_n 3, 1) := by decide +kernel
theorem dX2_stepOpenRow_79 : decode cX2_stepOpenRow 79 = .ok (.invokestatic 45, 3) := by decide +kernel
theorem dX2_stepOpenRow_82 : decode cX2_stepOpenRow 82 = .ok (.iadd, 1) := by decide +kernel
theorem dX2_stepOpenRow_83 : decode cX2_stepOpenRow 83 = .ok (.putfield 31, 3) := by decide +kernel
theorem dX2_stepOpenRow_86 : decode cX2_stepOpenRow 86 = .ok (.return_, 1) := by decide +kernel
set_option maxRecDepth 20000 in
theorem ggX2_stepRing_X2_firstsWithFreeBehind : GoodIn wsX2_stepRing wsX2_firstsWithFreeBehind := goodIn_r _ [8, 2, 9, 10, 1, 11, 12, 13, 7, 14, 22, 23, 24, 25, 26, 27, 28, 29] (by decide +kernel) (by decide +kernel)
set_option maxRecDepth 20000 in
theorem gX2_stepRing_X2_firstsWithFreeBehind : GoodIn wsX2_stepRing (wsV RX2 54 RX2 yX2_firstsWithFreeBehind wsX2_firstsWithFreeBehind) := goodIn_app (goodIn_of _ (by decide +kernel)) ggX2_stepRing_X2_firstsWithFreeBehind
set_option maxRecDepth 20000 in
theorem ggX2_stepRing_X2_allPlaces : GoodIn wsX2_stepRing wsX2_allPlaces := goodIn_r _ [14, 1, 22, 23, 24, 25, 26, 27, 28, 29] (by decide +kernel) (by decide +kernel)
set_option maxRecDepth 20000 in
theorem gX2_stepRing_X2_allPlaces : GoodIn wsX2_stepRing (wsV RX2 89 RX2 yX2_allPlaces wsX2_allPlaces) := goodIn_app (goodIn_of _ (by decide +kernel)) ggX2_stepRing_X2_allPlaces
set_option maxRecDepth 20000 in
theorem ggX2_stepRing_J6_bitCount_0f7a4 : GoodIn wsX2_stepRing wsJ6_bitCount_0f7a4 := goodIn_r _ [18, 19, 20, 21] (by decide +kernel) (by decide +kernel)
set_option maxRecDepth 20000 in
theorem gX2_stepRing_J6_bitCount_0f7a4 : GoodIn wsX2_stepRing (va_wsS RX2 45 yJ6_bitCount_0f7a4 wsJ6_bitCount_0f7a4) := goodIn_app (goodIn_of _ (by decide +kernel)) ggX2_stepRing_J6_bitCount_0f7a4
theorem dX2_stepRing_0 : decode cX2_stepRing 0 = .ok (.aload_n 0, 1) := by decide +kernel
theorem dX2_stepRing_1 : decode cX2_stepRing 1 = .ok (.invokevirtual 54, 3) := by decide +kernel
theorem dX2_stepRing_4 : decode cX2_stepRing 4 = .ok (.istore_n 1, 1) := by decide +kernel
theorem dX2_stepRing_5 : decode cX2_stepRing 5 = .ok (.iload_n 1, 1) := by decide +kernel
theorem dX2_stepRing_6 : decode cX2_stepRing 6 = .ok (.aload_n 0, 1) := by decide +kernel
theorem dX2_stepRing_7 : decode cX2_stepRing 7 = .ok (.getfield 9, 3) := by decide +kernel
theorem dX2_stepRing_10 : decode cX2_stepRing 10 = .ok (.iconst 1, 1) := by decide +kernel
theorem dX2_stepRing_11 : decode cX2_stepRing 11 = .ok (.isub, 1) := by decide +kernel
theorem dX2_stepRing_12 : decode cX2_stepRing 12 = .ok (.ishr, 1) := by decide +kernel
theorem dX2_stepRing_13 : decode cX2_stepRing 13 = .ok (.istore_n 2, 1) := by decide +kernel
theorem dX2_stepRing_14 : decode cX2_stepRing 14 = .ok (.iload_n 1, 1) := by decide +kernel
theorem dX2_stepRing_15 : decode cX2_stepRing 15 = .ok (.iconst 1, 1) := by decide +kernel
theorem dX2_stepRing_16 : decode cX2_stepRing 16 = .ok (.ishl, 1) := by decide +kernel
theorem dX2_stepRing_17 : decode cX2_stepRing 17 = .ok (.aload_n 0, 1) := by decide +kernel
theorem dX2_stepRing_18 : decode cX2_stepRing 18 = .ok (.invokevirtual 89, 3) := by decide +kernel
theorem dX2_stepRing_21 : decode cX2_stepRing 21 = .ok (.iand, 1) := by decide +kernel
theorem dX2_stepRing_22 : decode cX2_stepRing 22 = .ok (.istore_n 3, 1) := by decide +kernel
theorem dX2_stepRing_23 : decode cX2_stepRing 23 = .ok (.aload_n 0, 1) := by decide +kernel
theorem dX2_stepRing_24 : decode cX2_stepRing 24 = .ok (.aload_n 0, 1) := by decide +kernel
theorem dX2_stepRing_25 : decode cX2_stepRing 25 = .ok (.getfield 19, 3) := by decide +kernel
theorem dX2_stepRing_28 : decode cX2_stepRing 28 = .ok (.iload_n 1, 1) := by decide +kernel
theorem dX2_stepRing_29 : decode cX2_stepRing 29 = .ok (.iconst (-1), 1) := by decide +kernel
theorem dX2_stepRing_30 : decode cX2_stepRing 30 = .ok (.ixor, 1) := by decide +kernel
theorem dX2_stepRing_31 : decode cX2_stepRing 31 = .ok (.iand, 1) := by decide +kernel
theorem dX2_stepRing_32 : decode cX2_stepRing 32 = .ok (.iload_n 3, 1) := by decide +kernel
theorem dX2_stepRing_33 : decode cX2_stepRing 33 = .ok (.ior, 1) := by decide +kernel
theorem dX2_stepRing_34 : decode cX2_stepRing 34 = .ok (.iload_n 2, 1) := by decide +kernel
theorem dX2_stepRing_35 : decode cX2_stepRing 35 = .ok (.ior, 1) := by decide +kernel
theorem dX2_stepRing_36 : decode cX2_stepRing 36 = .ok (.putfield 19, 3) := by decide +kernel
theorem dX2_stepRing_39 : decode cX2_stepRing 39 = .ok (.aload_n 0, 1) := by decide +kernel
theorem dX2_stepRing_40 : decode cX2_stepRing 40 = .ok (.dup, 1) := by decide +kernel
theorem dX2_stepRing_41 : decode cX2_stepRing 41 = .ok (.getfield 34, 3) := by decide +kernel
theorem dX2_stepRing_44 : decode cX2_stepRing 44 = .ok (.iload_n 1, 1) := by decide +kernel
theorem dX2_stepRing_45 : decode cX2_stepRing 45 = .ok (.invokestatic 45, 3) := by decide +kernel
theorem dX2_stepRing_48 : decode cX2_stepRing 48 = .ok (.iadd, 1) := by decide +kernel
theorem dX2_stepRing_49 : decode cX2_stepRing 49 = .ok (.putfield 34, 3) := by decide +kernel
theorem dX2_stepRing_52 : decode cX2_stepRing 52 = .ok (.return_, 1) := by decide +kernel
set_option maxRecDepth 20000 in
theorem ggX2_firstsWithFreeBehind_X2_allPlaces : GoodIn wsX2_firstsWithFreeBehind wsX2_allPlaces := goodIn_r _ [9, 4, 10, 11, 12, 13, 14, 15, 16, 17] (by decide +kernel) (by decide +kernel)
set_option maxRecDepth 20000 in
theorem gX2_firstsWithFreeBehind_X2_allPlaces : GoodIn wsX2_firstsWithFreeBehind (wsV RX2 89 RX2 yX2_allPlaces wsX2_allPlaces) := goodIn_app (goodIn_of _ (by decide +kernel)) ggX2_firstsWithFreeBehind_X2_allPlaces
theorem dX2_firstsWithFreeBehind_0 : decode cX2_firstsWithFreeBehind 0 = .ok (.aload_n 0, 1) := by decide +kernel
theorem dX2_firstsWithFreeBehind_1 : decode cX2_firstsWithFreeBehind 1 = .ok (.invokevirtual 89, 3) := by decide +kernel
theorem dX2_firstsWithFreeBehind_4 : decode cX2_firstsWithFreeBehind 4 = .ok (.aload_n 0, 1) := by decide +kernel
theorem dX2_firstsWithFreeBehind_5 : decode cX2_firstsWithFreeBehind 5 = .ok (.getfield 19, 3) := by decide +kernel
theorem dX2_firstsWithFreeBehind_8 : decode cX2_firstsWithFreeBehind 8 = .ok (.iconst (-1), 1) := by decide +kernel
theorem dX2_firstsWithFreeBehind_9 : decode cX2_firstsWithFreeBehind 9 = .ok (.ixor, 1) := by decide +kernel
theorem dX2_firstsWithFreeBehind_10 : decode cX2_firstsWithFreeBehind 10 = .ok (.iand, 1) := by decide +kernel
theorem dX2_firstsWithFreeBehind_11 : decode cX2_firstsWithFreeBehind 11 = .ok (.aload_n 0, 1) := by decide +kernel
theorem dX2_firstsWithFreeBehind_12 : decode cX2_firstsWithFreeBehind 12 = .ok (.getfield 22, 3) := by decide +kernel
theorem dX2_firstsWithFreeBehind_15 : decode cX2_firstsWithFreeBehind 15 = .ok (.iconst (-1), 1) := by decide +kernel
theorem dX2_firstsWithFreeBehind_16 : decode cX2_firstsWithFreeBehind 16 = .ok (.ixor, 1) := by decide +kernel
theorem dX2_firstsWithFreeBehind_17 : decode cX2_firstsWithFreeBehind 17 = .ok (.iand, 1) := by decide +kernel
theorem dX2_firstsWithFreeBehind_18 : decode cX2_firstsWithFreeBehind 18 = .ok (.istore_n 1, 1) := by decide +kernel
theorem dX2_firstsWithFreeBehind_19 : decode cX2_firstsWithFreeBehind 19 = .ok (.aload_n 0, 1) := by decide +kernel
theorem dX2_firstsWithFreeBehind_20 : decode cX2_firstsWithFreeBehind 20 = .ok (.getfield 15, 3) := by decide +kernel
theorem dX2_firstsWithFreeBehind_23 : decode cX2_firstsWithFreeBehind 23 = .ok (.ifCond .eq 7, 3) := by decide +kernel
theorem dX2_firstsWithFreeBehind_26 : decode cX2_firstsWithFreeBehind 26 = .ok (.iconst 0, 1) := by decide +kernel
theorem dX2_firstsWithFreeBehind_27 : decode cX2_firstsWithFreeBehind 27 = .ok (.goto 13, 3) := by decide +kernel
theorem dX2_firstsWithFreeBehind_30 : decode cX2_firstsWithFreeBehind 30 = .ok (.iload_n 1, 1) := by decide +kernel
theorem dX2_firstsWithFreeBehind_31 : decode cX2_firstsWithFreeBehind 31 = .ok (.iconst 1, 1) := by decide +kernel
theorem dX2_firstsWithFreeBehind_32 : decode cX2_firstsWithFreeBehind 32 = .ok (.iand, 1) := by decide +kernel
theorem dX2_firstsWithFreeBehind_33 : decode cX2_firstsWithFreeBehind 33 = .ok (.aload_n 0, 1) := by decide +kernel
theorem dX2_firstsWithFreeBehind_34 : decode cX2_firstsWithFreeBehind 34 = .ok (.getfield 9, 3) := by decide +kernel
theorem dX2_firstsWithFreeBehind_37 : decode cX2_firstsWithFreeBehind 37 = .ok (.iconst 1, 1) := by decide +kernel
theorem dX2_firstsWithFreeBehind_38 : decode cX2_firstsWithFreeBehind 38 = .ok (.isub, 1) := by decide +kernel
theorem dX2_firstsWithFreeBehind_39 : decode cX2_firstsWithFreeBehind 39 = .ok (.ishl, 1) := by decide +kernel
theorem dX2_firstsWithFreeBehind_40 : decode cX2_firstsWithFreeBehind 40 = .ok (.istore_n 2, 1) := by decide +kernel
theorem dX2_firstsWithFreeBehind_41 : decode cX2_firstsWithFreeBehind 41 = .ok (.aload_n 0, 1) := by decide +kernel
theorem dX2_firstsWithFreeBehind_42 : decode cX2_firstsWithFreeBehind 42 = .ok (.getfield 19, 3) := by decide +kernel
theorem dX2_firstsWithFreeBehind_45 : decode cX2_firstsWithFreeBehind 45 = .ok (.iload_n 1, 1) := by decide +kernel
theorem dX2_firstsWithFreeBehind_46 : decode cX2_firstsWithFreeBehind 46 = .ok (.iconst 1, 1) := by decide +kernel
theorem dX2_firstsWithFreeBehind_47 : decode cX2_firstsWithFreeBehind 47 = .ok (.ishr, 1) := by decide +kernel
theorem dX2_firstsWithFreeBehind_48 : decode cX2_firstsWithFreeBehind 48 = .ok (.iload_n 2, 1) := by decide +kernel
theorem dX2_firstsWithFreeBehind_49 : decode cX2_firstsWithFreeBehind 49 = .ok (.ior, 1) := by decide +kernel
theorem dX2_firstsWithFreeBehind_50 : decode cX2_firstsWithFreeBehind 50 = .ok (.iand, 1) := by decide +kernel
theorem dX2_firstsWithFreeBehind_51 : decode cX2_firstsWithFreeBehind 51 = .ok (.ireturn, 1) := by decide +kernel
theorem dX2_allPlaces_0 : decode cX2_allPlaces 0 = .ok (.iconst 1, 1) := by decide +kernel
theorem dX2_allPlaces_1 : decode cX2_allPlaces 1 = .ok (.aload_n 0, 1) := by decide +kernel
theorem dX2_allPlaces_2 : decode cX2_allPlaces 2 = .ok (.getfield 9, 3) := by decide +kernel
theorem dX2_allPlaces_5 : decode cX2_allPlaces 5 = .ok (.ishl, 1) := by decide +kernel
theorem dX2_allPlaces_6 : decode cX2_allPlaces 6 = .ok (.iconst 1, 1) := by decide +kernel
theorem dX2_allPlaces_7 : decode cX2_allPlaces 7 = .ok (.isub, 1) := by decide +kernel
theorem dX2_allPlaces_8 : decode cX2_allPlaces 8 = .ok (.ireturn, 1) := by decide +kernel
set_option maxRecDepth 20000 in
theorem ggX3_init_X0_init : GoodIn wsX3_init wsX0_init := goodIn_r _ [14, 15, 2, 3, 16, 17, 18, 19, 20, 21, 6, 22, 23, 24, 25, 26, 27, 28, 29, 30, 31, 32, 33, 34, 35, 36, 37, 38, 39, 40, 41, 42, 43, 47, 48, 49, 50, 51] (by decide +kernel) (by decide +kernel)
set_option maxRecDepth 20000 in
theorem gX3_init_X0_init : GoodIn wsX3_init (wsX0_init) := ggX3_init_X0_init
set_option maxRecDepth 20000 in
theorem ggX3_init_X2_init : GoodIn wsX3_init wsX2_init := goodIn_r _ [45, 46, 2, 3] (by decide +kernel) (by decide +kernel)
set_option maxRecDepth 20000 in
theorem gX3_init_X2_init_n18 : GoodIn wsX3_init (wsX2_init) := ggX3_init_X2_init
theorem dX3_init_0 : decode cX3_init 0 = .ok (.aload_n 0, 1) := by decide +kernel
theorem dX3_init_1 : decode cX3_init 1 = .ok (.invokespecial 1, 3) := by decide +kernel
theorem dX3_init_4 : decode cX3_init 4 = .ok (.aload_n 0, 1) := by decide +kernel
theorem dX3_init_5 : decode cX3_init 5 = .ok (.new 7, 3) := by decide +kernel
theorem dX3_init_8 : decode cX3_init 8 = .ok (.dup, 1) := by decide +kernel
theorem dX3_init_9 : decode cX3_init 9 = .ok (.invokespecial 9, 3) := by decide +kernel
theorem dX3_init_12 : decode cX3_init 12 = .ok (.putfield 10, 3) := by decide +kernel
theorem dX3_init_15 : decode cX3_init 15 = .ok (.aload_n 0, 1) := by decide +kernel
theorem dX3_init_16 : decode cX3_init 16 = .ok (.new 16, 3) := by decide +kernel
theorem dX3_init_19 : decode cX3_init 19 = .ok (.dup, 1) := by decide +kernel
theorem dX3_init_20 : decode cX3_init 20 = .ok (.invokespecial 18, 3) := by decide +kernel
theorem dX3_init_23 : decode cX3_init 23 = .ok (.putfield 19, 3) := by decide +kernel
theorem dX3_init_26 : decode cX3_init 26 = .ok (.return_, 1) := by decide +kernel
set_option maxRecDepth 20000 in
theorem ggX3_row_X3_isWithin : GoodIn wsX3_row wsX3_isWithin := goodIn_r _ [5] (by decide +kernel) (by decide +kernel)
set_option maxRecDepth 20000 in
theorem gX3_row_X3_isWithin : GoodIn wsX3_row (va_wsS RX3 23 yX3_isWithin wsX3_isWithin) := goodIn_app (goodIn_of _ (by decide +kernel)) ggX3_row_X3_isWithin
set_option maxRecDepth 20000 in
theorem ggX3_row_X0_become : GoodIn wsX3_row wsX0_become := goodIn_r _ [10, 11, 12, 13, 14, 15, 16, 9, 17, 18, 19, 20, 21, 22, 23, 24, 4, 25, 26, 27, 28, 29, 30, 31, 32, 39, 40, 41, 42, 43] (by decide +kernel) (by decide +kernel)
set_option maxRecDepth 20000 in
theorem gX3_row_X0_become : GoodIn wsX3_row (wsV RX3 27 RX0 yX0_become wsX0_become) := goodIn_app (goodIn_of _ (by decide +kernel)) ggX3_row_X0_become
set_option maxRecDepth 20000 in
theorem ggX3_row_X0_countStates : GoodIn wsX3_row wsX0_countStates := goodIn_r _ [36, 11, 39, 40, 41, 42, 43] (by decide +kernel) (by decide +kernel)
set_option maxRecDepth 20000 in
theorem gX3_row_X0_countStates : GoodIn wsX3_row (wsV RX3 31 RX0 yX0_countStates wsX0_countStates) := goodIn_app (goodIn_of _ (by decide +kernel)) ggX3_row_X0_countStates
theorem dX3_row_0 : decode cX3_row 0 = .ok (.iload_n 1, 1) := by decide +kernel
theorem dX3_row_1 : decode cX3_row 1 = .ok (.iconst 1, 1) := by decide +kernel
theorem dX3_row_2 : decode cX3_row 2 = .ok (.bipush 8, 2) := by decide +kernel
theorem dX3_row_4 : decode cX3_row 4 = .ok (.invokestatic 23, 3) := by decide +kernel
theorem dX3_row_7 : decode cX3_row 7 = .ok (.ifCond .ne 5, 3) := by decide +kernel
theorem dX3_row_10 : decode cX3_row 10 = .ok (.iconst (-1), 1) := by decide +kernel
theorem dX3_row_11 : decode cX3_row 11 = .ok (.ireturn, 1) := by decide +kernel
theorem dX3_row_12 : decode cX3_row 12 = .ok (.iload_n 2, 1) := by decide +kernel
theorem dX3_row_13 : decode cX3_row 13 = .ok (.iconst 1, 1) := by decide +kernel
theorem dX3_row_14 : decode cX3_row 14 = .ok (.bipush 9, 2) := by decide +kernel
theorem dX3_row_16 : decode cX3_row 16 = .ok (.invokestatic 23, 3) := by decide +kernel
theorem dX3_row_19 : decode cX3_row 19 = .ok (.ifCond .eq 13, 3) := by decide +kernel
theorem dX3_row_22 : decode cX3_row 22 = .ok (.iload_n 3, 1) := by decide +kernel
theorem dX3_row_23 : decode cX3_row 23 = .ok (.iconst 1, 1) := by decide +kernel
theorem dX3_row_24 : decode cX3_row 24 = .ok (.bipush 9, 2) := by decide +kernel
theorem dX3_row_26 : decode cX3_row 26 = .ok (.invokestatic 23, 3) := by decide +kernel
theorem dX3_row_29 : decode cX3_row 29 = .ok (.ifCond .ne 5, 3) := by decide +kernel
theorem dX3_row_32 : decode cX3_row 32 = .ok (.iconst (-1), 1) := by decide +kernel
theorem dX3_row_33 : decode cX3_row 33 = .ok (.ireturn, 1) := by decide +kernel
theorem dX3_row_34 : decode cX3_row 34 = .ok (.aload_n 0, 1) := by decide +kernel
theorem dX3_row_35 : decode cX3_row 35 = .ok (.getfield 10, 3) := by decide +kernel
theorem dX3_row_38 : decode cX3_row 38 = .ok (.iload_n 1, 1) := by decide +kernel
theorem dX3_row_39 : decode cX3_row 39 = .ok (.iload_n 2, 1) := by decide +kernel
theorem dX3_row_40 : decode cX3_row 40 = .ok (.iload_n 3, 1) := by decide +kernel
theorem dX3_row_41 : decode cX3_row 41 = .ok (.invokevirtual 27, 3) := by decide +kernel
theorem dX3_row_44 : decode cX3_row 44 = .ok (.aload_n 0, 1) := by decide +kernel
theorem dX3_row_45 : decode cX3_row 45 = .ok (.getfield 10, 3) := by decide +kernel
theorem dX3_row_48 : decode cX3_row 48 = .ok (.invokevirtual 31, 3) := by decide +kernel
theorem dX3_row_51 : decode cX3_row 51 = .ok (.ireturn, 1) := by decide +kernel
set_option maxRecDepth 20000 in
theorem ggX3_weight_X0_hasState : GoodIn wsX3_weight wsX0_hasState := goodIn_r _ [7, 8, 9, 10, 6, 11, 12, 24, 25, 26, 27, 28] (by decide +kernel) (by decide +kernel)
set_option maxRecDepth 20000 in
theorem gX3_weight_X0_hasState : GoodIn wsX3_weight (wsV RX3 35 RX0 yX0_hasState wsX0_hasState) := goodIn_app (goodIn_of _ (by decide +kernel)) ggX3_weight_X0_hasState
set_option maxRecDepth 20000 in
theorem ggX3_weight_X0_weightOf : GoodIn wsX3_weight wsX0_weightOf := goodIn_r _ [16, 12, 17, 18, 19, 6, 20, 21, 24, 25, 26, 27, 28] (by decide +kernel) (by decide +kernel)
set_option maxRecDepth 20000 in
theorem gX3_weight_X0_weightOf : GoodIn wsX3_weight (wsV RX3 39 RX0 yX0_weightOf wsX0_weightOf) := goodIn_app (goodIn_of _ (by decide +kernel)) ggX3_weight_X0_weightOf
theorem dX3_weight_0 : decode cX3_weight 0 = .ok (.aload_n 0, 1) := by decide +kernel
theorem dX3_weight_1 : decode cX3_weight 1 = .ok (.getfield 10, 3) := by decide +kernel
theorem dX3_weight_4 : decode cX3_weight 4 = .ok (.iload_n 1, 1) := by decide +kernel
theorem dX3_weight_5 : decode cX3_weight 5 = .ok (.invokevirtual 35, 3) := by decide +kernel
theorem dX3_weight_8 : decode cX3_weight 8 = .ok (.ifCond .eq 14, 3) := by decide +kernel
theorem dX3_weight_11 : decode cX3_weight 11 = .ok (.aload_n 0, 1) := by decide +kernel
theorem dX3_weight_12 : decode cX3_weight 12 = .ok (.getfield 10, 3) := by decide +kernel
theorem dX3_weight_15 : decode cX3_weight 15 = .ok (.iload_n 1, 1) := by decide +kernel
theorem dX3_weight_16 : decode cX3_weight 16 = .ok (.invokevirtual 39, 3) := by decide +kernel
theorem dX3_weight_19 : decode cX3_weight 19 = .ok (.goto 6, 3) := by decide +kernel
theorem dX3_weight_22 : decode cX3_weight 22 = .ok (.ldc2_w 43, 3) := by decide +kernel
theorem dX3_weight_25 : decode cX3_weight 25 = .ok (.lreturn, 1) := by decide +kernel
set_option maxRecDepth 20000 in
theorem ggX3_sum_X3_isWithin : GoodIn wsX3_sum wsX3_isWithin := goodIn_r _ [6] (by decide +kernel) (by decide +kernel)
set_option maxRecDepth 20000 in
theorem gX3_sum_X3_isWithin : GoodIn wsX3_sum (va_wsS RX3 23 yX3_isWithin wsX3_isWithin) := goodIn_app (goodIn_of _ (by decide +kernel)) ggX3_sum_X3_isWithin
set_option maxRecDepth 20000 in
theorem ggX3_sum_X0_sumOf : GoodIn wsX3_sum wsX0_sumOf := goodIn_r _ [11, 12, 15, 16, 17, 18, 19] (by decide +kernel) (by decide +kernel)
set_option maxRecDepth 20000 in
theorem gX3_sum_X0_sumOf : GoodIn wsX3_sum (wsV RX3 45 RX0 yX0_sumOf wsX0_sumOf) := goodIn_app (goodIn_of _ (by decide +kernel)) ggX3_sum_X0_sumOf
theorem dX3_sum_0 : decode cX3_sum 0 = .ok (.iload_n 1, 1) := by decide +kernel
theorem dX3_sum_1 : decode cX3_sum 1 = .ok (.iconst 0, 1) := by decide +kernel
theorem dX3_sum_2 : decode cX3_sum 2 = .ok (.bipush 8, 2) := by decide +kernel
theorem dX3_sum_4 : decode cX3_sum 4 = .ok (.invokestatic 23, 3) := by decide +kernel
theorem dX3_sum_7 : decode cX3_sum 7 = .ok (.ifCond .eq 14, 3) := by decide +kernel
theorem dX3_sum_10 : decode cX3_sum 10 = .ok (.aload_n 0, 1) := by decide +kernel
theorem dX3_sum_11 : decode cX3_sum 11 = .ok (.getfield 10, 3) := by decide +kernel
theorem dX3_sum_14 : decode cX3_sum 14 = .ok (.iload_n 1, 1) := by decide +kernel
theorem dX3_sum_15 : decode cX3_sum 15 = .ok (.invokevirtual 45, 3) := by decide +kernel
theorem dX3_sum_18 : decode cX3_sum 18 = .ok (.goto 6, 3) := by decide +kernel
theorem dX3_sum_21 : decode cX3_sum 21 = .ok (.ldc2_w 43, 3) := by decide +kernel
theorem dX3_sum_24 : decode cX3_sum 24 = .ok (.lreturn, 1) := by decide +kernel
set_option maxRecDepth 20000 in
theorem ggX3_chance_X0_hasState : GoodIn wsX3_chance wsX0_hasState := goodIn_r _ [7, 8, 9, 10, 6, 11, 12, 43, 44, 45, 46, 47] (by decide +kernel) (by decide +kernel)
set_option maxRecDepth 20000 in
theorem gX3_chance_X0_hasState : GoodIn wsX3_chance (wsV RX3 35 RX0 yX0_hasState wsX0_hasState) := goodIn_app (goodIn_of _ (by decide +kernel)) ggX3_chance_X0_hasState
set_option maxRecDepth 20000 in
theorem ggX3_chance_X3_isWithin : GoodIn wsX3_chance wsX3_isWithin := goodIn_r _ [16] (by decide +kernel) (by decide +kernel)
set_option maxRecDepth 20000 in
theorem gX3_chance_X3_isWithin : GoodIn wsX3_chance (va_wsS RX3 23 yX3_isWithin wsX3_isWithin) := goodIn_app (goodIn_of _ (by decide +kernel)) ggX3_chance_X3_isWithin
set_option maxRecDepth 20000 in
theorem ggX3_chance_X0_weightOf : GoodIn wsX3_chance wsX0_weightOf := goodIn_r _ [20, 12, 21, 22, 23, 6, 24, 25, 43, 44, 45, 46, 47] (by decide +kernel) (by decide +kernel)
set_option maxRecDepth 20000 in
theorem gX3_chance_X0_weightOf : GoodIn wsX3_chance (wsV RX3 39 RX0 yX0_weightOf wsX0_weightOf) := goodIn_app (goodIn_of _ (by decide +kernel)) ggX3_chance_X0_weightOf
set_option maxRecDepth 20000 in
theorem ggX3_chance_X0_countPlaces : GoodIn wsX3_chance wsX0_countPlaces := goodIn_r _ [29, 12, 43, 44, 45, 46, 47] (by decide +kernel) (by decide +kernel)
set_option maxRecDepth 20000 in
theorem gX3_chance_X0_countPlaces : GoodIn wsX3_chance (wsV RX3 48 RX0 yX0_countPlaces wsX0_countPlaces) := goodIn_app (goodIn_of _ (by decide +kernel)) ggX3_chance_X0_countPlaces
set_option maxRecDepth 20000 in
theorem ggX3_chance_X0_sumOf : GoodIn wsX3_chance wsX0_sumOf := goodIn_r _ [33, 34, 43, 44, 45, 46, 47] (by decide +kernel) (by decide +kernel)
set_option maxRecDepth 20000 in
theorem gX3_chance_X0_sumOf : GoodIn wsX3_chance (wsV RX3 45 RX0 yX0_sumOf wsX0_sumOf) := goodIn_app (goodIn_of _ (by decide +kernel)) ggX3_chance_X0_sumOf
set_option maxRecDepth 20000 in
theorem ggX3_chance_X3_partOfFraction : GoodIn wsX3_chance wsX3_partOfFraction := goodIn_r _ [37, 38, 39, 15, 40] (by decide +kernel) (by decide +kernel)
set_option maxRecDepth 20000 in
theorem gX3_chance_X3_partOfFraction : GoodIn wsX3_chance (va_wsS RX3 51 yX3_partOfFraction wsX3_partOfFraction) := goodIn_app (goodIn_of _ (by decide +kernel)) ggX3_chance_X3_partOfFraction
theorem dX3_chance_0 : decode cX3_chance 0 = .ok (.aload_n 0, 1) := by decide +kernel
theorem dX3_chance_1 : decode cX3_chance 1 = .ok (.getfield 10, 3) := by decide +kernel
theorem dX3_chance_4 : decode cX3_chance 4 = .ok (.iload_n 1, 1) := by decide +kernel
theorem dX3_chance_5 : decode cX3_chance 5 = .ok (.invokevirtual 35, 3) := by decide +kernel
theorem dX3_chance_8 : decode cX3_chance 8 = .ok (.ifCond .eq 12, 3) := by decide +kernel
theorem dX3_chance_11 : decode cX3_chance 11 = .ok (.iload_n 2, 1) := by decide +kernel
theorem dX3_chance_12 : decode cX3_chance 12 = .ok (.iconst 0, 1) := by decide +kernel
theorem dX3_chance_13 : decode cX3_chance 13 = .ok (.iconst 1, 1) := by decide +kernel
theorem dX3_chance_14 : decode cX3_chance 14 = .ok (.invokestatic 23, 3) := by decide +kernel
theorem dX3_chance_17 : decode cX3_chance 17 = .ok (.ifCond .ne 7, 3) := by decide +kernel
theorem dX3_chance_20 : decode cX3_chance 20 = .ok (.ldc2_w 43, 3) := by decide +kernel
theorem dX3_chance_23 : decode cX3_chance 23 = .ok (.lreturn, 1) := by decide +kernel
theorem dX3_chance_24 : decode cX3_chance 24 = .ok (.aload_n 0, 1) := by decide +kernel
theorem dX3_chance_25 : decode cX3_chance 25 = .ok (.getfield 10, 3) := by decide +kernel
theorem dX3_chance_28 : decode cX3_chance 28 = .ok (.iload_n 1, 1) := by decide +kernel
theorem dX3_chance_29 : decode cX3_chance 29 = .ok (.invokevirtual 39, 3) := by decide +kernel
theorem dX3_chance_32 : decode cX3_chance 32 = .ok (.aload_n 0, 1) := by decide +kernel
theorem dX3_chance_33 : decode cX3_chance 33 = .ok (.getfield 10, 3) := by decide +kernel
theorem dX3_chance_36 : decode cX3_chance 36 = .ok (.aload_n 0, 1) := by decide +kernel
theorem dX3_chance_37 : decode cX3_chance 37 = .ok (.getfield 10, 3) := by decide +kernel
theorem dX3_chance_40 : decode cX3_chance 40 = .ok (.invokevirtual 48, 3) := by decide +kernel
theorem dX3_chance_43 : decode cX3_chance 43 = .ok (.invokevirtual 45, 3) := by decide +kernel
theorem dX3_chance_46 : decode cX3_chance 46 = .ok (.iload_n 2, 1) := by decide +kernel
theorem dX3_chance_47 : decode cX3_chance 47 = .ok (.invokestatic 51, 3) := by decide +kernel
theorem dX3_chance_50 : decode cX3_chance 50 = .ok (.lreturn, 1) := by decide +kernel
set_option maxRecDepth 20000 in
theorem ggX3_current_X3_isWithin : GoodIn wsX3_current wsX3_isWithin := goodIn_r _ [6] (by decide +kernel) (by decide +kernel)
set_option maxRecDepth 20000 in
theorem gX3_current_X3_isWithin : GoodIn wsX3_current (va_wsS RX3 23 yX3_isWithin wsX3_isWithin) := goodIn_app (goodIn_of _ (by decide +kernel)) ggX3_current_X3_isWithin
set_option maxRecDepth 20000 in
theorem ggX3_current_X0_countPlaces : GoodIn wsX3_current wsX0_countPlaces := goodIn_r _ [11, 12, 26, 27, 28, 29, 30] (by decide +kernel) (by decide +kernel)
set_option maxRecDepth 20000 in
theorem gX3_current_X0_countPlaces : GoodIn wsX3_current (wsV RX3 48 RX0 yX0_countPlaces wsX0_countPlaces) := goodIn_app (goodIn_of _ (by decide +kernel)) ggX3_current_X0_countPlaces
set_option maxRecDepth 20000 in
theorem ggX3_current_X0_sumOf : GoodIn wsX3_current wsX0_sumOf := goodIn_r _ [16, 17, 26, 27, 28, 29, 30] (by decide +kernel) (by decide +kernel)
set_option maxRecDepth 20000 in
theorem gX3_current_X0_sumOf : GoodIn wsX3_current (wsV RX3 45 RX0 yX0_sumOf wsX0_sumOf) := goodIn_app (goodIn_of _ (by decide +kernel)) ggX3_current_X0_sumOf
set_option maxRecDepth 20000 in
theorem ggX3_current_X3_partOfFraction : GoodIn wsX3_current wsX3_partOfFraction := goodIn_r _ [20, 21, 22, 5, 23] (by decide +kernel) (by decide +kernel)
set_option maxRecDepth 20000 in
theorem gX3_current_X3_partOfFraction : GoodIn wsX3_current (va_wsS RX3 51 yX3_partOfFraction wsX3_partOfFraction) := goodIn_app (goodIn_of _ (by decide +kernel)) ggX3_current_X3_partOfFraction
theorem dX3_current_0 : decode cX3_current 0 = .ok (.iload_n 1, 1) := by decide +kernel
theorem dX3_current_1 : decode cX3_current 1 = .ok (.iconst 0, 1) := by decide +kernel
theorem dX3_current_2 : decode cX3_current 2 = .ok (.iconst 1, 1) := by decide +kernel
theorem dX3_current_3 : decode cX3_current 3 = .ok (.invokestatic 23, 3) := by decide +kernel
theorem dX3_current_6 : decode cX3_current 6 = .ok (.ifCond .ne 7, 3) := by decide +kernel
theorem dX3_current_9 : decode cX3_current 9 = .ok (.ldc2_w 43, 3) := by decide +kernel
theorem dX3_current_12 : decode cX3_current 12 = .ok (.lreturn, 1) := by decide +kernel
theorem dX3_current_13 : decode cX3_current 13 = .ok (.aload_n 0, 1) := by decide +kernel
theorem dX3_current_14 : decode cX3_current 14 = .ok (.getfield 10, 3) := by decide +kernel
theorem dX3_current_17 : decode cX3_current 17 = .ok (.invokevirtual 48, 3) := by decide +kernel
theorem dX3_current_20 : decode cX3_current 20 = .ok (.istore_n 2, 1) := by decide +kernel
theorem dX3_current_21 : decode cX3_current 21 = .ok (.aload_n 0, 1) := by decide +kernel
theorem dX3_current_22 : decode cX3_current 22 = .ok (.getfield 10, 3) := by decide +kernel
theorem dX3_current_25 : decode cX3_current 25 = .ok (.iload_n 2, 1) := by decide +kernel
theorem dX3_current_26 : decode cX3_current 26 = .ok (.iconst 1, 1) := by decide +kernel
theorem dX3_current_27 : decode cX3_current 27 = .ok (.isub, 1) := by decide +kernel
theorem dX3_current_28 : decode cX3_current 28 = .ok (.invokevirtual 45, 3) := by decide +kernel
theorem dX3_current_31 : decode cX3_current 31 = .ok (.aload_n 0, 1) := by decide +kernel
theorem dX3_current_32 : decode cX3_current 32 = .ok (.getfield 10, 3) := by decide +kernel
theorem dX3_current_35 : decode cX3_current 35 = .ok (.iload_n 2, 1) := by decide +kernel
theorem dX3_current_36 : decode cX3_current 36 = .ok (.invokevirtual 45, 3) := by decide +kernel
theorem dX3_current_39 : decode cX3_current 39 = .ok (.iload_n 1, 1) := by decide +kernel
theorem dX3_current_40 : decode cX3_current 40 = .ok (.invokestatic 51, 3) := by decide +kernel
theorem dX3_current_43 : decode cX3_current 43 = .ok (.lreturn, 1) := by decide +kernel
set_option maxRecDepth 20000 in
theorem ggX3_taken_X0_hasState : GoodIn wsX3_taken wsX0_hasState := goodIn_r _ [7, 8, 9, 10, 6, 11, 12, 47, 48, 49, 50, 51] (by decide +kernel) (by decide +kernel)
set_option maxRecDepth 20000 in
theorem gX3_taken_X0_hasState : GoodIn wsX3_taken (wsV RX3 35 RX0 yX0_hasState wsX0_hasState) := goodIn_app (goodIn_of _ (by decide +kernel)) ggX3_taken_X0_hasState
set_option maxRecDepth 20000 in
theorem ggX3_taken_X3_isWithin : GoodIn wsX3_taken wsX3_isWithin := goodIn_r _ [16] (by decide +kernel) (by decide +kernel)
set_option maxRecDepth 20000 in
theorem gX3_taken_X3_isWithin : GoodIn wsX3_taken (va_wsS RX3 23 yX3_isWithin wsX3_isWithin) := goodIn_app (goodIn_of _ (by decide +kernel)) ggX3_taken_X3_isWithin
set_option maxRecDepth 20000 in
theorem ggX3_taken_X0_sumWithTaken : GoodIn wsX3_taken wsX0_sumWithTaken := goodIn_r _ [20, 8, 9, 10, 6, 11, 12, 21, 22, 23, 24, 25, 26, 27, 28, 29, 47, 48, 49, 50, 51] (by decide +kernel) (by decide +kernel)
set_option maxRecDepth 20000 in
theorem gX3_taken_X0_sumWithTaken : GoodIn wsX3_taken (wsV RX3 55 RX0 yX0_sumWithTaken wsX0_sumWithTaken) := goodIn_app (goodIn_of _ (by decide +kernel)) ggX3_taken_X0_sumWithTaken
set_option maxRecDepth 20000 in
theorem ggX3_taken_X0_countPlaces : GoodIn wsX3_taken wsX0_countPlaces := goodIn_r _ [33, 12, 47, 48, 49, 50, 51] (by decide +kernel) (by decide +kernel)
set_option maxRecDepth 20000 in
theorem gX3_taken_X0_countPlaces : GoodIn wsX3_taken (wsV RX3 48 RX0 yX0_countPlaces wsX0_countPlaces) := goodIn_app (goodIn_of _ (by decide +kernel)) ggX3_taken_X0_countPlaces
set_option maxRecDepth 20000 in
theorem ggX3_taken_X0_sumOf : GoodIn wsX3_taken wsX0_sumOf := goodIn_r _ [37, 38, 47, 48, 49, 50, 51] (by decide +kernel) (by decide +kernel)
set_option maxRecDepth 20000 in
theorem gX3_taken_X0_sumOf : GoodIn wsX3_taken (wsV RX3 45 RX0 yX0_sumOf wsX0_sumOf) := goodIn_app (goodIn_of _ (by decide +kernel)) ggX3_taken_X0_sumOf
set_option maxRecDepth 20000 in
theorem ggX3_taken_X3_partOfFraction : GoodIn wsX3_taken wsX3_partOfFraction := goodIn_r _ [41, 42, 43, 15, 44] (by decide +kernel) (by decide +kernel)
set_option maxRecDepth 20000 in
theorem gX3_taken_X3_partOfFraction : GoodIn wsX3_taken (va_wsS RX3 51 yX3_partOfFraction wsX3_partOfFraction) := goodIn_app (goodIn_of _ (by decide +kernel)) ggX3_taken_X3_partOfFraction
theorem dX3_taken_0 : decode cX3_taken 0 = .ok (.aload_n 0, 1) := by decide +kernel
theorem dX3_taken_1 : decode cX3_taken 1 = .ok (.getfield 10, 3) := by decide +kernel
theorem dX3_taken_4 : decode cX3_taken 4 = .ok (.iload_n 1, 1) := by decide +kernel
theorem dX3_taken_5 : decode cX3_taken 5 = .ok (.invokevirtual 35, 3) := by decide +kernel
theorem dX3_taken_8 : decode cX3_taken 8 = .ok (.ifCond .eq 12, 3) := by decide +kernel
theorem dX3_taken_11 : decode cX3_taken 11 = .ok (.iload_n 2, 1) := by decide +kernel
theorem dX3_taken_12 : decode cX3_taken 12 = .ok (.iconst 0, 1) := by decide +kernel
theorem dX3_taken_13 : decode cX3_taken 13 = .ok (.iconst 1, 1) := by decide +kernel
theorem dX3_taken_14 : decode cX3_taken 14 = .ok (.invokestatic 23, 3) := by decide +kernel
theorem dX3_taken_17 : decode cX3_taken 17 = .ok (.ifCond .ne 7, 3) := by decide +kernel
theorem dX3_taken_20 : decode cX3_taken 20 = .ok (.ldc2_w 43, 3) := by decide +kernel
theorem dX3_taken_23 : decode cX3_taken 23 = .ok (.lreturn, 1) := by decide +kernel
theorem dX3_taken_24 : decode cX3_taken 24 = .ok (.aload_n 0, 1) := by decide +kernel
theorem dX3_taken_25 : decode cX3_taken 25 = .ok (.getfield 10, 3) := by decide +kernel
theorem dX3_taken_28 : decode cX3_taken 28 = .ok (.iload_n 1, 1) := by decide +kernel
theorem dX3_taken_29 : decode cX3_taken 29 = .ok (.invokevirtual 55, 3) := by decide +kernel
theorem dX3_taken_32 : decode cX3_taken 32 = .ok (.aload_n 0, 1) := by decide +kernel
theorem dX3_taken_33 : decode cX3_taken 33 = .ok (.getfield 10, 3) := by decide +kernel
theorem dX3_taken_36 : decode cX3_taken 36 = .ok (.aload_n 0, 1) := by decide +kernel
theorem dX3_taken_37 : decode cX3_taken 37 = .ok (.getfield 10, 3) := by decide +kernel
theorem dX3_taken_40 : decode cX3_taken 40 = .ok (.invokevirtual 48, 3) := by decide +kernel
theorem dX3_taken_43 : decode cX3_taken 43 = .ok (.invokevirtual 45, 3) := by decide +kernel
theorem dX3_taken_46 : decode cX3_taken 46 = .ok (.iload_n 2, 1) := by decide +kernel
theorem dX3_taken_47 : decode cX3_taken 47 = .ok (.invokestatic 51, 3) := by decide +kernel
theorem dX3_taken_50 : decode cX3_taken 50 = .ok (.lreturn, 1) := by decide +kernel
set_option maxRecDepth 20000 in
theorem ggX3_flow_X0_hasState : GoodIn wsX3_flow wsX0_hasState := goodIn_r _ [7, 8, 9, 10, 6, 11, 12, 52, 53, 54, 55, 56] (by decide +kernel) (by decide +kernel)
set_option maxRecDepth 20000 in
theorem gX3_flow_X0_hasState : GoodIn wsX3_flow (wsV RX3 35 RX0 yX0_hasState wsX0_hasState) := goodIn_app (goodIn_of _ (by decide +kernel)) ggX3_flow_X0_hasState
set_option maxRecDepth 20000 in
theorem ggX3_flow_X3_isWithin : GoodIn wsX3_flow wsX3_isWithin := goodIn_r _ [16] (by decide +kernel) (by decide +kernel)
set_option maxRecDepth 20000 in
theorem gX3_flow_X3_isWithin : GoodIn wsX3_flow (va_wsS RX3 23 yX3_isWithin wsX3_isWithin) := goodIn_app (goodIn_of _ (by decide +kernel)) ggX3_flow_X3_isWithin
set_option maxRecDepth 20000 in
theorem ggX3_flow_X0_flowInto : GoodIn wsX3_flow wsX0_flowInto := goodIn_r _ [20, 12, 21, 15, 22, 23, 24, 25, 6, 26, 27, 28, 29, 30, 31, 32, 33, 34, 35, 36, 37, 38, 39, 40, 41, 42, 43, 44, 45, 52, 53, 54, 55, 56] (by decide +kernel) (by decide +kernel)
set_option maxRecDepth 20000 in
theorem gX3_flow_X0_flowInto : GoodIn wsX3_flow (wsV RX3 58 RX0 yX0_flowInto wsX0_flowInto) := goodIn_app (goodIn_of _ (by decide +kernel)) ggX3_flow_X0_flowInto
set_option maxRecDepth 20000 in
theorem ggX3_flow_X0_flowOutOf : GoodIn wsX3_flow wsX0_flowOutOf := goodIn_r _ [49, 12, 21, 15, 22, 32, 33, 34, 6, 35, 36, 37, 38, 39, 40, 41, 42, 43, 44, 45, 23, 24, 25, 26, 27, 28, 29, 30, 31, 52, 53, 54, 55, 56] (by decide +kernel) (by decide +kernel)
set_option maxRecDepth 20000 in
theorem gX3_flow_X0_flowOutOf : GoodIn wsX3_flow (wsV RX3 61 RX0 yX0_flowOutOf wsX0_flowOutOf) := goodIn_app (goodIn_of _ (by decide +kernel)) ggX3_flow_X0_flowOutOf
theorem dX3_flow_0 : decode cX3_flow 0 = .ok (.aload_n 0, 1) := by decide +kernel
theorem dX3_flow_1 : decode cX3_flow 1 = .ok (.getfield 10, 3) := by decide +kernel
theorem dX3_flow_4 : decode cX3_flow 4 = .ok (.iload_n 1, 1) := by decide +kernel
theorem dX3_flow_5 : decode cX3_flow 5 = .ok (.invokevirtual 35, 3) := by decide +kernel
theorem dX3_flow_8 : decode cX3_flow 8 = .ok (.ifCond .eq 12, 3) := by decide +kernel
theorem dX3_flow_11 : decode cX3_flow 11 = .ok (.iload_n 2, 1) := by decide +kernel
theorem dX3_flow_12 : decode cX3_flow 12 = .ok (.iconst 0, 1) := by decide +kernel
theorem dX3_flow_13 : decode cX3_flow 13 = .ok (.iconst 1, 1) := by decide +kernel
theorem dX3_flow_14 : decode cX3_flow 14 = .ok (.invokestatic 23, 3) := by decide +kernel
theorem dX3_flow_17 : decode cX3_flow 17 = .ok (.ifCond .ne 7, 3) := by decide +kernel
theorem dX3_flow_20 : decode cX3_flow 20 = .ok (.ldc2_w 43, 3) := by decide +kernel
theorem dX3_flow_23 : decode cX3_flow 23 = .ok (.lreturn, 1) := by decide +kernel
theorem dX3_flow_24 : decode cX3_flow 24 = .ok (.iload_n 2, 1) := by decide +kernel
theorem dX3_flow_25 : decode cX3_flow 25 = .ok (.ifCond .ne 14, 3) := by decide +kernel
theorem dX3_flow_28 : decode cX3_flow 28 = .ok (.aload_n 0, 1) := by decide +kernel
theorem dX3_flow_29 : decode cX3_flow 29 = .ok (.getfield 10, 3) := by decide +kernel
theorem dX3_flow_32 : decode cX3_flow 32 = .ok (.iload_n 1, 1) := by decide +kernel
theorem dX3_flow_33 : decode cX3_flow 33 = .ok (.invokevirtual 58, 3) := by decide +kernel
theorem dX3_flow_36 : decode cX3_flow 36 = .ok (.goto 11, 3) := by decide +kernel
theorem dX3_flow_39 : decode cX3_flow 39 = .ok (.aload_n 0, 1) := by decide +kernel
theorem dX3_flow_40 : decode cX3_flow 40 = .ok (.getfield 10, 3) := by decide +kernel
theorem dX3_flow_43 : decode cX3_flow 43 = .ok (.iload_n 1, 1) := by decide +kernel
theorem dX3_flow_44 : decode cX3_flow 44 = .ok (.invokevirtual 61, 3) := by decide +kernel
theorem dX3_flow_47 : decode cX3_flow 47 = .ok (.lreturn, 1) := by decide +kernel
set_option maxRecDepth 20000 in
theorem ggX3_extreme_X3_isWithin : GoodIn wsX3_extreme wsX3_isWithin := goodIn_r _ [5] (by decide +kernel) (by decide +kernel)
set_option maxRecDepth 20000 in
theorem gX3_extreme_X3_isWithin : GoodIn wsX3_extreme (va_wsS RX3 23 yX3_isWithin wsX3_isWithin) := goodIn_app (goodIn_of _ (by decide +kernel)) ggX3_extreme_X3_isWithin
set_option maxRecDepth 20000 in
theorem ggX3_extreme_X0_heaviestState : GoodIn wsX3_extreme wsX0_heaviestState := goodIn_r _ [10, 11, 12, 13, 9, 14, 15, 16, 17, 18, 19, 20, 21, 22, 23, 24, 31, 32, 33, 34, 35] (by decide +kernel) (by decide +kernel)
set_option maxRecDepth 20000 in
theorem gX3_extreme_X0_heaviestState : GoodIn wsX3_extreme (wsV RX3 64 RX0 yX0_heaviestState wsX0_heaviestState) := goodIn_app (goodIn_of _ (by decide +kernel)) ggX3_extreme_X0_heaviestState
set_option maxRecDepth 20000 in
theorem ggX3_extreme_X0_lightestState : GoodIn wsX3_extreme wsX0_lightestState := goodIn_r _ [28, 11, 12, 13, 9, 14, 15, 16, 17, 18, 19, 20, 21, 22, 23, 24, 31, 32, 33, 34, 35] (by decide +kernel) (by decide +kernel)
set_option maxRecDepth 20000 in
theorem gX3_extreme_X0_lightestState : GoodIn wsX3_extreme (wsV RX3 67 RX0 yX0_lightestState wsX0_lightestState) := goodIn_app (goodIn_of _ (by decide +kernel)) ggX3_extreme_X0_lightestState
theorem dX3_extreme_0 : decode cX3_extreme 0 = .ok (.iload_n 1, 1) := by decide +kernel
theorem dX3_extreme_1 : decode cX3_extreme 1 = .ok (.iconst 0, 1) := by decide +kernel
theorem dX3_extreme_2 : decode cX3_extreme 2 = .ok (.iconst 1, 1) := by decide +kernel
theorem dX3_extreme_3 : decode cX3_extreme 3 = .ok (.invokestatic 23, 3) := by decide +kernel
theorem dX3_extreme_6 : decode cX3_extreme 6 = .ok (.ifCond .ne 5, 3) := by decide +kernel
theorem dX3_extreme_9 : decode cX3_extreme 9 = .ok (.iconst (-1), 1) := by decide +kernel
theorem dX3_extreme_10 : decode cX3_extreme 10 = .ok (.ireturn, 1) := by decide +kernel
theorem dX3_extreme_11 : decode cX3_extreme 11 = .ok (.iload_n 1, 1) := by decide +kernel
theorem dX3_extreme_12 : decode cX3_extreme 12 = .ok (.ifCond .ne 13, 3) := by decide +kernel
theorem dX3_extreme_15 : decode cX3_extreme 15 = .ok (.aload_n 0, 1) := by decide +kernel
theorem dX3_extreme_16 : decode cX3_extreme 16 = .ok (.getfield 10, 3) := by decide +kernel
theorem dX3_extreme_19 : decode cX3_extreme 19 = .ok (.invokevirtual 64, 3) := by decide +kernel
theorem dX3_extreme_22 : decode cX3_extreme 22 = .ok (.goto 10, 3) := by decide +kernel
theorem dX3_extreme_25 : decode cX3_extreme 25 = .ok (.aload_n 0, 1) := by decide +kernel
theorem dX3_extreme_26 : decode cX3_extreme 26 = .ok (.getfield 10, 3) := by decide +kernel
theorem dX3_extreme_29 : decode cX3_extreme 29 = .ok (.invokevirtual 67, 3) := by decide +kernel
theorem dX3_extreme_32 : decode cX3_extreme 32 = .ok (.ireturn, 1) := by decide +kernel
set_option maxRecDepth 20000 in
theorem ggX3_queue_X3_isWithin : GoodIn wsX3_queue wsX3_isWithin := goodIn_r _ [4] (by decide +kernel) (by decide +kernel)
set_option maxRecDepth 20000 in
theorem gX3_queue_X3_isWithin : GoodIn wsX3_queue (va_wsS RX3 23 yX3_isWithin wsX3_isWithin) := goodIn_app (goodIn_of _ (by decide +kernel)) ggX3_queue_X3_isWithin
set_option maxRecDepth 20000 in
theorem ggX3_queue_X1_areRows : GoodIn wsX3_queue wsX1_areRows := goodIn_r _ [8, 2, 3, 4, 9, 10, 11, 12, 13, 14, 15] (by decide +kernel) (by decide +kernel)
set_option maxRecDepth 20000 in
theorem gX3_queue_X1_areRows : GoodIn wsX3_queue (va_wsS RX3 70 yX1_areRows wsX1_areRows) := goodIn_app (goodIn_of _ (by decide +kernel)) ggX3_queue_X1_areRows
set_option maxRecDepth 20000 in
theorem ggX3_queue_X1_servedPlaces : GoodIn wsX3_queue wsX1_servedPlaces := goodIn_r _ [18, 19, 3, 20, 21, 22, 7, 23] (by decide +kernel) (by decide +kernel)
set_option maxRecDepth 20000 in
theorem gX3_queue_X1_servedPlaces : GoodIn wsX3_queue (va_wsS RX3 75 yX1_servedPlaces wsX1_servedPlaces) := goodIn_app (goodIn_of _ (by decide +kernel)) ggX3_queue_X1_servedPlaces
set_option maxRecDepth 20000 in
theorem ggX3_queue_X1_numberOf : GoodIn wsX3_queue wsX1_numberOf := goodIn_r _ [26, 19, 3, 20] (by decide +kernel) (by decide +kernel)
set_option maxRecDepth 20000 in
theorem gX3_queue_X1_numberOf : GoodIn wsX3_queue (va_wsS RX3 79 yX1_numberOf wsX1_numberOf) := goodIn_app (goodIn_of _ (by decide +kernel)) ggX3_queue_X1_numberOf
theorem dX3_queue_0 : decode cX3_queue 0 = .ok (.iload_n 1, 1) := by decide +kernel
theorem dX3_queue_1 : decode cX3_queue 1 = .ok (.iconst 3, 1) := by decide +kernel
theorem dX3_queue_2 : decode cX3_queue 2 = .ok (.bipush 8, 2) := by decide +kernel
theorem dX3_queue_4 : decode cX3_queue 4 = .ok (.invokestatic 23, 3) := by decide +kernel
theorem dX3_queue_7 : decode cX3_queue 7 = .ok (.ifCond .eq 12, 3) := by decide +kernel
theorem dX3_queue_10 : decode cX3_queue 10 = .ok (.iload_n 1, 1) := by decide +kernel
theorem dX3_queue_11 : decode cX3_queue 11 = .ok (.iload_n 2, 1) := by decide +kernel
theorem dX3_queue_12 : decode cX3_queue 12 = .ok (.iload_n 3, 1) := by decide +kernel
theorem dX3_queue_13 : decode cX3_queue 13 = .ok (.invokestatic 70, 3) := by decide +kernel
theorem dX3_queue_16 : decode cX3_queue 16 = .ok (.ifCond .ne 5, 3) := by decide +kernel
theorem dX3_queue_19 : decode cX3_queue 19 = .ok (.iconst (-1), 1) := by decide +kernel
theorem dX3_queue_20 : decode cX3_queue 20 = .ok (.ireturn, 1) := by decide +kernel
theorem dX3_queue_21 : decode cX3_queue 21 = .ok (.iload_n 1, 1) := by decide +kernel
theorem dX3_queue_22 : decode cX3_queue 22 = .ok (.iload_n 1, 1) := by decide +kernel
theorem dX3_queue_23 : decode cX3_queue 23 = .ok (.iload_n 2, 1) := by decide +kernel
theorem dX3_queue_24 : decode cX3_queue 24 = .ok (.iload_n 3, 1) := by decide +kernel
theorem dX3_queue_25 : decode cX3_queue 25 = .ok (.invokestatic 75, 3) := by decide +kernel
theorem dX3_queue_28 : decode cX3_queue 28 = .ok (.iload_n 3, 1) := by decide +kernel
theorem dX3_queue_29 : decode cX3_queue 29 = .ok (.invokestatic 79, 3) := by decide +kernel
theorem dX3_queue_32 : decode cX3_queue 32 = .ok (.ireturn, 1) := by decide +kernel
set_option maxRecDepth 20000 in
theorem ggX3_ways_X3_isWithin : GoodIn wsX3_ways wsX3_isWithin := goodIn_r _ [4] (by decide +kernel) (by decide +kernel)
set_option maxRecDepth 20000 in
theorem gX3_ways_X3_isWithin : GoodIn wsX3_ways (va_wsS RX3 23 yX3_isWithin wsX3_isWithin) := goodIn_app (goodIn_of _ (by decide +kernel)) ggX3_ways_X3_isWithin
set_option maxRecDepth 20000 in
theorem ggX3_ways_X1_greatestNumber : GoodIn wsX3_ways wsX1_greatestNumber := goodIn_r _ [8] (by decide +kernel) (by decide +kernel)
set_option maxRecDepth 20000 in
theorem gX3_ways_X1_greatestNumber : GoodIn wsX3_ways (va_wsS RX3 82 yX1_greatestNumber wsX1_greatestNumber) := goodIn_app (goodIn_of _ (by decide +kernel)) ggX3_ways_X1_greatestNumber
set_option maxRecDepth 20000 in
theorem ggX3_ways_X1_placesOfSort : GoodIn wsX3_ways wsX1_placesOfSort := goodIn_r _ [11] (by decide +kernel) (by decide +kernel)
set_option maxRecDepth 20000 in
theorem gX3_ways_X1_placesOfSort : GoodIn wsX3_ways (va_wsS RX3 86 yX1_placesOfSort wsX1_placesOfSort) := goodIn_app (goodIn_of _ (by decide +kernel)) ggX3_ways_X1_placesOfSort
set_option maxRecDepth 20000 in
theorem ggX3_ways_X1_countUpperRows : GoodIn wsX3_ways wsX1_countUpperRows := goodIn_r _ [14, 15, 16, 17, 18, 19, 20, 21, 22, 23, 7, 24, 25, 3, 26, 27, 28, 29] (by decide +kernel) (by decide +kernel)
set_option maxRecDepth 20000 in
theorem gX3_ways_X1_countUpperRows : GoodIn wsX3_ways (va_wsS RX3 89 yX1_countUpperRows wsX1_countUpperRows) := goodIn_app (goodIn_of _ (by decide +kernel)) ggX3_ways_X1_countUpperRows
theorem dX3_ways_0 : decode cX3_ways 0 = .ok (.iload_n 1, 1) := by decide +kernel
theorem dX3_ways_1 : decode cX3_ways 1 = .ok (.iconst 3, 1) := by decide +kernel
theorem dX3_ways_2 : decode cX3_ways 2 = .ok (.bipush 8, 2) := by decide +kernel
theorem dX3_ways_4 : decode cX3_ways 4 = .ok (.invokestatic 23, 3) := by decide +kernel
theorem dX3_ways_7 : decode cX3_ways 7 = .ok (.ifCond .eq 15, 3) := by decide +kernel
theorem dX3_ways_10 : decode cX3_ways 10 = .ok (.iload_n 2, 1) := by decide +kernel
theorem dX3_ways_11 : decode cX3_ways 11 = .ok (.iconst 0, 1) := by decide +kernel
theorem dX3_ways_12 : decode cX3_ways 12 = .ok (.iload_n 1, 1) := by decide +kernel
theorem dX3_ways_13 : decode cX3_ways 13 = .ok (.invokestatic 82, 3) := by decide +kernel
theorem dX3_ways_16 : decode cX3_ways 16 = .ok (.invokestatic 23, 3) := by decide +kernel
theorem dX3_ways_19 : decode cX3_ways 19 = .ok (.ifCond .ne 5, 3) := by decide +kernel
theorem dX3_ways_22 : decode cX3_ways 22 = .ok (.iconst (-1), 1) := by decide +kernel
theorem dX3_ways_23 : decode cX3_ways 23 = .ok (.ireturn, 1) := by decide +kernel
theorem dX3_ways_24 : decode cX3_ways 24 = .ok (.iload_n 1, 1) := by decide +kernel
theorem dX3_ways_25 : decode cX3_ways 25 = .ok (.iload_n 2, 1) := by decide +kernel
theorem dX3_ways_26 : decode cX3_ways 26 = .ok (.iconst 1, 1) := by decide +kernel
theorem dX3_ways_27 : decode cX3_ways 27 = .ok (.invokestatic 86, 3) := by decide +kernel
theorem dX3_ways_30 : decode cX3_ways 30 = .ok (.istore_n 3, 1) := by decide +kernel
theorem dX3_ways_31 : decode cX3_ways 31 = .ok (.iload_n 1, 1) := by decide +kernel
theorem dX3_ways_32 : decode cX3_ways 32 = .ok (.iload_n 2, 1) := by decide +kernel
theorem dX3_ways_33 : decode cX3_ways 33 = .ok (.iconst 2, 1) := by decide +kernel
theorem dX3_ways_34 : decode cX3_ways 34 = .ok (.invokestatic 86, 3) := by decide +kernel
theorem dX3_ways_37 : decode cX3_ways 37 = .ok (.istore 4, 2) := by decide +kernel
theorem dX3_ways_39 : decode cX3_ways 39 = .ok (.iload_n 1, 1) := by decide +kernel
theorem dX3_ways_40 : decode cX3_ways 40 = .ok (.iload_n 2, 1) := by decide +kernel
theorem dX3_ways_41 : decode cX3_ways 41 = .ok (.iconst 0, 1) := by decide +kernel
theorem dX3_ways_42 : decode cX3_ways 42 = .ok (.invokestatic 86, 3) := by decide +kernel
theorem dX3_ways_45 : decode cX3_ways 45 = .ok (.istore 5, 2) := by decide +kernel
theorem dX3_ways_47 : decode cX3_ways 47 = .ok (.iload_n 3, 1) := by decide +kernel
theorem dX3_ways_48 : decode cX3_ways 48 = .ok (.ifCond .eq 13, 3) := by decide +kernel
theorem dX3_ways_51 : decode cX3_ways 51 = .ok (.iload 4, 2) := by decide +kernel
theorem dX3_ways_53 : decode cX3_ways 53 = .ok (.ifCond .eq 8, 3) := by decide +kernel
theorem dX3_ways_56 : decode cX3_ways 56 = .ok (.iload 5, 2) := by decide +kernel
theorem dX3_ways_58 : decode cX3_ways 58 = .ok (.ifCond .ne 5, 3) := by decide +kernel
theorem dX3_ways_61 : decode cX3_ways 61 = .ok (.iconst (-1), 1) := by decide +kernel
theorem dX3_ways_62 : decode cX3_ways 62 = .ok (.ireturn, 1) := by decide +kernel
theorem dX3_ways_63 : decode cX3_ways 63 = .ok (.iload_n 1, 1) := by decide +kernel
theorem dX3_ways_64 : decode cX3_ways 64 = .ok (.iload_n 3, 1) := by decide +kernel
theorem dX3_ways_65 : decode cX3_ways 65 = .ok (.iload_n 3, 1) := by decide +kernel
theorem dX3_ways_66 : decode cX3_ways 66 = .ok (.iload 4, 2) := by decide +kernel
theorem dX3_ways_68 : decode cX3_ways 68 = .ok (.ior, 1) := by decide +kernel
theorem dX3_ways_69 : decode cX3_ways 69 = .ok (.invokestatic 89, 3) := by decide +kernel
theorem dX3_ways_72 : decode cX3_ways 72 = .ok (.ireturn, 1) := by decide +kernel
set_option maxRecDepth 20000 in
theorem ggX3_step_X3_isWithin : GoodIn wsX3_step wsX3_isWithin := goodIn_r _ [5] (by decide +kernel) (by decide +kernel)
set_option maxRecDepth 20000 in
theorem gX3_step_X3_isWithin : GoodIn wsX3_step (va_wsS RX3 23 yX3_isWithin wsX3_isWithin) := goodIn_app (goodIn_of _ (by decide +kernel)) ggX3_step_X3_isWithin
set_option maxRecDepth 20000 in
theorem ggX3_step_X2_begin : GoodIn wsX3_step wsX2_begin := goodIn_r _ [10, 11, 12, 13, 14, 15, 16, 17, 18, 21, 22, 23, 24, 25, 26, 27, 28] (by decide +kernel) (by decide +kernel)
set_option maxRecDepth 20000 in
theorem gX3_step_X2_begin : GoodIn wsX3_step (wsV RX3 92 RX2 yX2_begin wsX2_begin) := goodIn_app (goodIn_of _ (by decide +kernel)) ggX3_step_X2_begin
theorem dX3_step_0 : decode cX3_step 0 = .ok (.iload_n 1, 1) := by decide +kernel
theorem dX3_step_1 : decode cX3_step 1 = .ok (.iconst 2, 1) := by decide +kernel
theorem dX3_step_2 : decode cX3_step 2 = .ok (.bipush 30, 2) := by decide +kernel
theorem dX3_step_4 : decode cX3_step 4 = .ok (.invokestatic 23, 3) := by decide +kernel
theorem dX3_step_7 : decode cX3_step 7 = .ok (.ifCond .ne 5, 3) := by decide +kernel
theorem dX3_step_10 : decode cX3_step 10 = .ok (.iconst (-1), 1) := by decide +kernel
theorem dX3_step_11 : decode cX3_step 11 = .ok (.ireturn, 1) := by decide +kernel
theorem dX3_step_12 : decode cX3_step 12 = .ok (.aload_n 0, 1) := by decide +kernel
theorem dX3_step_13 : decode cX3_step 13 = .ok (.getfield 19, 3) := by decide +kernel
theorem dX3_step_16 : decode cX3_step 16 = .ok (.iload_n 1, 1) := by decide +kernel
theorem dX3_step_17 : decode cX3_step 17 = .ok (.iload_n 2, 1) := by decide +kernel
theorem dX3_step_18 : decode cX3_step 18 = .ok (.invokevirtual 92, 3) := by decide +kernel
theorem dX3_step_21 : decode cX3_step 21 = .ok (.iconst 0, 1) := by decide +kernel
theorem dX3_step_22 : decode cX3_step 22 = .ok (.ireturn, 1) := by decide +kernel
set_option maxRecDepth 20000 in
theorem ggX3_set_X2_mayHavePlace : GoodIn wsX3_set wsX2_mayHavePlace := goodIn_r _ [6, 7, 8, 9, 10, 5, 11, 31, 32, 33, 34, 35, 36, 37, 38] (by decide +kernel) (by decide +kernel)
set_option maxRecDepth 20000 in
theorem gX3_set_X2_mayHavePlace : GoodIn wsX3_set (wsV RX3 96 RX2 yX2_mayHavePlace wsX2_mayHavePlace) := goodIn_app (goodIn_of _ (by decide +kernel)) ggX3_set_X2_mayHavePlace
set_option maxRecDepth 20000 in
theorem ggX3_set_X3_isWithin : GoodIn wsX3_set wsX3_isWithin := goodIn_r _ [15] (by decide +kernel) (by decide +kernel)
set_option maxRecDepth 20000 in
theorem gX3_set_X3_isWithin : GoodIn wsX3_set (va_wsS RX3 23 yX3_isWithin wsX3_isWithin) := goodIn_app (goodIn_of _ (by decide +kernel)) ggX3_set_X3_isWithin
set_option maxRecDepth 20000 in
theorem ggX3_set_X2_isThere : GoodIn wsX3_set wsX2_isThere := goodIn_r _ [11, 7, 31, 32, 33, 34, 35, 36, 37, 38] (by decide +kernel) (by decide +kernel)
set_option maxRecDepth 20000 in
theorem gX3_set_X2_isThere : GoodIn wsX3_set (wsV RX3 99 RX2 yX2_isThere wsX2_isThere) := goodIn_app (goodIn_of _ (by decide +kernel)) ggX3_set_X2_isThere
set_option maxRecDepth 20000 in
theorem ggX3_set_X2_sortAt : GoodIn wsX3_set wsX2_sortAt := goodIn_r _ [20, 21, 22, 23, 14, 24, 31, 32, 33, 34, 35, 36, 37, 38] (by decide +kernel) (by decide +kernel)
set_option maxRecDepth 20000 in
theorem gX3_set_X2_sortAt : GoodIn wsX3_set (wsV RX3 103 RX2 yX2_sortAt wsX2_sortAt) := goodIn_app (goodIn_of _ (by decide +kernel)) ggX3_set_X2_sortAt
set_option maxRecDepth 20000 in
theorem ggX3_set_X2_put : GoodIn wsX3_set wsX2_put := goodIn_r _ [28, 21, 22, 31, 32, 33, 34, 35, 36, 37, 38] (by decide +kernel) (by decide +kernel)
set_option maxRecDepth 20000 in
theorem gX3_set_X2_put : GoodIn wsX3_set (wsV RX3 106 RX2 yX2_put wsX2_put) := goodIn_app (goodIn_of _ (by decide +kernel)) ggX3_set_X2_put
theorem dX3_set_0 : decode cX3_set 0 = .ok (.aload_n 0, 1) := by decide +kernel
theorem dX3_set_1 : decode cX3_set 1 = .ok (.getfield 19, 3) := by decide +kernel
theorem dX3_set_4 : decode cX3_set 4 = .ok (.iload_n 1, 1) := by decide +kernel
theorem dX3_set_5 : decode cX3_set 5 = .ok (.invokevirtual 96, 3) := by decide +kernel
theorem dX3_set_8 : decode cX3_set 8 = .ok (.ifCond .eq 12, 3) := by decide +kernel
theorem dX3_set_11 : decode cX3_set 11 = .ok (.iload_n 2, 1) := by decide +kernel
theorem dX3_set_12 : decode cX3_set 12 = .ok (.iconst 0, 1) := by decide +kernel
theorem dX3_set_13 : decode cX3_set 13 = .ok (.iconst 2, 1) := by decide +kernel
theorem dX3_set_14 : decode cX3_set 14 = .ok (.invokestatic 23, 3) := by decide +kernel
theorem dX3_set_17 : decode cX3_set 17 = .ok (.ifCond .ne 5, 3) := by decide +kernel
theorem dX3_set_20 : decode cX3_set 20 = .ok (.iconst (-1), 1) := by decide +kernel
theorem dX3_set_21 : decode cX3_set 21 = .ok (.ireturn, 1) := by decide +kernel
theorem dX3_set_22 : decode cX3_set 22 = .ok (.aload_n 0, 1) := by decide +kernel
theorem dX3_set_23 : decode cX3_set 23 = .ok (.getfield 19, 3) := by decide +kernel
theorem dX3_set_26 : decode cX3_set 26 = .ok (.invokevirtual 99, 3) := by decide +kernel
theorem dX3_set_29 : decode cX3_set 29 = .ok (.ifCond .ne 6, 3) := by decide +kernel
theorem dX3_set_32 : decode cX3_set 32 = .ok (.bipush (-2), 2) := by decide +kernel
theorem dX3_set_34 : decode cX3_set 34 = .ok (.ireturn, 1) := by decide +kernel
theorem dX3_set_35 : decode cX3_set 35 = .ok (.aload_n 0, 1) := by decide +kernel
theorem dX3_set_36 : decode cX3_set 36 = .ok (.getfield 19, 3) := by decide +kernel
theorem dX3_set_39 : decode cX3_set 39 = .ok (.iload_n 1, 1) := by decide +kernel
theorem dX3_set_40 : decode cX3_set 40 = .ok (.invokevirtual 103, 3) := by decide +kernel
theorem dX3_set_43 : decode cX3_set 43 = .ok (.istore_n 3, 1) := by decide +kernel
theorem dX3_set_44 : decode cX3_set 44 = .ok (.aload_n 0, 1) := by decide +kernel
theorem dX3_set_45 : decode cX3_set 45 = .ok (.getfield 19, 3) := by decide +kernel
theorem dX3_set_48 : decode cX3_set 48 = .ok (.iload_n 1, 1) := by decide +kernel
theorem dX3_set_49 : decode cX3_set 49 = .ok (.iload_n 2, 1) := by decide +kernel
theorem dX3_set_50 : decode cX3_set 50 = .ok (.invokevirtual 106, 3) := by decide +kernel
theorem dX3_set_53 : decode cX3_set 53 = .ok (.iload_n 3, 1) := by decide +kernel
theorem dX3_set_54 : decode cX3_set 54 = .ok (.ireturn, 1) := by decide +kernel
set_option maxRecDepth 20000 in
theorem ggX3_seed_X2_isThere : GoodIn wsX3_seed wsX2_isThere := goodIn_r _ [6, 7, 15, 16, 17, 18, 19, 20, 21, 22] (by decide +kernel) (by decide +kernel)
set_option maxRecDepth 20000 in
theorem gX3_seed_X2_isThere : GoodIn wsX3_seed (wsV RX3 99 RX2 yX2_isThere wsX2_isThere) := goodIn_app (goodIn_of _ (by decide +kernel)) ggX3_seed_X2_isThere
set_option maxRecDepth 20000 in
theorem ggX3_seed_X2_sow : GoodIn wsX3_seed wsX2_sow := goodIn_r _ [11, 12, 15, 16, 17, 18, 19, 20, 21, 22] (by decide +kernel) (by decide +kernel)
set_option maxRecDepth 20000 in
theorem gX3_seed_X2_sow : GoodIn wsX3_seed (wsV RX3 110 RX2 yX2_sow wsX2_sow) := goodIn_app (goodIn_of _ (by decide +kernel)) ggX3_seed_X2_sow
theorem dX3_seed_0 : decode cX3_seed 0 = .ok (.iload_n 1, 1) := by decide +kernel
theorem dX3_seed_1 : decode cX3_seed 1 = .ok (.ifCond .ge 5, 3) := by decide +kernel
theorem dX3_seed_4 : decode cX3_seed 4 = .ok (.iconst (-1), 1) := by decide +kernel
theorem dX3_seed_5 : decode cX3_seed 5 = .ok (.ireturn, 1) := by decide +kernel
theorem dX3_seed_6 : decode cX3_seed 6 = .ok (.aload_n 0, 1) := by decide +kernel
theorem dX3_seed_7 : decode cX3_seed 7 = .ok (.getfield 19, 3) := by decide +kernel
theorem dX3_seed_10 : decode cX3_seed 10 = .ok (.invokevirtual 99, 3) := by decide +kernel
theorem dX3_seed_13 : decode cX3_seed 13 = .ok (.ifCond .ne 6, 3) := by decide +kernel
theorem dX3_seed_16 : decode cX3_seed 16 = .ok (.bipush (-2), 2) := by decide +kernel
theorem dX3_seed_18 : decode cX3_seed 18 = .ok (.ireturn, 1) := by decide +kernel
theorem dX3_seed_19 : decode cX3_seed 19 = .ok (.aload_n 0, 1) := by decide +kernel
theorem dX3_seed_20 : decode cX3_seed 20 = .ok (.getfield 19, 3) := by decide +kernel
theorem dX3_seed_23 : decode cX3_seed 23 = .ok (.iload_n 1, 1) := by decide +kernel
theorem dX3_seed_24 : decode cX3_seed 24 = .ok (.invokevirtual 110, 3) := by decide +kernel
theorem dX3_seed_27 : decode cX3_seed 27 = .ok (.iconst 0, 1) := by decide +kernel
theorem dX3_seed_28 : decode cX3_seed 28 = .ok (.ireturn, 1) := by decide +kernel
set_option maxRecDepth 20000 in
theorem ggX3_go_X3_isWithin : GoodIn wsX3_go wsX3_isWithin := goodIn_r _ [5] (by decide +kernel) (by decide +kernel)
set_option maxRecDepth 20000 in
theorem gX3_go_X3_isWithin : GoodIn wsX3_go (va_wsS RX3 23 yX3_isWithin wsX3_isWithin) := goodIn_app (goodIn_of _ (by decide +kernel)) ggX3_go_X3_isWithin
set_option maxRecDepth 20000 in
theorem ggX3_go_X2_isThere : GoodIn wsX3_go wsX2_isThere := goodIn_r _ [10, 11, 57, 58, 59, 60, 61, 62, 63, 64] (by decide +kernel) (by decide +kernel)
set_option maxRecDepth 20000 in
theorem gX3_go_X2_isThere : GoodIn wsX3_go (wsV RX3 99 RX2 yX2_isThere wsX2_isThere) := goodIn_app (goodIn_of _ (by decide +kernel)) ggX3_go_X2_isThere
set_option maxRecDepth 20000 in
theorem ggX3_go_X2_stepSingly : GoodIn wsX3_go wsX2_stepSingly := goodIn_r _ [15, 16, 17, 18, 9, 19, 20, 21, 22, 11, 23, 24, 25, 26, 27, 28, 29, 30, 31, 32, 33, 34, 35, 36, 37, 38, 39, 4, 40, 41, 42, 43, 44, 45, 46, 47, 48, 49, 50, 51, 52, 53, 54, 57, 58, 59, 60, 61, 62, 63, 64] (by decide +kernel) (by decide +kernel)
set_option maxRecDepth 20000 in
theorem gX3_go_X2_stepSingly : GoodIn wsX3_go (wsV RX3 114 RX2 yX2_stepSingly wsX2_stepSingly) := goodIn_app (goodIn_of _ (by decide +kernel)) ggX3_go_X2_stepSingly
theorem dX3_go_0 : decode cX3_go 0 = .ok (.iload_n 1, 1) := by decide +kernel
theorem dX3_go_1 : decode cX3_go 1 = .ok (.iconst 1, 1) := by decide +kernel
theorem dX3_go_2 : decode cX3_go 2 = .ok (.sipush 10000, 3) := by decide +kernel
theorem dX3_go_5 : decode cX3_go 5 = .ok (.invokestatic 23, 3) := by decide +kernel
theorem dX3_go_8 : decode cX3_go 8 = .ok (.ifCond .ne 5, 3) := by decide +kernel
theorem dX3_go_11 : decode cX3_go 11 = .ok (.iconst (-1), 1) := by decide +kernel
theorem dX3_go_12 : decode cX3_go 12 = .ok (.ireturn, 1) := by decide +kernel
theorem dX3_go_13 : decode cX3_go 13 = .ok (.aload_n 0, 1) := by decide +kernel
theorem dX3_go_14 : decode cX3_go 14 = .ok (.getfield 19, 3) := by decide +kernel
theorem dX3_go_17 : decode cX3_go 17 = .ok (.invokevirtual 99, 3) := by decide +kernel
theorem dX3_go_20 : decode cX3_go 20 = .ok (.ifCond .eq 14, 3) := by decide +kernel
theorem dX3_go_23 : decode cX3_go 23 = .ok (.aload_n 0, 1) := by decide +kernel
theorem dX3_go_24 : decode cX3_go 24 = .ok (.getfield 19, 3) := by decide +kernel
theorem dX3_go_27 : decode cX3_go 27 = .ok (.iload_n 1, 1) := by decide +kernel
theorem dX3_go_28 : decode cX3_go 28 = .ok (.invokevirtual 114, 3) := by decide +kernel
theorem dX3_go_31 : decode cX3_go 31 = .ok (.goto 5, 3) := by decide +kernel
theorem dX3_go_34 : decode cX3_go 34 = .ok (.bipush (-2), 2) := by decide +kernel
theorem dX3_go_36 : decode cX3_go 36 = .ok (.ireturn, 1) := by decide +kernel
set_option maxRecDepth 20000 in
theorem ggX3_together_X3_isWithin : GoodIn wsX3_together wsX3_isWithin := goodIn_r _ [5] (by decide +kernel) (by decide +kernel)
set_option maxRecDepth 20000 in
theorem gX3_together_X3_isWithin : GoodIn wsX3_together (va_wsS RX3 23 yX3_isWithin wsX3_isWithin) := goodIn_app (goodIn_of _ (by decide +kernel)) ggX3_together_X3_isWithin
set_option maxRecDepth 20000 in
theorem ggX3_together_X2_isThere : GoodIn wsX3_together wsX2_isThere := goodIn_r _ [10, 11, 51, 52, 53, 54, 55, 56, 57, 58] (by decide +kernel) (by decide +kernel)
set_option maxRecDepth 20000 in
theorem gX3_together_X2_isThere : GoodIn wsX3_together (wsV RX3 99 RX2 yX2_isThere wsX2_isThere) := goodIn_app (goodIn_of _ (by decide +kernel)) ggX3_together_X2_isThere
set_option maxRecDepth 20000 in
theorem ggX3_together_X2_countOfSort : GoodIn wsX3_together wsX2_countOfSort := goodIn_r _ [15, 16, 17, 18, 19, 20, 21, 22, 23, 24, 51, 52, 53, 54, 55, 56, 57, 58] (by decide +kernel) (by decide +kernel)
set_option maxRecDepth 20000 in
theorem gX3_together_X2_countOfSort : GoodIn wsX3_together (wsV RX3 117 RX2 yX2_countOfSort wsX2_countOfSort) := goodIn_app (goodIn_of _ (by decide +kernel)) ggX3_together_X2_countOfSort
set_option maxRecDepth 20000 in
theorem ggX3_together_X2_stepAllAtOnce : GoodIn wsX3_together wsX2_stepAllAtOnce := goodIn_r _ [28, 29, 30, 31, 32, 33, 9, 34, 16, 11, 35, 36, 37, 38, 39, 40, 17, 41, 42, 43, 44, 18, 19, 20, 21, 22, 23, 24, 45, 46, 47, 48, 51, 52, 53, 54, 55, 56, 57, 58] (by decide +kernel) (by decide +kernel)
set_option maxRecDepth 20000 in
theorem gX3_together_X2_stepAllAtOnce : GoodIn wsX3_together (wsV RX3 120 RX2 yX2_stepAllAtOnce wsX2_stepAllAtOnce) := goodIn_app (goodIn_of _ (by decide +kernel)) ggX3_together_X2_stepAllAtOnce
theorem dX3_together_0 : decode cX3_together 0 = .ok (.iload_n 1, 1) := by decide +kernel
theorem dX3_together_1 : decode cX3_together 1 = .ok (.iconst 1, 1) := by decide +kernel
theorem dX3_together_2 : decode cX3_together 2 = .ok (.sipush 1000, 3) := by decide +kernel
theorem dX3_together_5 : decode cX3_together 5 = .ok (.invokestatic 23, 3) := by decide +kernel
theorem dX3_together_8 : decode cX3_together 8 = .ok (.ifCond .ne 5, 3) := by decide +kernel
theorem dX3_together_11 : decode cX3_together 11 = .ok (.iconst (-1), 1) := by decide +kernel
theorem dX3_together_12 : decode cX3_together 12 = .ok (.ireturn, 1) := by decide +kernel
theorem dX3_together_13 : decode cX3_together 13 = .ok (.aload_n 0, 1) := by decide +kernel
theorem dX3_together_14 : decode cX3_together 14 = .ok (.getfield 19, 3) := by decide +kernel
theorem dX3_together_17 : decode cX3_together 17 = .ok (.invokevirtual 99, 3) := by decide +kernel
theorem dX3_together_20 : decode cX3_together 20 = .ok (.ifCond .eq 14, 3) := by decide +kernel
theorem dX3_together_23 : decode cX3_together 23 = .ok (.aload_n 0, 1) := by decide +kernel
theorem dX3_together_24 : decode cX3_together 24 = .ok (.getfield 19, 3) := by decide +kernel
theorem dX3_together_27 : decode cX3_together 27 = .ok (.iconst 2, 1) := by decide +kernel
theorem dX3_together_28 : decode cX3_together 28 = .ok (.invokevirtual 117, 3) := by decide +kernel
theorem dX3_together_31 : decode cX3_together 31 = .ok (.ifCond .le 6, 3) := by decide +kernel
theorem dX3_together_34 : decode cX3_together 34 = .ok (.bipush (-2), 2) := by decide +kernel
theorem dX3_together_36 : decode cX3_together 36 = .ok (.ireturn, 1) := by decide +kernel
theorem dX3_together_37 : decode cX3_together 37 = .ok (.aload_n 0, 1) := by decide +kernel
theorem dX3_together_38 : decode cX3_together 38 = .ok (.getfield 19, 3) := by decide +kernel
theorem dX3_together_41 : decode cX3_together 41 = .ok (.iload_n 1, 1) := by decide +kernel
theorem dX3_together_42 : decode cX3_together 42 = .ok (.invokevirtual 120, 3) := by decide +kernel
theorem dX3_together_45 : decode cX3_together 45 = .ok (.ireturn, 1) := by decide +kernel
set_option maxRecDepth 20000 in
theorem ggX3_at_X2_mayHavePlace : GoodIn wsX3_at wsX2_mayHavePlace := goodIn_r _ [6, 7, 8, 9, 10, 5, 11, 24, 25, 26, 27, 28, 29, 30, 31] (by decide +kernel) (by decide +kernel)
set_option maxRecDepth 20000 in
theorem gX3_at_X2_mayHavePlace : GoodIn wsX3_at (wsV RX3 96 RX2 yX2_mayHavePlace wsX2_mayHavePlace) := goodIn_app (goodIn_of _ (by decide +kernel)) ggX3_at_X2_mayHavePlace
set_option maxRecDepth 20000 in
theorem ggX3_at_X2_isThere : GoodIn wsX3_at wsX2_isThere := goodIn_r _ [11, 7, 24, 25, 26, 27, 28, 29, 30, 31] (by decide +kernel) (by decide +kernel)
set_option maxRecDepth 20000 in
theorem gX3_at_X2_isThere : GoodIn wsX3_at (wsV RX3 99 RX2 yX2_isThere wsX2_isThere) := goodIn_app (goodIn_of _ (by decide +kernel)) ggX3_at_X2_isThere
set_option maxRecDepth 20000 in
theorem ggX3_at_X2_sortAt : GoodIn wsX3_at wsX2_sortAt := goodIn_r _ [16, 17, 18, 19, 20, 21, 24, 25, 26, 27, 28, 29, 30, 31] (by decide +kernel) (by decide +kernel)
set_option maxRecDepth 20000 in
theorem gX3_at_X2_sortAt : GoodIn wsX3_at (wsV RX3 103 RX2 yX2_sortAt wsX2_sortAt) := goodIn_app (goodIn_of _ (by decide +kernel)) ggX3_at_X2_sortAt
theorem dX3_at_0 : decode cX3_at 0 = .ok (.aload_n 0, 1) := by decide +kernel
theorem dX3_at_1 : decode cX3_at 1 = .ok (.getfield 19, 3) := by decide +kernel
theorem dX3_at_4 : decode cX3_at 4 = .ok (.iload_n 1, 1) := by decide +kernel
theorem dX3_at_5 : decode cX3_at 5 = .ok (.invokevirtual 96, 3) := by decide +kernel
theorem dX3_at_8 : decode cX3_at 8 = .ok (.ifCond .ne 5, 3) := by decide +kernel
theorem dX3_at_11 : decode cX3_at 11 = .ok (.iconst (-1), 1) := by decide +kernel
theorem dX3_at_12 : decode cX3_at 12 = .ok (.ireturn, 1) := by decide +kernel
theorem dX3_at_13 : decode cX3_at 13 = .ok (.aload_n 0, 1) := by decide +kernel
theorem dX3_at_14 : decode cX3_at 14 = .ok (.getfield 19, 3) := by decide +kernel
theorem dX3_at_17 : decode cX3_at 17 = .ok (.invokevirtual 99, 3) := by decide +kernel
theorem dX3_at_20 : decode cX3_at 20 = .ok (.ifCond .eq 14, 3) := by decide +kernel
theorem dX3_at_23 : decode cX3_at 23 = .ok (.aload_n 0, 1) := by decide +kernel
theorem dX3_at_24 : decode cX3_at 24 = .ok (.getfield 19, 3) := by decide +kernel
theorem dX3_at_27 : decode cX3_at 27 = .ok (.iload_n 1, 1) := by decide +kernel
theorem dX3_at_28 : decode cX3_at 28 = .ok (.invokevirtual 103, 3) := by decide +kernel
theorem dX3_at_31 : decode cX3_at 31 = .ok (.goto 5, 3) := by decide +kernel
theorem dX3_at_34 : decode cX3_at 34 = .ok (.bipush (-2), 2) := by decide +kernel
theorem dX3_at_36 : decode cX3_at 36 = .ok (.ireturn, 1) := by decide +kernel
set_option maxRecDepth 20000 in
theorem ggX3_told_X3_isWithin : GoodIn wsX3_told wsX3_isWithin := goodIn_r _ [5] (by decide +kernel) (by decide +kernel)
set_option maxRecDepth 20000 in
theorem gX3_told_X3_isWithin : GoodIn wsX3_told (va_wsS RX3 23 yX3_isWithin wsX3_isWithin) := goodIn_app (goodIn_of _ (by decide +kernel)) ggX3_told_X3_isWithin
set_option maxRecDepth 20000 in
theorem ggX3_told_X2_isThere : GoodIn wsX3_told wsX2_isThere := goodIn_r _ [10, 11, 43, 44, 45, 46, 47, 48, 49, 50] (by decide +kernel) (by decide +kernel)
set_option maxRecDepth 20000 in
theorem gX3_told_X2_isThere : GoodIn wsX3_told (wsV RX3 99 RX2 yX2_isThere wsX2_isThere) := goodIn_app (goodIn_of _ (by decide +kernel)) ggX3_told_X2_isThere
set_option maxRecDepth 20000 in
theorem ggX3_told_X2_tell : GoodIn wsX3_told wsX2_tell := goodIn_r _ [15, 11, 16, 17, 18, 19, 20, 21, 22, 9, 23, 24, 25, 26, 27, 28, 29, 30, 31, 32, 33, 34, 35, 36, 37, 38, 39, 40, 43, 44, 45, 46, 47, 48, 49, 50] (by decide +kernel) (by decide +kernel)
set_option maxRecDepth 20000 in
theorem gX3_told_X2_tell : GoodIn wsX3_told (wsV RX3 123 RX2 yX2_tell wsX2_tell) := goodIn_app (goodIn_of _ (by decide +kernel)) ggX3_told_X2_tell
theorem dX3_told_0 : decode cX3_told 0 = .ok (.iload_n 1, 1) := by decide +kernel
theorem dX3_told_1 : decode cX3_told 1 = .ok (.iconst 0, 1) := by decide +kernel
theorem dX3_told_2 : decode cX3_told 2 = .ok (.bipush 7, 2) := by decide +kernel
theorem dX3_told_4 : decode cX3_told 4 = .ok (.invokestatic 23, 3) := by decide +kernel
theorem dX3_told_7 : decode cX3_told 7 = .ok (.ifCond .ne 5, 3) := by decide +kernel
theorem dX3_told_10 : decode cX3_told 10 = .ok (.iconst (-1), 1) := by decide +kernel
theorem dX3_told_11 : decode cX3_told 11 = .ok (.ireturn, 1) := by decide +kernel
theorem dX3_told_12 : decode cX3_told 12 = .ok (.aload_n 0, 1) := by decide +kernel
theorem dX3_told_13 : decode cX3_told 13 = .ok (.getfield 19, 3) := by decide +kernel
theorem dX3_told_16 : decode cX3_told 16 = .ok (.invokevirtual 99, 3) := by decide +kernel
theorem dX3_told_19 : decode cX3_told 19 = .ok (.ifCond .eq 14, 3) := by decide +kernel
theorem dX3_told_22 : decode cX3_told 22 = .ok (.aload_n 0, 1) := by decide +kernel
theorem dX3_told_23 : decode cX3_told 23 = .ok (.getfield 19, 3) := by decide +kernel
theorem dX3_told_26 : decode cX3_told 26 = .ok (.iload_n 1, 1) := by decide +kernel
theorem dX3_told_27 : decode cX3_told 27 = .ok (.invokevirtual 123, 3) := by decide +kernel
theorem dX3_told_30 : decode cX3_told 30 = .ok (.goto 5, 3) := by decide +kernel
theorem dX3_told_33 : decode cX3_told 33 = .ok (.bipush (-2), 2) := by decide +kernel
theorem dX3_told_35 : decode cX3_told 35 = .ok (.ireturn, 1) := by decide +kernel
theorem dX3_isWithin_0 : decode cX3_isWithin 0 = .ok (.iload_n 0, 1) := by decide +kernel
theorem dX3_isWithin_1 : decode cX3_isWithin 1 = .ok (.iload_n 1, 1) := by decide +kernel
theorem dX3_isWithin_2 : decode cX3_isWithin 2 = .ok (.if_icmp .lt 12, 3) := by decide +kernel
theorem dX3_isWithin_5 : decode cX3_isWithin 5 = .ok (.iload_n 0, 1) := by decide +kernel
theorem dX3_isWithin_6 : decode cX3_isWithin 6 = .ok (.iload_n 2, 1) := by decide +kernel
theorem dX3_isWithin_7 : decode cX3_isWithin 7 = .ok (.if_icmp .gt 7, 3) := by decide +kernel
theorem dX3_isWithin_10 : decode cX3_isWithin 10 = .ok (.iconst 1, 1) := by decide +kernel
theorem dX3_isWithin_11 : decode cX3_isWithin 11 = .ok (.goto 4, 3) := by decide +kernel
theorem dX3_isWithin_14 : decode cX3_isWithin 14 = .ok (.iconst 0, 1) := by decide +kernel
theorem dX3_isWithin_15 : decode cX3_isWithin 15 = .ok (.ireturn, 1) := by decide +kernel
theorem dX3_isTaken_0 : decode cX3_isTaken 0 = .ok (.iload_n 0, 1) := by decide +kernel
theorem dX3_isTaken_1 : decode cX3_isTaken 1 = .ok (.iload_n 1, 1) := by decide +kernel
theorem dX3_isTaken_2 : decode cX3_isTaken 2 = .ok (.ishr, 1) := by decide +kernel
theorem dX3_isTaken_3 : decode cX3_isTaken 3 = .ok (.iconst 1, 1) := by decide +kernel
theorem dX3_isTaken_4 : decode cX3_isTaken 4 = .ok (.iand, 1) := by decide +kernel
theorem dX3_isTaken_5 : decode cX3_isTaken 5 = .ok (.iconst 1, 1) := by decide +kernel
theorem dX3_isTaken_6 : decode cX3_isTaken 6 = .ok (.if_icmp .ne 7, 3) := by decide +kernel
theorem dX3_isTaken_9 : decode cX3_isTaken 9 = .ok (.iconst 1, 1) := by decide +kernel
theorem dX3_isTaken_10 : decode cX3_isTaken 10 = .ok (.goto 4, 3) := by decide +kernel
theorem dX3_isTaken_13 : decode cX3_isTaken 13 = .ok (.iconst 0, 1) := by decide +kernel
theorem dX3_isTaken_14 : decode cX3_isTaken 14 = .ok (.ireturn, 1) := by decide +kernel
set_option maxRecDepth 20000 in
theorem ggX3_partOfFraction_X3_greatestCommonDivisor : GoodIn wsX3_partOfFraction wsX3_greatestCommonDivisor := goodIn_r _ [4] (by decide +kernel) (by decide +kernel)
set_option maxRecDepth 20000 in
theorem gX3_partOfFraction_X3_greatestCommonDivisor : GoodIn wsX3_partOfFraction (va_wsS RX3 126 yX3_greatestCommonDivisor wsX3_greatestCommonDivisor) := goodIn_app (goodIn_of _ (by decide +kernel)) ggX3_partOfFraction_X3_greatestCommonDivisor
theorem dX3_partOfFraction_0 : decode cX3_partOfFraction 0 = .ok (.lload_n 0, 1) := by decide +kernel
theorem dX3_partOfFraction_1 : decode cX3_partOfFraction 1 = .ok (.lload_n 2, 1) := by decide +kernel
theorem dX3_partOfFraction_2 : decode cX3_partOfFraction 2 = .ok (.invokestatic 126, 3) := by decide +kernel
theorem dX3_partOfFraction_5 : decode cX3_partOfFraction 5 = .ok (.lstore 5, 2) := by decide +kernel
theorem dX3_partOfFraction_7 : decode cX3_partOfFraction 7 = .ok (.iload 4, 2) := by decide +kernel
theorem dX3_partOfFraction_9 : decode cX3_partOfFraction 9 = .ok (.ifCond .ne 7, 3) := by decide +kernel
theorem dX3_partOfFraction_12 : decode cX3_partOfFraction 12 = .ok (.lload_n 0, 1) := by decide +kernel
theorem dX3_partOfFraction_13 : decode cX3_partOfFraction 13 = .ok (.goto 4, 3) := by decide +kernel
theorem dX3_partOfFraction_16 : decode cX3_partOfFraction 16 = .ok (.lload_n 2, 1) := by decide +kernel
theorem dX3_partOfFraction_17 : decode cX3_partOfFraction 17 = .ok (.lstore 7, 2) := by decide +kernel
theorem dX3_partOfFraction_19 : decode cX3_partOfFraction 19 = .ok (.lload 5, 2) := by decide +kernel
theorem dX3_partOfFraction_21 : decode cX3_partOfFraction 21 = .ok (.lconst 0, 1) := by decide +kernel
theorem dX3_partOfFraction_22 : decode cX3_partOfFraction 22 = .ok (.lcmp, 1) := by decide +kernel
theorem dX3_partOfFraction_23 : decode cX3_partOfFraction 23 = .ok (.ifCond .le 11, 3) := by decide +kernel
theorem dX3_partOfFraction_26 : decode cX3_partOfFraction 26 = .ok (.lload 7, 2) := by decide +kernel
theorem dX3_partOfFraction_28 : decode cX3_partOfFraction 28 = .ok (.lload 5, 2) := by decide +kernel
theorem dX3_partOfFraction_30 : decode cX3_partOfFraction 30 = .ok (.ldiv, 1) := by decide +kernel
theorem dX3_partOfFraction_31 : decode cX3_partOfFraction 31 = .ok (.goto 5, 3) := by decide +kernel
theorem dX3_partOfFraction_34 : decode cX3_partOfFraction 34 = .ok (.lload 7, 2) := by decide +kernel
theorem dX3_partOfFraction_36 : decode cX3_partOfFraction 36 = .ok (.lreturn, 1) := by decide +kernel
theorem dX3_greatestCommonDivisor_0 : decode cX3_greatestCommonDivisor 0 = .ok (.lload_n 0, 1) := by decide +kernel
theorem dX3_greatestCommonDivisor_1 : decode cX3_greatestCommonDivisor 1 = .ok (.lstore 4, 2) := by decide +kernel
theorem dX3_greatestCommonDivisor_3 : decode cX3_greatestCommonDivisor 3 = .ok (.lload_n 2, 1) := by decide +kernel
theorem dX3_greatestCommonDivisor_4 : decode cX3_greatestCommonDivisor 4 = .ok (.lstore 6, 2) := by decide +kernel
theorem dX3_greatestCommonDivisor_6 : decode cX3_greatestCommonDivisor 6 = .ok (.iconst 0, 1) := by decide +kernel
theorem dX3_greatestCommonDivisor_7 : decode cX3_greatestCommonDivisor 7 = .ok (.istore 8, 2) := by decide +kernel
theorem dX3_greatestCommonDivisor_9 : decode cX3_greatestCommonDivisor 9 = .ok (.iload 8, 2) := by decide +kernel
theorem dX3_greatestCommonDivisor_11 : decode cX3_greatestCommonDivisor 11 = .ok (.bipush 100, 2) := by decide +kernel
theorem dX3_greatestCommonDivisor_13 : decode cX3_greatestCommonDivisor 13 = .ok (.if_icmp .ge 31, 3) := by decide +kernel
theorem dX3_greatestCommonDivisor_16 : decode cX3_greatestCommonDivisor 16 = .ok (.lload 6, 2) := by decide +kernel
theorem dX3_greatestCommonDivisor_18 : decode cX3_greatestCommonDivisor 18 = .ok (.lconst 0, 1) := by decide +kernel
theorem dX3_greatestCommonDivisor_19 : decode cX3_greatestCommonDivisor 19 = .ok (.lcmp, 1) := by decide +kernel
theorem dX3_greatestCommonDivisor_20 : decode cX3_greatestCommonDivisor 20 = .ok (.ifCond .eq 24, 3) := by decide +kernel
theorem dX3_greatestCommonDivisor_23 : decode cX3_greatestCommonDivisor 23 = .ok (.lload 4, 2) := by decide +kernel
theorem dX3_greatestCommonDivisor_25 : decode cX3_greatestCommonDivisor 25 = .ok (.lload 6, 2) := by decide +kernel
theorem dX3_greatestCommonDivisor_27 : decode cX3_greatestCommonDivisor 27 = .ok (.lrem, 1) := by decide +kernel
theorem dX3_greatestCommonDivisor_28 : decode cX3_greatestCommonDivisor 28 = .ok (.lstore 9, 2) := by decide +kernel
theorem dX3_greatestCommonDivisor_30 : decode cX3_greatestCommonDivisor 30 = .ok (.lload 6, 2) := by decide +kernel
theorem dX3_greatestCommonDivisor_32 : decode cX3_greatestCommonDivisor 32 = .ok (.lstore 4, 2) := by decide +kernel
theorem dX3_greatestCommonDivisor_34 : decode cX3_greatestCommonDivisor 34 = .ok (.lload 9, 2) := by decide +kernel
theorem dX3_greatestCommonDivisor_36 : decode cX3_greatestCommonDivisor 36 = .ok (.lstore 6, 2) := by decide +kernel
theorem dX3_greatestCommonDivisor_38 : decode cX3_greatestCommonDivisor 38 = .ok (.iinc 8 1, 3) := by decide +kernel
theorem dX3_greatestCommonDivisor_41 : decode cX3_greatestCommonDivisor 41 = .ok (.goto (-32), 3) := by decide +kernel
theorem dX3_greatestCommonDivisor_44 : decode cX3_greatestCommonDivisor 44 = .ok (.lload 4, 2) := by decide +kernel
theorem dX3_greatestCommonDivisor_46 : decode cX3_greatestCommonDivisor 46 = .ok (.lreturn, 1) := by decide +kernel
set_option maxRecDepth 20000 in
theorem ggX4_init_X4_fills : GoodIn wsX4_init wsX4_fills := goodIn_r _ [17, 8, 5, 6, 18, 19, 20, 16, 21, 22, 23, 24, 25, 26, 27, 28, 29, 30, 31, 32, 33, 34] (by decide +kernel) (by decide +kernel)
set_option maxRecDepth 20000 in
theorem gX4_init_X4_fills : GoodIn wsX4_init (wsV RX4 34 RX4 yX4_fills wsX4_fills) := goodIn_app (goodIn_of _ (by decide +kernel)) ggX4_init_X4_fills
theorem dX4_init_0 : decode cX4_init 0 = .ok (.aload_n 0, 1) := by decide +kernel
theorem dX4_init_1 : decode cX4_init 1 = .ok (.invokespecial 1, 3) := by decide +kernel
theorem dX4_init_4 : decode cX4_init 4 = .ok (.aload_n 0, 1) := by decide +kernel
theorem dX4_init_5 : decode cX4_init 5 = .ok (.iconst 1, 1) := by decide +kernel
theorem dX4_init_6 : decode cX4_init 6 = .ok (.putfield 7, 3) := by decide +kernel
theorem dX4_init_9 : decode cX4_init 9 = .ok (.aload_n 0, 1) := by decide +kernel
theorem dX4_init_10 : decode cX4_init 10 = .ok (.iconst 1, 1) := by decide +kernel
theorem dX4_init_11 : decode cX4_init 11 = .ok (.putfield 13, 3) := by decide +kernel
theorem dX4_init_14 : decode cX4_init 14 = .ok (.aload_n 0, 1) := by decide +kernel
theorem dX4_init_15 : decode cX4_init 15 = .ok (.iconst 1, 1) := by decide +kernel
theorem dX4_init_16 : decode cX4_init 16 = .ok (.putfield 16, 3) := by decide +kernel
theorem dX4_init_19 : decode cX4_init 19 = .ok (.aload_n 0, 1) := by decide +kernel
theorem dX4_init_20 : decode cX4_init 20 = .ok (.sipush 511, 3) := by decide +kernel
theorem dX4_init_23 : decode cX4_init 23 = .ok (.newarray .long, 2) := by decide +kernel
theorem dX4_init_25 : decode cX4_init 25 = .ok (.putfield 19, 3) := by decide +kernel
theorem dX4_init_28 : decode cX4_init 28 = .ok (.aload_n 0, 1) := by decide +kernel
theorem dX4_init_29 : decode cX4_init 29 = .ok (.lconst 1, 1) := by decide +kernel
theorem dX4_init_30 : decode cX4_init 30 = .ok (.putfield 23, 3) := by decide +kernel
theorem dX4_init_33 : decode cX4_init 33 = .ok (.aload_n 0, 1) := by decide +kernel
theorem dX4_init_34 : decode cX4_init 34 = .ok (.bipush 30, 2) := by decide +kernel
theorem dX4_init_36 : decode cX4_init 36 = .ok (.newarray .int, 2) := by decide +kernel
theorem dX4_init_38 : decode cX4_init 38 = .ok (.putfield 27, 3) := by decide +kernel
theorem dX4_init_41 : decode cX4_init 41 = .ok (.aload_n 0, 1) := by decide +kernel
theorem dX4_init_42 : decode cX4_init 42 = .ok (.bipush 30, 2) := by decide +kernel
theorem dX4_init_44 : decode cX4_init 44 = .ok (.newarray .int, 2) := by decide +kernel
theorem dX4_init_46 : decode cX4_init 46 = .ok (.putfield 31, 3) := by decide +kernel
theorem dX4_init_49 : decode cX4_init 49 = .ok (.aload_n 0, 1) := by decide +kernel
theorem dX4_init_50 : decode cX4_init 50 = .ok (.invokevirtual 34, 3) := by decide +kernel
theorem dX4_init_53 : decode cX4_init 53 = .ok (.return_, 1) := by decide +kernel
theorem dX4_in_0 : decode cX4_in 0 = .ok (.lload_n 0, 1) := by decide +kernel
theorem dX4_in_1 : decode cX4_in 1 = .ok (.lload_n 2, 1) := by decide +kernel
theorem dX4_in_2 : decode cX4_in 2 = .ok (.lcmp, 1) := by decide +kernel
theorem dX4_in_3 : decode cX4_in 3 = .ok (.ifCond .lt 14, 3) := by decide +kernel
theorem dX4_in_6 : decode cX4_in 6 = .ok (.lload_n 0, 1) := by decide +kernel
theorem dX4_in_7 : decode cX4_in 7 = .ok (.lload 4, 2) := by decide +kernel
theorem dX4_in_9 : decode cX4_in 9 = .ok (.lcmp, 1) := by decide +kernel
theorem dX4_in_10 : decode cX4_in 10 = .ok (.ifCond .gt 7, 3) := by decide +kernel
theorem dX4_in_13 : decode cX4_in 13 = .ok (.iconst 1, 1) := by decide +kernel
theorem dX4_in_14 : decode cX4_in 14 = .ok (.goto 4, 3) := by decide +kernel
theorem dX4_in_17 : decode cX4_in 17 = .ok (.iconst 0, 1) := by decide +kernel
theorem dX4_in_18 : decode cX4_in 18 = .ok (.ireturn, 1) := by decide +kernel
theorem dX4_weigh_0 : decode cX4_weigh 0 = .ok (.aload_n 0, 1) := by decide +kernel
theorem dX4_weigh_1 : decode cX4_weigh 1 = .ok (.getfield 19, 3) := by decide +kernel
theorem dX4_weigh_4 : decode cX4_weigh 4 = .ok (.iconst 1, 1) := by decide +kernel
theorem dX4_weigh_5 : decode cX4_weigh 5 = .ok (.iload_n 1, 1) := by decide +kernel
theorem dX4_weigh_6 : decode cX4_weigh 6 = .ok (.ishl, 1) := by decide +kernel
theorem dX4_weigh_7 : decode cX4_weigh 7 = .ok (.iconst 1, 1) := by decide +kernel
theorem dX4_weigh_8 : decode cX4_weigh 8 = .ok (.isub, 1) := by decide +kernel
theorem dX4_weigh_9 : decode cX4_weigh 9 = .ok (.iload_n 2, 1) := by decide +kernel
theorem dX4_weigh_10 : decode cX4_weigh 10 = .ok (.iadd, 1) := by decide +kernel
theorem dX4_weigh_11 : decode cX4_weigh 11 = .ok (.laload, 1) := by decide +kernel
theorem dX4_weigh_12 : decode cX4_weigh 12 = .ok (.lreturn, 1) := by decide +kernel
set_option maxRecDepth 20000 in
theorem ggX4_fills_X4_weigh : GoodIn wsX4_fills wsX4_weigh := goodIn_r _ [8, 1, 9, 10, 11, 12, 13, 14, 15, 16, 17, 18, 19, 20, 21] (by decide +kernel) (by decide +kernel)
set_option maxRecDepth 20000 in
theorem gX4_fills_X4_weigh : GoodIn wsX4_fills (wsV RX4 37 RX4 yX4_weigh wsX4_weigh) := goodIn_app (goodIn_of _ (by decide +kernel)) ggX4_fills_X4_weigh
theorem dX4_fills_0 : decode cX4_fills 0 = .ok (.aload_n 0, 1) := by decide +kernel
theorem dX4_fills_1 : decode cX4_fills 1 = .ok (.getfield 19, 3) := by decide +kernel
theorem dX4_fills_4 : decode cX4_fills 4 = .ok (.iconst 0, 1) := by decide +kernel
theorem dX4_fills_5 : decode cX4_fills 5 = .ok (.lconst 1, 1) := by decide +kernel
theorem dX4_fills_6 : decode cX4_fills 6 = .ok (.lastore, 1) := by decide +kernel
theorem dX4_fills_7 : decode cX4_fills 7 = .ok (.iconst 1, 1) := by decide +kernel
theorem dX4_fills_8 : decode cX4_fills 8 = .ok (.istore_n 1, 1) := by decide +kernel
theorem dX4_fills_9 : decode cX4_fills 9 = .ok (.iload_n 1, 1) := by decide +kernel
theorem dX4_fills_10 : decode cX4_fills 10 = .ok (.bipush 9, 2) := by decide +kernel
theorem dX4_fills_12 : decode cX4_fills 12 = .ok (.if_icmp .ge 166, 3) := by decide +kernel
theorem dX4_fills_15 : decode cX4_fills 15 = .ok (.iconst 0, 1) := by decide +kernel
theorem dX4_fills_16 : decode cX4_fills 16 = .ok (.istore_n 2, 1) := by decide +kernel
theorem dX4_fills_17 : decode cX4_fills 17 = .ok (.iload_n 2, 1) := by decide +kernel
theorem dX4_fills_18 : decode cX4_fills 18 = .ok (.iconst 1, 1) := by decide +kernel
theorem dX4_fills_19 : decode cX4_fills 19 = .ok (.iload_n 1, 1) := by decide +kernel
theorem dX4_fills_20 : decode cX4_fills 20 = .ok (.ishl, 1) := by decide +kernel
theorem dX4_fills_21 : decode cX4_fills 21 = .ok (.if_icmp .ge 151, 3) := by decide +kernel
theorem dX4_fills_24 : decode cX4_fills 24 = .ok (.iload_n 2, 1) := by decide +kernel
theorem dX4_fills_25 : decode cX4_fills 25 = .ok (.iconst 1, 1) := by decide +kernel
theorem dX4_fills_26 : decode cX4_fills 26 = .ok (.iand, 1) := by decide +kernel
theorem dX4_fills_27 : decode cX4_fills 27 = .ok (.ifCond .ne 23, 3) := by decide +kernel
theorem dX4_fills_30 : decode cX4_fills 30 = .ok (.aload_n 0, 1) := by decide +kernel
theorem dX4_fills_31 : decode cX4_fills 31 = .ok (.getfield 13, 3) := by decide +kernel
theorem dX4_fills_34 : decode cX4_fills 34 = .ok (.i2l, 1) := by decide +kernel
theorem dX4_fills_35 : decode cX4_fills 35 = .ok (.aload_n 0, 1) := by decide +kernel
theorem dX4_fills_36 : decode cX4_fills 36 = .ok (.iload_n 1, 1) := by decide +kernel
theorem dX4_fills_37 : decode cX4_fills 37 = .ok (.iconst 1, 1) := by decide +kernel
theorem dX4_fills_38 : decode cX4_fills 38 = .ok (.isub, 1) := by decide +kernel
theorem dX4_fills_39 : decode cX4_fills 39 = .ok (.iload_n 2, 1) := by decide +kernel
theorem dX4_fills_40 : decode cX4_fills 40 = .ok (.iconst 1, 1) := by decide +kernel
theorem dX4_fills_41 : decode cX4_fills 41 = .ok (.ishr, 1) := by decide +kernel
theorem dX4_fills_42 : decode cX4_fills 42 = .ok (.invokevirtual 37, 3) := by decide +kernel
theorem dX4_fills_45 : decode cX4_fills 45 = .ok (.lmul, 1) := by decide +kernel
theorem dX4_fills_46 : decode cX4_fills 46 = .ok (.lstore_n 3, 1) := by decide +kernel
theorem dX4_fills_47 : decode cX4_fills 47 = .ok (.goto 106, 3) := by decide +kernel
theorem dX4_fills_50 : decode cX4_fills 50 = .ok (.iload_n 2, 1) := by decide +kernel
theorem dX4_fills_51 : decode cX4_fills 51 = .ok (.iload_n 1, 1) := by decide +kernel
theorem dX4_fills_52 : decode cX4_fills 52 = .ok (.iconst 1, 1) := by decide +kernel
theorem dX4_fills_53 : decode cX4_fills 53 = .ok (.isub, 1) := by decide +kernel
theorem dX4_fills_54 : decode cX4_fills 54 = .ok (.ishr, 1) := by decide +kernel
theorem dX4_fills_55 : decode cX4_fills 55 = .ok (.iconst 1, 1) := by decide +kernel
theorem dX4_fills_56 : decode cX4_fills 56 = .ok (.iand, 1) := by decide +kernel
theorem dX4_fills_57 : decode cX4_fills 57 = .ok (.iconst 1, 1) := by decide +kernel
theorem dX4_fills_58 : decode cX4_fills 58 = .ok (.if_icmp .ne 29, 3) := by decide +kernel
theorem dX4_fills_61 : decode cX4_fills 61 = .ok (.aload_n 0, 1) := by decide +kernel
theorem dX4_fills_62 : decode cX4_fills 62 = .ok (.getfield 16, 3) := by decide +kernel
theorem dX4_fills_65 : decode cX4_fills 65 = .ok (.i2l, 1) := by decide +kernel
theorem dX4_fills_66 : decode cX4_fills 66 = .ok (.aload_n 0, 1) := by decide +kernel
theorem dX4_fills_67 : decode cX4_fills 67 = .ok (.iload_n 1, 1) := by decide +kernel
theorem dX4_fills_68 : decode cX4_fills 68 = .ok (.iconst 1, 1) := by decide +kernel
theorem dX4_fills_69 : decode cX4_fills 69 = .ok (.isub, 1) := by decide +kernel
theorem dX4_fills_70 : decode cX4_fills 70 = .ok (.iload_n 2, 1) := by decide +kernel
theorem dX4_fills_71 : decode cX4_fills 71 = .ok (.iconst 1, 1) := by decide +kernel
theorem dX4_fills_72 : decode cX4_fills 72 = .ok (.iload_n 1, 1) := by decide +kernel
theorem dX4_fills_73 : decode cX4_fills 73 = .ok (.iconst 1, 1) := by decide +kernel
theorem dX4_fills_74 : decode cX4_fills 74 = .ok (.isub, 1) := by decide +kernel
theorem dX4_fills_75 : decode cX4_fills 75 = .ok (.ishl, 1) := by decide +kernel
theorem dX4_fills_76 : decode cX4_fills 76 = .ok (.iconst 1, 1) := by decide +kernel
theorem dX4_fills_77 : decode cX4_fills 77 = .ok (.isub, 1) := by decide +kernel
theorem dX4_fills_78 : decode cX4_fills 78 = .ok (.iand, 1) := by decide +kernel
theorem dX4_fills_79 : decode cX4_fills 79 = .ok (.invokevirtual 37, 3) := by decide +kernel
theorem dX4_fills_82 : decode cX4_fills 82 = .ok (.lmul, 1) := by decide +kernel
theorem dX4_fills_83 : decode cX4_fills 83 = .ok (.lstore_n 3, 1) := by decide +kernel
theorem dX4_fills_84 : decode cX4_fills 84 = .ok (.goto 69, 3) := by decide +kernel
end
section
theorem dX4_fills_87 : decode cX4_fills 87 = .ok (.iconst 0, 1) := by decide +kernel
theorem dX4_fills_88 : decode cX4_fills 88 = .ok (.istore 5, 2) := by decide +kernel
theorem dX4_fills_90 : decode cX4_fills 90 = .ok (.iload_n 2, 1) := by decide +kernel
theorem dX4_fills_91 : decode cX4_fills 91 = .ok (.iload 5, 2) := by decide +kernel
theorem dX4_fills_93 : decode cX4_fills 93 = .ok (.ishr, 1) := by decide +kernel
theorem dX4_fills_94 : decode cX4_fills 94 = .ok (.iconst 3, 1) := by decide +kernel
theorem dX4_fills_95 : decode cX4_fills 95 = .ok (.iand, 1) := by decide +kernel
theorem dX4_fills_96 : decode cX4_fills 96 = .ok (.iconst 1, 1) := by decide +kernel
theorem dX4_fills_97 : decode cX4_fills 97 = .ok (.if_icmp .eq 9, 3) := by decide +kernel
theorem dX4_fills_100 : decode cX4_fills 100 = .ok (.iinc 5 1, 3) := by decide +kernel
theorem dX4_fills_103 : decode cX4_fills 103 = .ok (.goto (-13), 3) := by decide +kernel
theorem dX4_fills_106 : decode cX4_fills 106 = .ok (.iload_n 2, 1) := by decide +kernel
theorem dX4_fills_107 : decode cX4_fills 107 = .ok (.iconst 1, 1) := by decide +kernel
theorem dX4_fills_108 : decode cX4_fills 108 = .ok (.iload 5, 2) := by decide +kernel
theorem dX4_fills_110 : decode cX4_fills 110 = .ok (.ishl, 1) := by decide +kernel
theorem dX4_fills_111 : decode cX4_fills 111 = .ok (.iconst 1, 1) := by decide +kernel
theorem dX4_fills_112 : decode cX4_fills 112 = .ok (.isub, 1) := by decide +kernel
theorem dX4_fills_113 : decode cX4_fills 113 = .ok (.iand, 1) := by decide +kernel
theorem dX4_fills_114 : decode cX4_fills 114 = .ok (.iload_n 2, 1) := by decide +kernel
theorem dX4_fills_115 : decode cX4_fills 115 = .ok (.iload 5, 2) := by decide +kernel
theorem dX4_fills_117 : decode cX4_fills 117 = .ok (.iconst 2, 1) := by decide +kernel
theorem dX4_fills_118 : decode cX4_fills 118 = .ok (.iadd, 1) := by decide +kernel
theorem dX4_fills_119 : decode cX4_fills 119 = .ok (.ishr, 1) := by decide +kernel
theorem dX4_fills_120 : decode cX4_fills 120 = .ok (.iload 5, 2) := by decide +kernel
theorem dX4_fills_122 : decode cX4_fills 122 = .ok (.iconst 1, 1) := by decide +kernel
theorem dX4_fills_123 : decode cX4_fills 123 = .ok (.iadd, 1) := by decide +kernel
theorem dX4_fills_124 : decode cX4_fills 124 = .ok (.ishl, 1) := by decide +kernel
theorem dX4_fills_125 : decode cX4_fills 125 = .ok (.ior, 1) := by decide +kernel
theorem dX4_fills_126 : decode cX4_fills 126 = .ok (.istore 6, 2) := by decide +kernel
theorem dX4_fills_128 : decode cX4_fills 128 = .ok (.aload_n 0, 1) := by decide +kernel
theorem dX4_fills_129 : decode cX4_fills 129 = .ok (.iload_n 1, 1) := by decide +kernel
theorem dX4_fills_130 : decode cX4_fills 130 = .ok (.iconst 1, 1) := by decide +kernel
theorem dX4_fills_131 : decode cX4_fills 131 = .ok (.isub, 1) := by decide +kernel
theorem dX4_fills_132 : decode cX4_fills 132 = .ok (.iload 6, 2) := by decide +kernel
theorem dX4_fills_134 : decode cX4_fills 134 = .ok (.iconst 1, 1) := by decide +kernel
theorem dX4_fills_135 : decode cX4_fills 135 = .ok (.iload 5, 2) := by decide +kernel
theorem dX4_fills_137 : decode cX4_fills 137 = .ok (.ishl, 1) := by decide +kernel
theorem dX4_fills_138 : decode cX4_fills 138 = .ok (.ior, 1) := by decide +kernel
theorem dX4_fills_139 : decode cX4_fills 139 = .ok (.invokevirtual 37, 3) := by decide +kernel
theorem dX4_fills_142 : decode cX4_fills 142 = .ok (.aload_n 0, 1) := by decide +kernel
theorem dX4_fills_143 : decode cX4_fills 143 = .ok (.iload_n 1, 1) := by decide +kernel
theorem dX4_fills_144 : decode cX4_fills 144 = .ok (.iconst 1, 1) := by decide +kernel
theorem dX4_fills_145 : decode cX4_fills 145 = .ok (.isub, 1) := by decide +kernel
theorem dX4_fills_146 : decode cX4_fills 146 = .ok (.iload 6, 2) := by decide +kernel
theorem dX4_fills_148 : decode cX4_fills 148 = .ok (.invokevirtual 37, 3) := by decide +kernel
theorem dX4_fills_151 : decode cX4_fills 151 = .ok (.ladd, 1) := by decide +kernel
theorem dX4_fills_152 : decode cX4_fills 152 = .ok (.lstore_n 3, 1) := by decide +kernel
theorem dX4_fills_153 : decode cX4_fills 153 = .ok (.aload_n 0, 1) := by decide +kernel
theorem dX4_fills_154 : decode cX4_fills 154 = .ok (.getfield 19, 3) := by decide +kernel
theorem dX4_fills_157 : decode cX4_fills 157 = .ok (.iconst 1, 1) := by decide +kernel
theorem dX4_fills_158 : decode cX4_fills 158 = .ok (.iload_n 1, 1) := by decide +kernel
theorem dX4_fills_159 : decode cX4_fills 159 = .ok (.ishl, 1) := by decide +kernel
theorem dX4_fills_160 : decode cX4_fills 160 = .ok (.iconst 1, 1) := by decide +kernel
theorem dX4_fills_161 : decode cX4_fills 161 = .ok (.isub, 1) := by decide +kernel
theorem dX4_fills_162 : decode cX4_fills 162 = .ok (.iload_n 2, 1) := by decide +kernel
theorem dX4_fills_163 : decode cX4_fills 163 = .ok (.iadd, 1) := by decide +kernel
theorem dX4_fills_164 : decode cX4_fills 164 = .ok (.lload_n 3, 1) := by decide +kernel
theorem dX4_fills_165 : decode cX4_fills 165 = .ok (.lastore, 1) := by decide +kernel
theorem dX4_fills_166 : decode cX4_fills 166 = .ok (.iinc 2 1, 3) := by decide +kernel
theorem dX4_fills_169 : decode cX4_fills 169 = .ok (.goto (-152), 3) := by decide +kernel
theorem dX4_fills_172 : decode cX4_fills 172 = .ok (.iinc 1 1, 3) := by decide +kernel
theorem dX4_fills_175 : decode cX4_fills 175 = .ok (.goto (-166), 3) := by decide +kernel
theorem dX4_fills_178 : decode cX4_fills 178 = .ok (.return_, 1) := by decide +kernel
set_option maxRecDepth 20000 in
theorem ggX4_row_X4_in : GoodIn wsX4_row wsX4_in := goodIn_r _ [9] (by decide +kernel) (by decide +kernel)
set_option maxRecDepth 20000 in
theorem gX4_row_X4_in : GoodIn wsX4_row (va_wsS RX4 43 yX4_in wsX4_in) := goodIn_app (goodIn_of _ (by decide +kernel)) ggX4_row_X4_in
set_option maxRecDepth 20000 in
theorem ggX4_row_X4_fills : GoodIn wsX4_row wsX4_fills := goodIn_r _ [13, 14, 4, 5, 15, 16, 17, 8, 18, 19, 20, 21, 22, 23, 24, 25, 26, 27, 28, 29, 30, 31] (by decide +kernel) (by decide +kernel)
set_option maxRecDepth 20000 in
theorem gX4_row_X4_fills : GoodIn wsX4_row (wsV RX4 34 RX4 yX4_fills wsX4_fills) := goodIn_app (goodIn_of _ (by decide +kernel)) ggX4_row_X4_fills
theorem dX4_row_0 : decode cX4_row 0 = .ok (.iload_n 1, 1) := by decide +kernel
theorem dX4_row_1 : decode cX4_row 1 = .ok (.i2l, 1) := by decide +kernel
theorem dX4_row_2 : decode cX4_row 2 = .ok (.lconst 1, 1) := by decide +kernel
theorem dX4_row_3 : decode cX4_row 3 = .ok (.ldc2_w 41, 3) := by decide +kernel
theorem dX4_row_6 : decode cX4_row 6 = .ok (.invokestatic 43, 3) := by decide +kernel
theorem dX4_row_9 : decode cX4_row 9 = .ok (.ifCond .eq 27, 3) := by decide +kernel
theorem dX4_row_12 : decode cX4_row 12 = .ok (.iload_n 2, 1) := by decide +kernel
theorem dX4_row_13 : decode cX4_row 13 = .ok (.i2l, 1) := by decide +kernel
theorem dX4_row_14 : decode cX4_row 14 = .ok (.lconst 1, 1) := by decide +kernel
theorem dX4_row_15 : decode cX4_row 15 = .ok (.ldc2_w 47, 3) := by decide +kernel
theorem dX4_row_18 : decode cX4_row 18 = .ok (.invokestatic 43, 3) := by decide +kernel
theorem dX4_row_21 : decode cX4_row 21 = .ok (.ifCond .eq 15, 3) := by decide +kernel
theorem dX4_row_24 : decode cX4_row 24 = .ok (.iload_n 3, 1) := by decide +kernel
theorem dX4_row_25 : decode cX4_row 25 = .ok (.i2l, 1) := by decide +kernel
theorem dX4_row_26 : decode cX4_row 26 = .ok (.lconst 1, 1) := by decide +kernel
theorem dX4_row_27 : decode cX4_row 27 = .ok (.ldc2_w 47, 3) := by decide +kernel
theorem dX4_row_30 : decode cX4_row 30 = .ok (.invokestatic 43, 3) := by decide +kernel
theorem dX4_row_33 : decode cX4_row 33 = .ok (.ifCond .ne 5, 3) := by decide +kernel
theorem dX4_row_36 : decode cX4_row 36 = .ok (.iconst (-1), 1) := by decide +kernel
theorem dX4_row_37 : decode cX4_row 37 = .ok (.ireturn, 1) := by decide +kernel
theorem dX4_row_38 : decode cX4_row 38 = .ok (.aload_n 0, 1) := by decide +kernel
theorem dX4_row_39 : decode cX4_row 39 = .ok (.iload_n 1, 1) := by decide +kernel
theorem dX4_row_40 : decode cX4_row 40 = .ok (.putfield 7, 3) := by decide +kernel
theorem dX4_row_43 : decode cX4_row 43 = .ok (.aload_n 0, 1) := by decide +kernel
theorem dX4_row_44 : decode cX4_row 44 = .ok (.iload_n 2, 1) := by decide +kernel
theorem dX4_row_45 : decode cX4_row 45 = .ok (.putfield 13, 3) := by decide +kernel
theorem dX4_row_48 : decode cX4_row 48 = .ok (.aload_n 0, 1) := by decide +kernel
theorem dX4_row_49 : decode cX4_row 49 = .ok (.iload_n 3, 1) := by decide +kernel
theorem dX4_row_50 : decode cX4_row 50 = .ok (.putfield 16, 3) := by decide +kernel
theorem dX4_row_53 : decode cX4_row 53 = .ok (.aload_n 0, 1) := by decide +kernel
theorem dX4_row_54 : decode cX4_row 54 = .ok (.invokevirtual 34, 3) := by decide +kernel
theorem dX4_row_57 : decode cX4_row 57 = .ok (.iconst 1, 1) := by decide +kernel
theorem dX4_row_58 : decode cX4_row 58 = .ok (.aload_n 0, 1) := by decide +kernel
theorem dX4_row_59 : decode cX4_row 59 = .ok (.getfield 7, 3) := by decide +kernel
theorem dX4_row_62 : decode cX4_row 62 = .ok (.ishl, 1) := by decide +kernel
theorem dX4_row_63 : decode cX4_row 63 = .ok (.ireturn, 1) := by decide +kernel
set_option maxRecDepth 20000 in
theorem ggX4_isState_X4_in : GoodIn wsX4_isState wsX4_in := goodIn_r _ [5] (by decide +kernel) (by decide +kernel)
set_option maxRecDepth 20000 in
theorem gX4_isState_X4_in : GoodIn wsX4_isState (va_wsS RX4 43 yX4_in wsX4_in) := goodIn_app (goodIn_of _ (by decide +kernel)) ggX4_isState_X4_in
theorem dX4_isState_0 : decode cX4_isState 0 = .ok (.iload_n 1, 1) := by decide +kernel
theorem dX4_isState_1 : decode cX4_isState 1 = .ok (.i2l, 1) := by decide +kernel
theorem dX4_isState_2 : decode cX4_isState 2 = .ok (.lconst 0, 1) := by decide +kernel
theorem dX4_isState_3 : decode cX4_isState 3 = .ok (.iconst 1, 1) := by decide +kernel
theorem dX4_isState_4 : decode cX4_isState 4 = .ok (.aload_n 0, 1) := by decide +kernel
theorem dX4_isState_5 : decode cX4_isState 5 = .ok (.getfield 7, 3) := by decide +kernel
theorem dX4_isState_8 : decode cX4_isState 8 = .ok (.ishl, 1) := by decide +kernel
theorem dX4_isState_9 : decode cX4_isState 9 = .ok (.iconst 1, 1) := by decide +kernel
theorem dX4_isState_10 : decode cX4_isState 10 = .ok (.isub, 1) := by decide +kernel
theorem dX4_isState_11 : decode cX4_isState 11 = .ok (.i2l, 1) := by decide +kernel
theorem dX4_isState_12 : decode cX4_isState 12 = .ok (.invokestatic 43, 3) := by decide +kernel
theorem dX4_isState_15 : decode cX4_isState 15 = .ok (.ireturn, 1) := by decide +kernel
set_option maxRecDepth 20000 in
theorem ggX4_weight_X4_isState : GoodIn wsX4_weight wsX4_isState := goodIn_r _ [7, 1, 8, 9, 6, 10, 16, 17, 18, 19, 20, 21, 22, 23, 24, 25, 26, 27, 28] (by decide +kernel) (by decide +kernel)
set_option maxRecDepth 20000 in
theorem gX4_weight_X4_isState : GoodIn wsX4_weight (wsV RX4 49 RX4 yX4_isState wsX4_isState) := goodIn_app (goodIn_of _ (by decide +kernel)) ggX4_weight_X4_isState
set_option maxRecDepth 20000 in
theorem ggX4_weight_X4_weigh : GoodIn wsX4_weight wsX4_weigh := goodIn_r _ [14, 15, 16, 17, 18, 19, 20, 21, 22, 23, 24, 25, 26, 27, 28] (by decide +kernel) (by decide +kernel)
set_option maxRecDepth 20000 in
theorem gX4_weight_X4_weigh : GoodIn wsX4_weight (wsV RX4 37 RX4 yX4_weigh wsX4_weigh) := goodIn_app (goodIn_of _ (by decide +kernel)) ggX4_weight_X4_weigh
theorem dX4_weight_0 : decode cX4_weight 0 = .ok (.aload_n 0, 1) := by decide +kernel
theorem dX4_weight_1 : decode cX4_weight 1 = .ok (.iload_n 1, 1) := by decide +kernel
theorem dX4_weight_2 : decode cX4_weight 2 = .ok (.invokevirtual 49, 3) := by decide +kernel
theorem dX4_weight_5 : decode cX4_weight 5 = .ok (.ifCond .eq 15, 3) := by decide +kernel
theorem dX4_weight_8 : decode cX4_weight 8 = .ok (.aload_n 0, 1) := by decide +kernel
theorem dX4_weight_9 : decode cX4_weight 9 = .ok (.aload_n 0, 1) := by decide +kernel
theorem dX4_weight_10 : decode cX4_weight 10 = .ok (.getfield 7, 3) := by decide +kernel
theorem dX4_weight_13 : decode cX4_weight 13 = .ok (.iload_n 1, 1) := by decide +kernel
theorem dX4_weight_14 : decode cX4_weight 14 = .ok (.invokevirtual 37, 3) := by decide +kernel
theorem dX4_weight_17 : decode cX4_weight 17 = .ok (.goto 6, 3) := by decide +kernel
theorem dX4_weight_20 : decode cX4_weight 20 = .ok (.ldc2_w 53, 3) := by decide +kernel
theorem dX4_weight_23 : decode cX4_weight 23 = .ok (.lreturn, 1) := by decide +kernel
set_option maxRecDepth 20000 in
theorem ggX4_sumOf_X4_weigh : GoodIn wsX4_sumOf wsX4_weigh := goodIn_r _ [5, 6, 7, 8, 9, 10, 11, 12, 13, 14, 15, 16, 17, 18, 19] (by decide +kernel) (by decide +kernel)
set_option maxRecDepth 20000 in
theorem gX4_sumOf_X4_weigh : GoodIn wsX4_sumOf (wsV RX4 37 RX4 yX4_weigh wsX4_weigh) := goodIn_app (goodIn_of _ (by decide +kernel)) ggX4_sumOf_X4_weigh
theorem dX4_sumOf_0 : decode cX4_sumOf 0 = .ok (.lconst 0, 1) := by decide +kernel
theorem dX4_sumOf_1 : decode cX4_sumOf 1 = .ok (.lstore_n 2, 1) := by decide +kernel
theorem dX4_sumOf_2 : decode cX4_sumOf 2 = .ok (.iconst 0, 1) := by decide +kernel
theorem dX4_sumOf_3 : decode cX4_sumOf 3 = .ok (.istore 4, 2) := by decide +kernel
theorem dX4_sumOf_5 : decode cX4_sumOf 5 = .ok (.iload 4, 2) := by decide +kernel
theorem dX4_sumOf_7 : decode cX4_sumOf 7 = .ok (.iconst 1, 1) := by decide +kernel
theorem dX4_sumOf_8 : decode cX4_sumOf 8 = .ok (.iload_n 1, 1) := by decide +kernel
theorem dX4_sumOf_9 : decode cX4_sumOf 9 = .ok (.ishl, 1) := by decide +kernel
theorem dX4_sumOf_10 : decode cX4_sumOf 10 = .ok (.if_icmp .ge 19, 3) := by decide +kernel
theorem dX4_sumOf_13 : decode cX4_sumOf 13 = .ok (.lload_n 2, 1) := by decide +kernel
theorem dX4_sumOf_14 : decode cX4_sumOf 14 = .ok (.aload_n 0, 1) := by decide +kernel
theorem dX4_sumOf_15 : decode cX4_sumOf 15 = .ok (.iload_n 1, 1) := by decide +kernel
theorem dX4_sumOf_16 : decode cX4_sumOf 16 = .ok (.iload 4, 2) := by decide +kernel
theorem dX4_sumOf_18 : decode cX4_sumOf 18 = .ok (.invokevirtual 37, 3) := by decide +kernel
theorem dX4_sumOf_21 : decode cX4_sumOf 21 = .ok (.ladd, 1) := by decide +kernel
theorem dX4_sumOf_22 : decode cX4_sumOf 22 = .ok (.lstore_n 2, 1) := by decide +kernel
theorem dX4_sumOf_23 : decode cX4_sumOf 23 = .ok (.iinc 4 1, 3) := by decide +kernel
theorem dX4_sumOf_26 : decode cX4_sumOf 26 = .ok (.goto (-21), 3) := by decide +kernel
theorem dX4_sumOf_29 : decode cX4_sumOf 29 = .ok (.lload_n 2, 1) := by decide +kernel
theorem dX4_sumOf_30 : decode cX4_sumOf 30 = .ok (.lreturn, 1) := by decide +kernel
set_option maxRecDepth 20000 in
theorem ggX4_sum_X4_in : GoodIn wsX4_sum wsX4_in := goodIn_r _ [6] (by decide +kernel) (by decide +kernel)
set_option maxRecDepth 20000 in
theorem gX4_sum_X4_in : GoodIn wsX4_sum (va_wsS RX4 43 yX4_in wsX4_in) := goodIn_app (goodIn_of _ (by decide +kernel)) ggX4_sum_X4_in
set_option maxRecDepth 20000 in
theorem ggX4_sum_X4_sumOf : GoodIn wsX4_sum wsX4_sumOf := goodIn_r _ [10, 11, 12, 13, 5, 14, 15, 16, 17, 18, 19, 20, 21, 22, 23, 24, 25, 26, 27, 28] (by decide +kernel) (by decide +kernel)
set_option maxRecDepth 20000 in
theorem gX4_sum_X4_sumOf : GoodIn wsX4_sum (wsV RX4 55 RX4 yX4_sumOf wsX4_sumOf) := goodIn_app (goodIn_of _ (by decide +kernel)) ggX4_sum_X4_sumOf
theorem dX4_sum_0 : decode cX4_sum 0 = .ok (.iload_n 1, 1) := by decide +kernel
theorem dX4_sum_1 : decode cX4_sum 1 = .ok (.i2l, 1) := by decide +kernel
theorem dX4_sum_2 : decode cX4_sum 2 = .ok (.lconst 0, 1) := by decide +kernel
theorem dX4_sum_3 : decode cX4_sum 3 = .ok (.ldc2_w 41, 3) := by decide +kernel
theorem dX4_sum_6 : decode cX4_sum 6 = .ok (.invokestatic 43, 3) := by decide +kernel
theorem dX4_sum_9 : decode cX4_sum 9 = .ok (.ifCond .eq 11, 3) := by decide +kernel
theorem dX4_sum_12 : decode cX4_sum 12 = .ok (.aload_n 0, 1) := by decide +kernel
theorem dX4_sum_13 : decode cX4_sum 13 = .ok (.iload_n 1, 1) := by decide +kernel
theorem dX4_sum_14 : decode cX4_sum 14 = .ok (.invokevirtual 55, 3) := by decide +kernel
theorem dX4_sum_17 : decode cX4_sum 17 = .ok (.goto 6, 3) := by decide +kernel
theorem dX4_sum_20 : decode cX4_sum 20 = .ok (.ldc2_w 53, 3) := by decide +kernel
theorem dX4_sum_23 : decode cX4_sum 23 = .ok (.lreturn, 1) := by decide +kernel
theorem dX4_least_0 : decode cX4_least 0 = .ok (.lload_n 0, 1) := by decide +kernel
theorem dX4_least_1 : decode cX4_least 1 = .ok (.lstore 5, 2) := by decide +kernel
theorem dX4_least_3 : decode cX4_least 3 = .ok (.lload_n 2, 1) := by decide +kernel
theorem dX4_least_4 : decode cX4_least 4 = .ok (.lstore 7, 2) := by decide +kernel
theorem dX4_least_6 : decode cX4_least 6 = .ok (.lload 7, 2) := by decide +kernel
theorem dX4_least_8 : decode cX4_least 8 = .ok (.lconst 0, 1) := by decide +kernel
theorem dX4_least_9 : decode cX4_least 9 = .ok (.lcmp, 1) := by decide +kernel
theorem dX4_least_10 : decode cX4_least 10 = .ok (.ifCond .eq 21, 3) := by decide +kernel
theorem dX4_least_13 : decode cX4_least 13 = .ok (.lload 5, 2) := by decide +kernel
theorem dX4_least_15 : decode cX4_least 15 = .ok (.lload 7, 2) := by decide +kernel
theorem dX4_least_17 : decode cX4_least 17 = .ok (.lrem, 1) := by decide +kernel
theorem dX4_least_18 : decode cX4_least 18 = .ok (.lstore 9, 2) := by decide +kernel
theorem dX4_least_20 : decode cX4_least 20 = .ok (.lload 7, 2) := by decide +kernel
theorem dX4_least_22 : decode cX4_least 22 = .ok (.lstore 5, 2) := by decide +kernel
theorem dX4_least_24 : decode cX4_least 24 = .ok (.lload 9, 2) := by decide +kernel
theorem dX4_least_26 : decode cX4_least 26 = .ok (.lstore 7, 2) := by decide +kernel
theorem dX4_least_28 : decode cX4_least 28 = .ok (.goto (-22), 3) := by decide +kernel
theorem dX4_least_31 : decode cX4_least 31 = .ok (.iload 4, 2) := by decide +kernel
theorem dX4_least_33 : decode cX4_least 33 = .ok (.ifCond .ne 7, 3) := by decide +kernel
theorem dX4_least_36 : decode cX4_least 36 = .ok (.lload_n 0, 1) := by decide +kernel
theorem dX4_least_37 : decode cX4_least 37 = .ok (.goto 4, 3) := by decide +kernel
theorem dX4_least_40 : decode cX4_least 40 = .ok (.lload_n 2, 1) := by decide +kernel
theorem dX4_least_41 : decode cX4_least 41 = .ok (.lload 5, 2) := by decide +kernel
theorem dX4_least_43 : decode cX4_least 43 = .ok (.ldiv, 1) := by decide +kernel
theorem dX4_least_44 : decode cX4_least 44 = .ok (.lreturn, 1) := by decide +kernel
set_option maxRecDepth 20000 in
theorem ggX4_chance_X4_isState : GoodIn wsX4_chance wsX4_isState := goodIn_r _ [7, 1, 8, 9, 6, 10, 23, 24, 25, 26, 27, 28, 29, 30, 31, 32, 33, 34, 35] (by decide +kernel) (by decide +kernel)
set_option maxRecDepth 20000 in
theorem gX4_chance_X4_isState : GoodIn wsX4_chance (wsV RX4 49 RX4 yX4_isState wsX4_isState) := goodIn_app (goodIn_of _ (by decide +kernel)) ggX4_chance_X4_isState
set_option maxRecDepth 20000 in
theorem ggX4_chance_X4_in : GoodIn wsX4_chance wsX4_in := goodIn_r _ [10] (by decide +kernel) (by decide +kernel)
set_option maxRecDepth 20000 in
theorem gX4_chance_X4_in : GoodIn wsX4_chance (va_wsS RX4 43 yX4_in wsX4_in) := goodIn_app (goodIn_of _ (by decide +kernel)) ggX4_chance_X4_in
set_option maxRecDepth 20000 in
theorem ggX4_chance_X4_weigh : GoodIn wsX4_chance wsX4_weigh := goodIn_r _ [14, 15, 23, 24, 25, 26, 27, 28, 29, 30, 31, 32, 33, 34, 35] (by decide +kernel) (by decide +kernel)
set_option maxRecDepth 20000 in
theorem gX4_chance_X4_weigh : GoodIn wsX4_chance (wsV RX4 37 RX4 yX4_weigh wsX4_weigh) := goodIn_app (goodIn_of _ (by decide +kernel)) ggX4_chance_X4_weigh
set_option maxRecDepth 20000 in
theorem ggX4_chance_X4_sumOf : GoodIn wsX4_chance wsX4_sumOf := goodIn_r _ [19, 11, 12, 13, 6, 14, 15, 23, 24, 25, 26, 27, 28, 29, 30, 31, 32, 33, 34, 35] (by decide +kernel) (by decide +kernel)
set_option maxRecDepth 20000 in
theorem gX4_chance_X4_sumOf : GoodIn wsX4_chance (wsV RX4 55 RX4 yX4_sumOf wsX4_sumOf) := goodIn_app (goodIn_of _ (by decide +kernel)) ggX4_chance_X4_sumOf
set_option maxRecDepth 20000 in
theorem ggX4_chance_X4_least : GoodIn wsX4_chance wsX4_least := goodIn_r _ [22] (by decide +kernel) (by decide +kernel)
set_option maxRecDepth 20000 in
theorem gX4_chance_X4_least : GoodIn wsX4_chance (va_wsS RX4 59 yX4_least wsX4_least) := goodIn_app (goodIn_of _ (by decide +kernel)) ggX4_chance_X4_least
theorem dX4_chance_0 : decode cX4_chance 0 = .ok (.aload_n 0, 1) := by decide +kernel
theorem dX4_chance_1 : decode cX4_chance 1 = .ok (.iload_n 1, 1) := by decide +kernel
theorem dX4_chance_2 : decode cX4_chance 2 = .ok (.invokevirtual 49, 3) := by decide +kernel
theorem dX4_chance_5 : decode cX4_chance 5 = .ok (.ifCond .eq 37, 3) := by decide +kernel
theorem dX4_chance_8 : decode cX4_chance 8 = .ok (.iload_n 2, 1) := by decide +kernel
theorem dX4_chance_9 : decode cX4_chance 9 = .ok (.i2l, 1) := by decide +kernel
theorem dX4_chance_10 : decode cX4_chance 10 = .ok (.lconst 0, 1) := by decide +kernel
theorem dX4_chance_11 : decode cX4_chance 11 = .ok (.lconst 1, 1) := by decide +kernel
theorem dX4_chance_12 : decode cX4_chance 12 = .ok (.invokestatic 43, 3) := by decide +kernel
theorem dX4_chance_15 : decode cX4_chance 15 = .ok (.ifCond .eq 27, 3) := by decide +kernel
theorem dX4_chance_18 : decode cX4_chance 18 = .ok (.aload_n 0, 1) := by decide +kernel
theorem dX4_chance_19 : decode cX4_chance 19 = .ok (.aload_n 0, 1) := by decide +kernel
theorem dX4_chance_20 : decode cX4_chance 20 = .ok (.getfield 7, 3) := by decide +kernel
theorem dX4_chance_23 : decode cX4_chance 23 = .ok (.iload_n 1, 1) := by decide +kernel
theorem dX4_chance_24 : decode cX4_chance 24 = .ok (.invokevirtual 37, 3) := by decide +kernel
theorem dX4_chance_27 : decode cX4_chance 27 = .ok (.aload_n 0, 1) := by decide +kernel
theorem dX4_chance_28 : decode cX4_chance 28 = .ok (.aload_n 0, 1) := by decide +kernel
theorem dX4_chance_29 : decode cX4_chance 29 = .ok (.getfield 7, 3) := by decide +kernel
theorem dX4_chance_32 : decode cX4_chance 32 = .ok (.invokevirtual 55, 3) := by decide +kernel
theorem dX4_chance_35 : decode cX4_chance 35 = .ok (.iload_n 2, 1) := by decide +kernel
theorem dX4_chance_36 : decode cX4_chance 36 = .ok (.invokestatic 59, 3) := by decide +kernel
theorem dX4_chance_39 : decode cX4_chance 39 = .ok (.goto 6, 3) := by decide +kernel
theorem dX4_chance_42 : decode cX4_chance 42 = .ok (.ldc2_w 53, 3) := by decide +kernel
theorem dX4_chance_45 : decode cX4_chance 45 = .ok (.lreturn, 1) := by decide +kernel
set_option maxRecDepth 20000 in
theorem ggX4_current_X4_in : GoodIn wsX4_current wsX4_in := goodIn_r _ [6] (by decide +kernel) (by decide +kernel)
set_option maxRecDepth 20000 in
theorem gX4_current_X4_in : GoodIn wsX4_current (va_wsS RX4 43 yX4_in wsX4_in) := goodIn_app (goodIn_of _ (by decide +kernel)) ggX4_current_X4_in
set_option maxRecDepth 20000 in
theorem ggX4_current_X4_sumOf : GoodIn wsX4_current wsX4_sumOf := goodIn_r _ [10, 11, 12, 13, 5, 14, 15, 19, 20, 21, 22, 23, 24, 25, 26, 27, 28, 29, 30, 31] (by decide +kernel) (by decide +kernel)
set_option maxRecDepth 20000 in
theorem gX4_current_X4_sumOf : GoodIn wsX4_current (wsV RX4 55 RX4 yX4_sumOf wsX4_sumOf) := goodIn_app (goodIn_of _ (by decide +kernel)) ggX4_current_X4_sumOf
set_option maxRecDepth 20000 in
theorem ggX4_current_X4_least : GoodIn wsX4_current wsX4_least := goodIn_r _ [18] (by decide +kernel) (by decide +kernel)
set_option maxRecDepth 20000 in
theorem gX4_current_X4_least : GoodIn wsX4_current (va_wsS RX4 59 yX4_least wsX4_least) := goodIn_app (goodIn_of _ (by decide +kernel)) ggX4_current_X4_least
theorem dX4_current_0 : decode cX4_current 0 = .ok (.iload_n 1, 1) := by decide +kernel
theorem dX4_current_1 : decode cX4_current 1 = .ok (.i2l, 1) := by decide +kernel
theorem dX4_current_2 : decode cX4_current 2 = .ok (.lconst 0, 1) := by decide +kernel
theorem dX4_current_3 : decode cX4_current 3 = .ok (.lconst 1, 1) := by decide +kernel
theorem dX4_current_4 : decode cX4_current 4 = .ok (.invokestatic 43, 3) := by decide +kernel
theorem dX4_current_7 : decode cX4_current 7 = .ok (.ifCond .eq 28, 3) := by decide +kernel
theorem dX4_current_10 : decode cX4_current 10 = .ok (.aload_n 0, 1) := by decide +kernel
theorem dX4_current_11 : decode cX4_current 11 = .ok (.aload_n 0, 1) := by decide +kernel
theorem dX4_current_12 : decode cX4_current 12 = .ok (.getfield 7, 3) := by decide +kernel
theorem dX4_current_15 : decode cX4_current 15 = .ok (.iconst 1, 1) := by decide +kernel
theorem dX4_current_16 : decode cX4_current 16 = .ok (.isub, 1) := by decide +kernel
theorem dX4_current_17 : decode cX4_current 17 = .ok (.invokevirtual 55, 3) := by decide +kernel
theorem dX4_current_20 : decode cX4_current 20 = .ok (.aload_n 0, 1) := by decide +kernel
theorem dX4_current_21 : decode cX4_current 21 = .ok (.aload_n 0, 1) := by decide +kernel
theorem dX4_current_22 : decode cX4_current 22 = .ok (.getfield 7, 3) := by decide +kernel
theorem dX4_current_25 : decode cX4_current 25 = .ok (.invokevirtual 55, 3) := by decide +kernel
theorem dX4_current_28 : decode cX4_current 28 = .ok (.iload_n 1, 1) := by decide +kernel
theorem dX4_current_29 : decode cX4_current 29 = .ok (.invokestatic 59, 3) := by decide +kernel
theorem dX4_current_32 : decode cX4_current 32 = .ok (.goto 6, 3) := by decide +kernel
theorem dX4_current_35 : decode cX4_current 35 = .ok (.ldc2_w 53, 3) := by decide +kernel
theorem dX4_current_38 : decode cX4_current 38 = .ok (.lreturn, 1) := by decide +kernel
set_option maxRecDepth 20000 in
theorem ggX4_taken_X4_isState : GoodIn wsX4_taken wsX4_isState := goodIn_r _ [7, 2, 8, 9, 6, 10, 23, 24, 25, 26, 27, 28, 29, 30, 31, 32, 33, 34, 35] (by decide +kernel) (by decide +kernel)
set_option maxRecDepth 20000 in
theorem gX4_taken_X4_isState : GoodIn wsX4_taken (wsV RX4 49 RX4 yX4_isState wsX4_isState) := goodIn_app (goodIn_of _ (by decide +kernel)) ggX4_taken_X4_isState
set_option maxRecDepth 20000 in
theorem ggX4_taken_X4_in : GoodIn wsX4_taken wsX4_in := goodIn_r _ [10] (by decide +kernel) (by decide +kernel)
set_option maxRecDepth 20000 in
theorem gX4_taken_X4_in : GoodIn wsX4_taken (va_wsS RX4 43 yX4_in wsX4_in) := goodIn_app (goodIn_of _ (by decide +kernel)) ggX4_taken_X4_in
set_option maxRecDepth 20000 in
theorem ggX4_taken_X4_weigh : GoodIn wsX4_taken wsX4_weigh := goodIn_r _ [14, 15, 23, 24, 25, 26, 27, 28, 29, 30, 31, 32, 33, 34, 35] (by decide +kernel) (by decide +kernel)
set_option maxRecDepth 20000 in
theorem gX4_taken_X4_weigh : GoodIn wsX4_taken (wsV RX4 37 RX4 yX4_weigh wsX4_weigh) := goodIn_app (goodIn_of _ (by decide +kernel)) ggX4_taken_X4_weigh
set_option maxRecDepth 20000 in
theorem ggX4_taken_X4_sumOf : GoodIn wsX4_taken wsX4_sumOf := goodIn_r _ [19, 11, 12, 13, 6, 14, 15, 23, 24, 25, 26, 27, 28, 29, 30, 31, 32, 33, 34, 35] (by decide +kernel) (by decide +kernel)
set_option maxRecDepth 20000 in
theorem gX4_taken_X4_sumOf : GoodIn wsX4_taken (wsV RX4 55 RX4 yX4_sumOf wsX4_sumOf) := goodIn_app (goodIn_of _ (by decide +kernel)) ggX4_taken_X4_sumOf
set_option maxRecDepth 20000 in
theorem ggX4_taken_X4_least : GoodIn wsX4_taken wsX4_least := goodIn_r _ [22] (by decide +kernel) (by decide +kernel)
set_option maxRecDepth 20000 in
theorem gX4_taken_X4_least : GoodIn wsX4_taken (va_wsS RX4 59 yX4_least wsX4_least) := goodIn_app (goodIn_of _ (by decide +kernel)) ggX4_taken_X4_least
theorem dX4_taken_0 : decode cX4_taken 0 = .ok (.aload_n 0, 1) := by decide +kernel
theorem dX4_taken_1 : decode cX4_taken 1 = .ok (.iload_n 1, 1) := by decide +kernel
theorem dX4_taken_2 : decode cX4_taken 2 = .ok (.invokevirtual 49, 3) := by decide +kernel
theorem dX4_taken_5 : decode cX4_taken 5 = .ok (.ifCond .eq 13, 3) := by decide +kernel
theorem dX4_taken_8 : decode cX4_taken 8 = .ok (.iload_n 2, 1) := by decide +kernel
theorem dX4_taken_9 : decode cX4_taken 9 = .ok (.i2l, 1) := by decide +kernel
theorem dX4_taken_10 : decode cX4_taken 10 = .ok (.lconst 0, 1) := by decide +kernel
theorem dX4_taken_11 : decode cX4_taken 11 = .ok (.lconst 1, 1) := by decide +kernel
theorem dX4_taken_12 : decode cX4_taken 12 = .ok (.invokestatic 43, 3) := by decide +kernel
theorem dX4_taken_15 : decode cX4_taken 15 = .ok (.ifCond .ne 7, 3) := by decide +kernel
theorem dX4_taken_18 : decode cX4_taken 18 = .ok (.ldc2_w 53, 3) := by decide +kernel
theorem dX4_taken_21 : decode cX4_taken 21 = .ok (.lreturn, 1) := by decide +kernel
theorem dX4_taken_22 : decode cX4_taken 22 = .ok (.lconst 0, 1) := by decide +kernel
theorem dX4_taken_23 : decode cX4_taken 23 = .ok (.lstore_n 3, 1) := by decide +kernel
theorem dX4_taken_24 : decode cX4_taken 24 = .ok (.iconst 0, 1) := by decide +kernel
theorem dX4_taken_25 : decode cX4_taken 25 = .ok (.istore 5, 2) := by decide +kernel
theorem dX4_taken_27 : decode cX4_taken 27 = .ok (.iload 5, 2) := by decide +kernel
theorem dX4_taken_29 : decode cX4_taken 29 = .ok (.iconst 1, 1) := by decide +kernel
theorem dX4_taken_30 : decode cX4_taken 30 = .ok (.aload_n 0, 1) := by decide +kernel
theorem dX4_taken_31 : decode cX4_taken 31 = .ok (.getfield 7, 3) := by decide +kernel
theorem dX4_taken_34 : decode cX4_taken 34 = .ok (.ishl, 1) := by decide +kernel
theorem dX4_taken_35 : decode cX4_taken 35 = .ok (.if_icmp .ge 34, 3) := by decide +kernel
theorem dX4_taken_38 : decode cX4_taken 38 = .ok (.lload_n 3, 1) := by decide +kernel
theorem dX4_taken_39 : decode cX4_taken 39 = .ok (.iload 5, 2) := by decide +kernel
theorem dX4_taken_41 : decode cX4_taken 41 = .ok (.iload_n 1, 1) := by decide +kernel
theorem dX4_taken_42 : decode cX4_taken 42 = .ok (.iand, 1) := by decide +kernel
theorem dX4_taken_43 : decode cX4_taken 43 = .ok (.iload_n 1, 1) := by decide +kernel
theorem dX4_taken_44 : decode cX4_taken 44 = .ok (.if_icmp .ne 16, 3) := by decide +kernel
theorem dX4_taken_47 : decode cX4_taken 47 = .ok (.aload_n 0, 1) := by decide +kernel
theorem dX4_taken_48 : decode cX4_taken 48 = .ok (.aload_n 0, 1) := by decide +kernel
theorem dX4_taken_49 : decode cX4_taken 49 = .ok (.getfield 7, 3) := by decide +kernel
theorem dX4_taken_52 : decode cX4_taken 52 = .ok (.iload 5, 2) := by decide +kernel
theorem dX4_taken_54 : decode cX4_taken 54 = .ok (.invokevirtual 37, 3) := by decide +kernel
theorem dX4_taken_57 : decode cX4_taken 57 = .ok (.goto 4, 3) := by decide +kernel
theorem dX4_taken_60 : decode cX4_taken 60 = .ok (.lconst 0, 1) := by decide +kernel
theorem dX4_taken_61 : decode cX4_taken 61 = .ok (.ladd, 1) := by decide +kernel
theorem dX4_taken_62 : decode cX4_taken 62 = .ok (.lstore_n 3, 1) := by decide +kernel
theorem dX4_taken_63 : decode cX4_taken 63 = .ok (.iinc 5 1, 3) := by decide +kernel
theorem dX4_taken_66 : decode cX4_taken 66 = .ok (.goto (-39), 3) := by decide +kernel
theorem dX4_taken_69 : decode cX4_taken 69 = .ok (.lload_n 3, 1) := by decide +kernel
theorem dX4_taken_70 : decode cX4_taken 70 = .ok (.aload_n 0, 1) := by decide +kernel
theorem dX4_taken_71 : decode cX4_taken 71 = .ok (.aload_n 0, 1) := by decide +kernel
theorem dX4_taken_72 : decode cX4_taken 72 = .ok (.getfield 7, 3) := by decide +kernel
theorem dX4_taken_75 : decode cX4_taken 75 = .ok (.invokevirtual 55, 3) := by decide +kernel
theorem dX4_taken_78 : decode cX4_taken 78 = .ok (.iload_n 2, 1) := by decide +kernel
theorem dX4_taken_79 : decode cX4_taken 79 = .ok (.invokestatic 59, 3) := by decide +kernel
theorem dX4_taken_82 : decode cX4_taken 82 = .ok (.lreturn, 1) := by decide +kernel
theorem dX4_happens_0 : decode cX4_happens 0 = .ok (.iload_n 2, 1) := by decide +kernel
theorem dX4_happens_1 : decode cX4_happens 1 = .ok (.aload_n 0, 1) := by decide +kernel
theorem dX4_happens_2 : decode cX4_happens 2 = .ok (.getfield 7, 3) := by decide +kernel
theorem dX4_happens_5 : decode cX4_happens 5 = .ok (.if_icmp .ne 26, 3) := by decide +kernel
theorem dX4_happens_8 : decode cX4_happens 8 = .ok (.aload_n 0, 1) := by decide +kernel
theorem dX4_happens_9 : decode cX4_happens 9 = .ok (.iload_n 1, 1) := by decide +kernel
theorem dX4_happens_10 : decode cX4_happens 10 = .ok (.iconst 1, 1) := by decide +kernel
theorem dX4_happens_11 : decode cX4_happens 11 = .ok (.ior, 1) := by decide +kernel
theorem dX4_happens_12 : decode cX4_happens 12 = .ok (.putfield 63, 3) := by decide +kernel
theorem dX4_happens_15 : decode cX4_happens 15 = .ok (.iload_n 1, 1) := by decide +kernel
theorem dX4_happens_16 : decode cX4_happens 16 = .ok (.iconst 1, 1) := by decide +kernel
theorem dX4_happens_17 : decode cX4_happens 17 = .ok (.iand, 1) := by decide +kernel
theorem dX4_happens_18 : decode cX4_happens 18 = .ok (.ifCond .ne 11, 3) := by decide +kernel
theorem dX4_happens_21 : decode cX4_happens 21 = .ok (.aload_n 0, 1) := by decide +kernel
theorem dX4_happens_22 : decode cX4_happens 22 = .ok (.getfield 16, 3) := by decide +kernel
theorem dX4_happens_25 : decode cX4_happens 25 = .ok (.i2l, 1) := by decide +kernel
theorem dX4_happens_26 : decode cX4_happens 26 = .ok (.goto 4, 3) := by decide +kernel
theorem dX4_happens_29 : decode cX4_happens 29 = .ok (.lconst 0, 1) := by decide +kernel
theorem dX4_happens_30 : decode cX4_happens 30 = .ok (.lreturn, 1) := by decide +kernel
theorem dX4_happens_31 : decode cX4_happens 31 = .ok (.iload_n 2, 1) := by decide +kernel
theorem dX4_happens_32 : decode cX4_happens 32 = .ok (.aload_n 0, 1) := by decide +kernel
theorem dX4_happens_33 : decode cX4_happens 33 = .ok (.getfield 7, 3) := by decide +kernel
theorem dX4_happens_36 : decode cX4_happens 36 = .ok (.iconst 1, 1) := by decide +kernel
theorem dX4_happens_37 : decode cX4_happens 37 = .ok (.isub, 1) := by decide +kernel
theorem dX4_happens_38 : decode cX4_happens 38 = .ok (.if_icmp .ne 43, 3) := by decide +kernel
theorem dX4_happens_41 : decode cX4_happens 41 = .ok (.aload_n 0, 1) := by decide +kernel
theorem dX4_happens_42 : decode cX4_happens 42 = .ok (.iload_n 1, 1) := by decide +kernel
theorem dX4_happens_43 : decode cX4_happens 43 = .ok (.iconst 1, 1) := by decide +kernel
theorem dX4_happens_44 : decode cX4_happens 44 = .ok (.aload_n 0, 1) := by decide +kernel
theorem dX4_happens_45 : decode cX4_happens 45 = .ok (.getfield 7, 3) := by decide +kernel
theorem dX4_happens_48 : decode cX4_happens 48 = .ok (.iconst 1, 1) := by decide +kernel
theorem dX4_happens_49 : decode cX4_happens 49 = .ok (.isub, 1) := by decide +kernel
theorem dX4_happens_50 : decode cX4_happens 50 = .ok (.ishl, 1) := by decide +kernel
theorem dX4_happens_51 : decode cX4_happens 51 = .ok (.iconst (-1), 1) := by decide +kernel
theorem dX4_happens_52 : decode cX4_happens 52 = .ok (.ixor, 1) := by decide +kernel
theorem dX4_happens_53 : decode cX4_happens 53 = .ok (.iand, 1) := by decide +kernel
theorem dX4_happens_54 : decode cX4_happens 54 = .ok (.putfield 63, 3) := by decide +kernel
theorem dX4_happens_57 : decode cX4_happens 57 = .ok (.iload_n 1, 1) := by decide +kernel
theorem dX4_happens_58 : decode cX4_happens 58 = .ok (.aload_n 0, 1) := by decide +kernel
theorem dX4_happens_59 : decode cX4_happens 59 = .ok (.getfield 7, 3) := by decide +kernel
theorem dX4_happens_62 : decode cX4_happens 62 = .ok (.iconst 1, 1) := by decide +kernel
theorem dX4_happens_63 : decode cX4_happens 63 = .ok (.isub, 1) := by decide +kernel
theorem dX4_happens_64 : decode cX4_happens 64 = .ok (.ishr, 1) := by decide +kernel
theorem dX4_happens_65 : decode cX4_happens 65 = .ok (.iconst 1, 1) := by decide +kernel
theorem dX4_happens_66 : decode cX4_happens 66 = .ok (.iand, 1) := by decide +kernel
theorem dX4_happens_67 : decode cX4_happens 67 = .ok (.iconst 1, 1) := by decide +kernel
theorem dX4_happens_68 : decode cX4_happens 68 = .ok (.if_icmp .ne 11, 3) := by decide +kernel
theorem dX4_happens_71 : decode cX4_happens 71 = .ok (.aload_n 0, 1) := by decide +kernel
theorem dX4_happens_72 : decode cX4_happens 72 = .ok (.getfield 13, 3) := by decide +kernel
theorem dX4_happens_75 : decode cX4_happens 75 = .ok (.i2l, 1) := by decide +kernel
theorem dX4_happens_76 : decode cX4_happens 76 = .ok (.goto 4, 3) := by decide +kernel
theorem dX4_happens_79 : decode cX4_happens 79 = .ok (.lconst 0, 1) := by decide +kernel
theorem dX4_happens_80 : decode cX4_happens 80 = .ok (.lreturn, 1) := by decide +kernel
theorem dX4_happens_81 : decode cX4_happens 81 = .ok (.aload_n 0, 1) := by decide +kernel
theorem dX4_happens_82 : decode cX4_happens 82 = .ok (.iload_n 1, 1) := by decide +kernel
theorem dX4_happens_83 : decode cX4_happens 83 = .ok (.iconst 1, 1) := by decide +kernel
theorem dX4_happens_84 : decode cX4_happens 84 = .ok (.iload_n 2, 1) := by decide +kernel
theorem dX4_happens_85 : decode cX4_happens 85 = .ok (.ishl, 1) := by decide +kernel
theorem dX4_happens_86 : decode cX4_happens 86 = .ok (.iconst (-1), 1) := by decide +kernel
theorem dX4_happens_87 : decode cX4_happens 87 = .ok (.ixor, 1) := by decide +kernel
theorem dX4_happens_88 : decode cX4_happens 88 = .ok (.iand, 1) := by decide +kernel
theorem dX4_happens_89 : decode cX4_happens 89 = .ok (.iconst 1, 1) := by decide +kernel
theorem dX4_happens_90 : decode cX4_happens 90 = .ok (.iload_n 2, 1) := by decide +kernel
theorem dX4_happens_91 : decode cX4_happens 91 = .ok (.iconst 1, 1) := by decide +kernel
theorem dX4_happens_92 : decode cX4_happens 92 = .ok (.iadd, 1) := by decide +kernel
theorem dX4_happens_93 : decode cX4_happens 93 = .ok (.ishl, 1) := by decide +kernel
theorem dX4_happens_94 : decode cX4_happens 94 = .ok (.ior, 1) := by decide +kernel
theorem dX4_happens_95 : decode cX4_happens 95 = .ok (.putfield 63, 3) := by decide +kernel
theorem dX4_happens_98 : decode cX4_happens 98 = .ok (.iload_n 1, 1) := by decide +kernel
theorem dX4_happens_99 : decode cX4_happens 99 = .ok (.iload_n 2, 1) := by decide +kernel
theorem dX4_happens_100 : decode cX4_happens 100 = .ok (.ishr, 1) := by decide +kernel
theorem dX4_happens_101 : decode cX4_happens 101 = .ok (.iconst 3, 1) := by decide +kernel
theorem dX4_happens_102 : decode cX4_happens 102 = .ok (.iand, 1) := by decide +kernel
theorem dX4_happens_103 : decode cX4_happens 103 = .ok (.iconst 1, 1) := by decide +kernel
theorem dX4_happens_104 : decode cX4_happens 104 = .ok (.if_icmp .ne 17, 3) := by decide +kernel
theorem dX4_happens_107 : decode cX4_happens 107 = .ok (.aload_n 0, 1) := by decide +kernel
theorem dX4_happens_108 : decode cX4_happens 108 = .ok (.getfield 13, 3) := by decide +kernel
theorem dX4_happens_111 : decode cX4_happens 111 = .ok (.i2l, 1) := by decide +kernel
theorem dX4_happens_112 : decode cX4_happens 112 = .ok (.aload_n 0, 1) := by decide +kernel
theorem dX4_happens_113 : decode cX4_happens 113 = .ok (.getfield 16, 3) := by decide +kernel
theorem dX4_happens_116 : decode cX4_happens 116 = .ok (.i2l, 1) := by decide +kernel
theorem dX4_happens_117 : decode cX4_happens 117 = .ok (.lmul, 1) := by decide +kernel
theorem dX4_happens_118 : decode cX4_happens 118 = .ok (.goto 4, 3) := by decide +kernel
theorem dX4_happens_121 : decode cX4_happens 121 = .ok (.lconst 0, 1) := by decide +kernel
theorem dX4_happens_122 : decode cX4_happens 122 = .ok (.lreturn, 1) := by decide +kernel
set_option maxRecDepth 20000 in
theorem ggX4_flow_X4_isState : GoodIn wsX4_flow wsX4_isState := goodIn_r _ [8, 2, 9, 10, 7, 11, 23, 24, 25, 26, 27, 28, 29, 30, 31, 32, 33, 34, 35] (by decide +kernel) (by decide +kernel)
set_option maxRecDepth 20000 in
theorem gX4_flow_X4_isState : GoodIn wsX4_flow (wsV RX4 49 RX4 yX4_isState wsX4_isState) := goodIn_app (goodIn_of _ (by decide +kernel)) ggX4_flow_X4_isState
set_option maxRecDepth 20000 in
theorem ggX4_flow_X4_in : GoodIn wsX4_flow wsX4_in := goodIn_r _ [11] (by decide +kernel) (by decide +kernel)
set_option maxRecDepth 20000 in
theorem gX4_flow_X4_in : GoodIn wsX4_flow (va_wsS RX4 43 yX4_in wsX4_in) := goodIn_app (goodIn_of _ (by decide +kernel)) ggX4_flow_X4_in
set_option maxRecDepth 20000 in
theorem ggX4_flow_X4_weigh : GoodIn wsX4_flow wsX4_weigh := goodIn_r _ [15, 16, 23, 24, 25, 26, 27, 28, 29, 30, 31, 32, 33, 34, 35] (by decide +kernel) (by decide +kernel)
set_option maxRecDepth 20000 in
theorem gX4_flow_X4_weigh : GoodIn wsX4_flow (wsV RX4 37 RX4 yX4_weigh wsX4_weigh) := goodIn_app (goodIn_of _ (by decide +kernel)) ggX4_flow_X4_weigh
set_option maxRecDepth 20000 in
theorem ggX4_flow_X4_happens : GoodIn wsX4_flow wsX4_happens := goodIn_r _ [20, 2, 3, 21, 22, 23, 24, 25, 26, 27, 28, 29, 30, 31, 32, 33, 34, 35] (by decide +kernel) (by decide +kernel)
set_option maxRecDepth 20000 in
theorem gX4_flow_X4_happens : GoodIn wsX4_flow (wsV RX4 66 RX4 yX4_happens wsX4_happens) := goodIn_app (goodIn_of _ (by decide +kernel)) ggX4_flow_X4_happens
theorem dX4_flow_0 : decode cX4_flow 0 = .ok (.aload_n 0, 1) := by decide +kernel
theorem dX4_flow_1 : decode cX4_flow 1 = .ok (.iload_n 1, 1) := by decide +kernel
theorem dX4_flow_2 : decode cX4_flow 2 = .ok (.invokevirtual 49, 3) := by decide +kernel
theorem dX4_flow_5 : decode cX4_flow 5 = .ok (.ifCond .eq 13, 3) := by decide +kernel
theorem dX4_flow_8 : decode cX4_flow 8 = .ok (.iload_n 2, 1) := by decide +kernel
theorem dX4_flow_9 : decode cX4_flow 9 = .ok (.i2l, 1) := by decide +kernel
theorem dX4_flow_10 : decode cX4_flow 10 = .ok (.lconst 0, 1) := by decide +kernel
theorem dX4_flow_11 : decode cX4_flow 11 = .ok (.lconst 1, 1) := by decide +kernel
theorem dX4_flow_12 : decode cX4_flow 12 = .ok (.invokestatic 43, 3) := by decide +kernel
theorem dX4_flow_15 : decode cX4_flow 15 = .ok (.ifCond .ne 7, 3) := by decide +kernel
theorem dX4_flow_18 : decode cX4_flow 18 = .ok (.ldc2_w 53, 3) := by decide +kernel
theorem dX4_flow_21 : decode cX4_flow 21 = .ok (.lreturn, 1) := by decide +kernel
theorem dX4_flow_22 : decode cX4_flow 22 = .ok (.lconst 0, 1) := by decide +kernel
theorem dX4_flow_23 : decode cX4_flow 23 = .ok (.lstore_n 3, 1) := by decide +kernel
theorem dX4_flow_24 : decode cX4_flow 24 = .ok (.iconst 0, 1) := by decide +kernel
theorem dX4_flow_25 : decode cX4_flow 25 = .ok (.istore 5, 2) := by decide +kernel
theorem dX4_flow_27 : decode cX4_flow 27 = .ok (.iload 5, 2) := by decide +kernel
theorem dX4_flow_29 : decode cX4_flow 29 = .ok (.aload_n 0, 1) := by decide +kernel
theorem dX4_flow_30 : decode cX4_flow 30 = .ok (.getfield 7, 3) := by decide +kernel
theorem dX4_flow_33 : decode cX4_flow 33 = .ok (.if_icmp .gt 102, 3) := by decide +kernel
theorem dX4_flow_36 : decode cX4_flow 36 = .ok (.iload_n 2, 1) := by decide +kernel
theorem dX4_flow_37 : decode cX4_flow 37 = .ok (.iconst 1, 1) := by decide +kernel
theorem dX4_flow_38 : decode cX4_flow 38 = .ok (.if_icmp .ne 26, 3) := by decide +kernel
theorem dX4_flow_41 : decode cX4_flow 41 = .ok (.lload_n 3, 1) := by decide +kernel
theorem dX4_flow_42 : decode cX4_flow 42 = .ok (.aload_n 0, 1) := by decide +kernel
theorem dX4_flow_43 : decode cX4_flow 43 = .ok (.aload_n 0, 1) := by decide +kernel
theorem dX4_flow_44 : decode cX4_flow 44 = .ok (.getfield 7, 3) := by decide +kernel
theorem dX4_flow_47 : decode cX4_flow 47 = .ok (.iload_n 1, 1) := by decide +kernel
theorem dX4_flow_48 : decode cX4_flow 48 = .ok (.invokevirtual 37, 3) := by decide +kernel
theorem dX4_flow_51 : decode cX4_flow 51 = .ok (.aload_n 0, 1) := by decide +kernel
theorem dX4_flow_52 : decode cX4_flow 52 = .ok (.iload_n 1, 1) := by decide +kernel
theorem dX4_flow_53 : decode cX4_flow 53 = .ok (.iload 5, 2) := by decide +kernel
theorem dX4_flow_55 : decode cX4_flow 55 = .ok (.invokevirtual 66, 3) := by decide +kernel
theorem dX4_flow_58 : decode cX4_flow 58 = .ok (.lmul, 1) := by decide +kernel
theorem dX4_flow_59 : decode cX4_flow 59 = .ok (.ladd, 1) := by decide +kernel
theorem dX4_flow_60 : decode cX4_flow 60 = .ok (.lstore_n 3, 1) := by decide +kernel
theorem dX4_flow_61 : decode cX4_flow 61 = .ok (.goto 68, 3) := by decide +kernel
theorem dX4_flow_64 : decode cX4_flow 64 = .ok (.iconst 0, 1) := by decide +kernel
theorem dX4_flow_65 : decode cX4_flow 65 = .ok (.istore 6, 2) := by decide +kernel
theorem dX4_flow_67 : decode cX4_flow 67 = .ok (.iload 6, 2) := by decide +kernel
theorem dX4_flow_69 : decode cX4_flow 69 = .ok (.iconst 1, 1) := by decide +kernel
theorem dX4_flow_70 : decode cX4_flow 70 = .ok (.aload_n 0, 1) := by decide +kernel
theorem dX4_flow_71 : decode cX4_flow 71 = .ok (.getfield 7, 3) := by decide +kernel
theorem dX4_flow_74 : decode cX4_flow 74 = .ok (.ishl, 1) := by decide +kernel
theorem dX4_flow_75 : decode cX4_flow 75 = .ok (.if_icmp .ge 54, 3) := by decide +kernel
theorem dX4_flow_78 : decode cX4_flow 78 = .ok (.aload_n 0, 1) := by decide +kernel
theorem dX4_flow_79 : decode cX4_flow 79 = .ok (.iload 6, 2) := by decide +kernel
theorem dX4_flow_81 : decode cX4_flow 81 = .ok (.iload 5, 2) := by decide +kernel
theorem dX4_flow_83 : decode cX4_flow 83 = .ok (.invokevirtual 66, 3) := by decide +kernel
theorem dX4_flow_86 : decode cX4_flow 86 = .ok (.lstore 7, 2) := by decide +kernel
theorem dX4_flow_88 : decode cX4_flow 88 = .ok (.lload_n 3, 1) := by decide +kernel
theorem dX4_flow_89 : decode cX4_flow 89 = .ok (.lload 7, 2) := by decide +kernel
theorem dX4_flow_91 : decode cX4_flow 91 = .ok (.lconst 0, 1) := by decide +kernel
theorem dX4_flow_92 : decode cX4_flow 92 = .ok (.lcmp, 1) := by decide +kernel
theorem dX4_flow_93 : decode cX4_flow 93 = .ok (.ifCond .le 27, 3) := by decide +kernel
theorem dX4_flow_96 : decode cX4_flow 96 = .ok (.aload_n 0, 1) := by decide +kernel
theorem dX4_flow_97 : decode cX4_flow 97 = .ok (.getfield 63, 3) := by decide +kernel
theorem dX4_flow_100 : decode cX4_flow 100 = .ok (.iload_n 1, 1) := by decide +kernel
theorem dX4_flow_101 : decode cX4_flow 101 = .ok (.if_icmp .ne 19, 3) := by decide +kernel
theorem dX4_flow_104 : decode cX4_flow 104 = .ok (.aload_n 0, 1) := by decide +kernel
theorem dX4_flow_105 : decode cX4_flow 105 = .ok (.aload_n 0, 1) := by decide +kernel
theorem dX4_flow_106 : decode cX4_flow 106 = .ok (.getfield 7, 3) := by decide +kernel
theorem dX4_flow_109 : decode cX4_flow 109 = .ok (.iload 6, 2) := by decide +kernel
theorem dX4_flow_111 : decode cX4_flow 111 = .ok (.invokevirtual 37, 3) := by decide +kernel
theorem dX4_flow_114 : decode cX4_flow 114 = .ok (.lload 7, 2) := by decide +kernel
theorem dX4_flow_116 : decode cX4_flow 116 = .ok (.lmul, 1) := by decide +kernel
theorem dX4_flow_117 : decode cX4_flow 117 = .ok (.goto 4, 3) := by decide +kernel
theorem dX4_flow_120 : decode cX4_flow 120 = .ok (.lconst 0, 1) := by decide +kernel
theorem dX4_flow_121 : decode cX4_flow 121 = .ok (.ladd, 1) := by decide +kernel
theorem dX4_flow_122 : decode cX4_flow 122 = .ok (.lstore_n 3, 1) := by decide +kernel
theorem dX4_flow_123 : decode cX4_flow 123 = .ok (.iinc 6 1, 3) := by decide +kernel
theorem dX4_flow_126 : decode cX4_flow 126 = .ok (.goto (-59), 3) := by decide +kernel
theorem dX4_flow_129 : decode cX4_flow 129 = .ok (.iinc 5 1, 3) := by decide +kernel
theorem dX4_flow_132 : decode cX4_flow 132 = .ok (.goto (-105), 3) := by decide +kernel
theorem dX4_flow_135 : decode cX4_flow 135 = .ok (.lload_n 3, 1) := by decide +kernel
theorem dX4_flow_136 : decode cX4_flow 136 = .ok (.lreturn, 1) := by decide +kernel
set_option maxRecDepth 20000 in
theorem ggX4_extreme_X4_in : GoodIn wsX4_extreme wsX4_in := goodIn_r _ [5] (by decide +kernel) (by decide +kernel)
set_option maxRecDepth 20000 in
theorem gX4_extreme_X4_in : GoodIn wsX4_extreme (va_wsS RX4 43 yX4_in wsX4_in) := goodIn_app (goodIn_of _ (by decide +kernel)) ggX4_extreme_X4_in
set_option maxRecDepth 20000 in
theorem ggX4_extreme_X4_weigh : GoodIn wsX4_extreme wsX4_weigh := goodIn_r _ [9, 10, 11, 12, 13, 14, 15, 16, 17, 18, 19, 20, 21, 22, 23] (by decide +kernel) (by decide +kernel)
set_option maxRecDepth 20000 in
theorem gX4_extreme_X4_weigh : GoodIn wsX4_extreme (wsV RX4 37 RX4 yX4_weigh wsX4_weigh) := goodIn_app (goodIn_of _ (by decide +kernel)) ggX4_extreme_X4_weigh
theorem dX4_extreme_0 : decode cX4_extreme 0 = .ok (.iload_n 1, 1) := by decide +kernel
theorem dX4_extreme_1 : decode cX4_extreme 1 = .ok (.i2l, 1) := by decide +kernel
theorem dX4_extreme_2 : decode cX4_extreme 2 = .ok (.lconst 0, 1) := by decide +kernel
theorem dX4_extreme_3 : decode cX4_extreme 3 = .ok (.lconst 1, 1) := by decide +kernel
theorem dX4_extreme_4 : decode cX4_extreme 4 = .ok (.invokestatic 43, 3) := by decide +kernel
theorem dX4_extreme_7 : decode cX4_extreme 7 = .ok (.ifCond .ne 5, 3) := by decide +kernel
theorem dX4_extreme_10 : decode cX4_extreme 10 = .ok (.iconst (-1), 1) := by decide +kernel
theorem dX4_extreme_11 : decode cX4_extreme 11 = .ok (.ireturn, 1) := by decide +kernel
theorem dX4_extreme_12 : decode cX4_extreme 12 = .ok (.iconst 0, 1) := by decide +kernel
theorem dX4_extreme_13 : decode cX4_extreme 13 = .ok (.istore_n 2, 1) := by decide +kernel
theorem dX4_extreme_14 : decode cX4_extreme 14 = .ok (.iconst 1, 1) := by decide +kernel
theorem dX4_extreme_15 : decode cX4_extreme 15 = .ok (.istore_n 3, 1) := by decide +kernel
theorem dX4_extreme_16 : decode cX4_extreme 16 = .ok (.iload_n 3, 1) := by decide +kernel
theorem dX4_extreme_17 : decode cX4_extreme 17 = .ok (.iconst 1, 1) := by decide +kernel
theorem dX4_extreme_18 : decode cX4_extreme 18 = .ok (.aload_n 0, 1) := by decide +kernel
theorem dX4_extreme_19 : decode cX4_extreme 19 = .ok (.getfield 7, 3) := by decide +kernel
theorem dX4_extreme_22 : decode cX4_extreme 22 = .ok (.ishl, 1) := by decide +kernel
theorem dX4_extreme_23 : decode cX4_extreme 23 = .ok (.if_icmp .ge 83, 3) := by decide +kernel
theorem dX4_extreme_26 : decode cX4_extreme 26 = .ok (.iload_n 1, 1) := by decide +kernel
theorem dX4_extreme_27 : decode cX4_extreme 27 = .ok (.ifCond .ne 33, 3) := by decide +kernel
theorem dX4_extreme_30 : decode cX4_extreme 30 = .ok (.aload_n 0, 1) := by decide +kernel
theorem dX4_extreme_31 : decode cX4_extreme 31 = .ok (.aload_n 0, 1) := by decide +kernel
theorem dX4_extreme_32 : decode cX4_extreme 32 = .ok (.getfield 7, 3) := by decide +kernel
theorem dX4_extreme_35 : decode cX4_extreme 35 = .ok (.iload_n 3, 1) := by decide +kernel
theorem dX4_extreme_36 : decode cX4_extreme 36 = .ok (.invokevirtual 37, 3) := by decide +kernel
theorem dX4_extreme_39 : decode cX4_extreme 39 = .ok (.aload_n 0, 1) := by decide +kernel
theorem dX4_extreme_40 : decode cX4_extreme 40 = .ok (.aload_n 0, 1) := by decide +kernel
theorem dX4_extreme_41 : decode cX4_extreme 41 = .ok (.getfield 7, 3) := by decide +kernel
theorem dX4_extreme_44 : decode cX4_extreme 44 = .ok (.iload_n 2, 1) := by decide +kernel
theorem dX4_extreme_45 : decode cX4_extreme 45 = .ok (.invokevirtual 37, 3) := by decide +kernel
theorem dX4_extreme_48 : decode cX4_extreme 48 = .ok (.lcmp, 1) := by decide +kernel
theorem dX4_extreme_49 : decode cX4_extreme 49 = .ok (.ifCond .le 7, 3) := by decide +kernel
theorem dX4_extreme_52 : decode cX4_extreme 52 = .ok (.iconst 1, 1) := by decide +kernel
theorem dX4_extreme_53 : decode cX4_extreme 53 = .ok (.goto 34, 3) := by decide +kernel
theorem dX4_extreme_56 : decode cX4_extreme 56 = .ok (.iconst 0, 1) := by decide +kernel
theorem dX4_extreme_57 : decode cX4_extreme 57 = .ok (.goto 30, 3) := by decide +kernel
theorem dX4_extreme_60 : decode cX4_extreme 60 = .ok (.aload_n 0, 1) := by decide +kernel
theorem dX4_extreme_61 : decode cX4_extreme 61 = .ok (.aload_n 0, 1) := by decide +kernel
theorem dX4_extreme_62 : decode cX4_extreme 62 = .ok (.getfield 7, 3) := by decide +kernel
theorem dX4_extreme_65 : decode cX4_extreme 65 = .ok (.iload_n 3, 1) := by decide +kernel
theorem dX4_extreme_66 : decode cX4_extreme 66 = .ok (.invokevirtual 37, 3) := by decide +kernel
theorem dX4_extreme_69 : decode cX4_extreme 69 = .ok (.aload_n 0, 1) := by decide +kernel
theorem dX4_extreme_70 : decode cX4_extreme 70 = .ok (.aload_n 0, 1) := by decide +kernel
theorem dX4_extreme_71 : decode cX4_extreme 71 = .ok (.getfield 7, 3) := by decide +kernel
theorem dX4_extreme_74 : decode cX4_extreme 74 = .ok (.iload_n 2, 1) := by decide +kernel
theorem dX4_extreme_75 : decode cX4_extreme 75 = .ok (.invokevirtual 37, 3) := by decide +kernel
theorem dX4_extreme_78 : decode cX4_extreme 78 = .ok (.lcmp, 1) := by decide +kernel
theorem dX4_extreme_79 : decode cX4_extreme 79 = .ok (.ifCond .ge 7, 3) := by decide +kernel
theorem dX4_extreme_82 : decode cX4_extreme 82 = .ok (.iconst 1, 1) := by decide +kernel
theorem dX4_extreme_83 : decode cX4_extreme 83 = .ok (.goto 4, 3) := by decide +kernel
theorem dX4_extreme_86 : decode cX4_extreme 86 = .ok (.iconst 0, 1) := by decide +kernel
theorem dX4_extreme_87 : decode cX4_extreme 87 = .ok (.istore 4, 2) := by decide +kernel
theorem dX4_extreme_89 : decode cX4_extreme 89 = .ok (.iload 4, 2) := by decide +kernel
theorem dX4_extreme_91 : decode cX4_extreme 91 = .ok (.ifCond .eq 7, 3) := by decide +kernel
theorem dX4_extreme_94 : decode cX4_extreme 94 = .ok (.iload_n 3, 1) := by decide +kernel
theorem dX4_extreme_95 : decode cX4_extreme 95 = .ok (.goto 4, 3) := by decide +kernel
theorem dX4_extreme_98 : decode cX4_extreme 98 = .ok (.iload_n 2, 1) := by decide +kernel
theorem dX4_extreme_99 : decode cX4_extreme 99 = .ok (.istore_n 2, 1) := by decide +kernel
theorem dX4_extreme_100 : decode cX4_extreme 100 = .ok (.iinc 3 1, 3) := by decide +kernel
theorem dX4_extreme_103 : decode cX4_extreme 103 = .ok (.goto (-87), 3) := by decide +kernel
theorem dX4_extreme_106 : decode cX4_extreme 106 = .ok (.iload_n 2, 1) := by decide +kernel
theorem dX4_extreme_107 : decode cX4_extreme 107 = .ok (.ireturn, 1) := by decide +kernel
theorem dX4_bits_0 : decode cX4_bits 0 = .ok (.iconst 0, 1) := by decide +kernel
theorem dX4_bits_1 : decode cX4_bits 1 = .ok (.istore_n 1, 1) := by decide +kernel
theorem dX4_bits_2 : decode cX4_bits 2 = .ok (.iconst 0, 1) := by decide +kernel
theorem dX4_bits_3 : decode cX4_bits 3 = .ok (.istore_n 2, 1) := by decide +kernel
theorem dX4_bits_4 : decode cX4_bits 4 = .ok (.iload_n 2, 1) := by decide +kernel
theorem dX4_bits_5 : decode cX4_bits 5 = .ok (.bipush 8, 2) := by decide +kernel
theorem dX4_bits_7 : decode cX4_bits 7 = .ok (.if_icmp .ge 17, 3) := by decide +kernel
theorem dX4_bits_10 : decode cX4_bits 10 = .ok (.iload_n 1, 1) := by decide +kernel
theorem dX4_bits_11 : decode cX4_bits 11 = .ok (.iload_n 0, 1) := by decide +kernel
theorem dX4_bits_12 : decode cX4_bits 12 = .ok (.iload_n 2, 1) := by decide +kernel
theorem dX4_bits_13 : decode cX4_bits 13 = .ok (.ishr, 1) := by decide +kernel
theorem dX4_bits_14 : decode cX4_bits 14 = .ok (.iconst 1, 1) := by decide +kernel
theorem dX4_bits_15 : decode cX4_bits 15 = .ok (.iand, 1) := by decide +kernel
theorem dX4_bits_16 : decode cX4_bits 16 = .ok (.iadd, 1) := by decide +kernel
theorem dX4_bits_17 : decode cX4_bits 17 = .ok (.istore_n 1, 1) := by decide +kernel
theorem dX4_bits_18 : decode cX4_bits 18 = .ok (.iinc 2 1, 3) := by decide +kernel
theorem dX4_bits_21 : decode cX4_bits 21 = .ok (.goto (-17), 3) := by decide +kernel
theorem dX4_bits_24 : decode cX4_bits 24 = .ok (.iload_n 1, 1) := by decide +kernel
theorem dX4_bits_25 : decode cX4_bits 25 = .ok (.ireturn, 1) := by decide +kernel
theorem dX4_queued_0 : decode cX4_queued 0 = .ok (.iconst 0, 1) := by decide +kernel
theorem dX4_queued_1 : decode cX4_queued 1 = .ok (.istore_n 3, 1) := by decide +kernel
theorem dX4_queued_2 : decode cX4_queued 2 = .ok (.iconst 0, 1) := by decide +kernel
theorem dX4_queued_3 : decode cX4_queued 3 = .ok (.istore 4, 2) := by decide +kernel
theorem dX4_queued_5 : decode cX4_queued 5 = .ok (.iload 4, 2) := by decide +kernel
theorem dX4_queued_7 : decode cX4_queued 7 = .ok (.iload_n 0, 1) := by decide +kernel
theorem dX4_queued_8 : decode cX4_queued 8 = .ok (.if_icmp .ge 63, 3) := by decide +kernel
theorem dX4_queued_11 : decode cX4_queued 11 = .ok (.iload_n 1, 1) := by decide +kernel
theorem dX4_queued_12 : decode cX4_queued 12 = .ok (.iload 4, 2) := by decide +kernel
theorem dX4_queued_14 : decode cX4_queued 14 = .ok (.ishr, 1) := by decide +kernel
theorem dX4_queued_15 : decode cX4_queued 15 = .ok (.iconst 1, 1) := by decide +kernel
theorem dX4_queued_16 : decode cX4_queued 16 = .ok (.iand, 1) := by decide +kernel
theorem dX4_queued_17 : decode cX4_queued 17 = .ok (.iconst 1, 1) := by decide +kernel
theorem dX4_queued_18 : decode cX4_queued 18 = .ok (.if_icmp .ne 47, 3) := by decide +kernel
theorem dX4_queued_21 : decode cX4_queued 21 = .ok (.iload 4, 2) := by decide +kernel
theorem dX4_queued_23 : decode cX4_queued 23 = .ok (.istore 5, 2) := by decide +kernel
theorem dX4_queued_25 : decode cX4_queued 25 = .ok (.iload_n 2, 1) := by decide +kernel
theorem dX4_queued_26 : decode cX4_queued 26 = .ok (.iload_n 3, 1) := by decide +kernel
theorem dX4_queued_27 : decode cX4_queued 27 = .ok (.iconst (-1), 1) := by decide +kernel
theorem dX4_queued_28 : decode cX4_queued 28 = .ok (.ixor, 1) := by decide +kernel
theorem dX4_queued_29 : decode cX4_queued 29 = .ok (.iand, 1) := by decide +kernel
theorem dX4_queued_30 : decode cX4_queued 30 = .ok (.iload 5, 2) := by decide +kernel
theorem dX4_queued_32 : decode cX4_queued 32 = .ok (.ishr, 1) := by decide +kernel
theorem dX4_queued_33 : decode cX4_queued 33 = .ok (.iconst 1, 1) := by decide +kernel
theorem dX4_queued_34 : decode cX4_queued 34 = .ok (.iand, 1) := by decide +kernel
theorem dX4_queued_35 : decode cX4_queued 35 = .ok (.ifCond .ne 23, 3) := by decide +kernel
theorem dX4_queued_38 : decode cX4_queued 38 = .ok (.iload 5, 2) := by decide +kernel
theorem dX4_queued_40 : decode cX4_queued 40 = .ok (.ifCond .ne 9, 3) := by decide +kernel
theorem dX4_queued_43 : decode cX4_queued 43 = .ok (.iload_n 0, 1) := by decide +kernel
theorem dX4_queued_44 : decode cX4_queued 44 = .ok (.iconst 1, 1) := by decide +kernel
theorem dX4_queued_45 : decode cX4_queued 45 = .ok (.isub, 1) := by decide +kernel
theorem dX4_queued_46 : decode cX4_queued 46 = .ok (.goto 7, 3) := by decide +kernel
theorem dX4_queued_49 : decode cX4_queued 49 = .ok (.iload 5, 2) := by decide +kernel
theorem dX4_queued_51 : decode cX4_queued 51 = .ok (.iconst 1, 1) := by decide +kernel
theorem dX4_queued_52 : decode cX4_queued 52 = .ok (.isub, 1) := by decide +kernel
theorem dX4_queued_53 : decode cX4_queued 53 = .ok (.istore 5, 2) := by decide +kernel
theorem dX4_queued_55 : decode cX4_queued 55 = .ok (.goto (-30), 3) := by decide +kernel
theorem dX4_queued_58 : decode cX4_queued 58 = .ok (.iload_n 3, 1) := by decide +kernel
theorem dX4_queued_59 : decode cX4_queued 59 = .ok (.iconst 1, 1) := by decide +kernel
theorem dX4_queued_60 : decode cX4_queued 60 = .ok (.iload 5, 2) := by decide +kernel
theorem dX4_queued_62 : decode cX4_queued 62 = .ok (.ishl, 1) := by decide +kernel
theorem dX4_queued_63 : decode cX4_queued 63 = .ok (.ior, 1) := by decide +kernel
theorem dX4_queued_64 : decode cX4_queued 64 = .ok (.istore_n 3, 1) := by decide +kernel
theorem dX4_queued_65 : decode cX4_queued 65 = .ok (.iinc 4 1, 3) := by decide +kernel
theorem dX4_queued_68 : decode cX4_queued 68 = .ok (.goto (-63), 3) := by decide +kernel
theorem dX4_queued_71 : decode cX4_queued 71 = .ok (.iconst 0, 1) := by decide +kernel
theorem dX4_queued_72 : decode cX4_queued 72 = .ok (.istore 4, 2) := by decide +kernel
theorem dX4_queued_74 : decode cX4_queued 74 = .ok (.iconst 1, 1) := by decide +kernel
theorem dX4_queued_75 : decode cX4_queued 75 = .ok (.istore 5, 2) := by decide +kernel
theorem dX4_queued_77 : decode cX4_queued 77 = .ok (.iconst 0, 1) := by decide +kernel
theorem dX4_queued_78 : decode cX4_queued 78 = .ok (.istore 6, 2) := by decide +kernel
theorem dX4_queued_80 : decode cX4_queued 80 = .ok (.iload 6, 2) := by decide +kernel
theorem dX4_queued_82 : decode cX4_queued 82 = .ok (.iload_n 0, 1) := by decide +kernel
theorem dX4_queued_83 : decode cX4_queued 83 = .ok (.if_icmp .ge 52, 3) := by decide +kernel
theorem dX4_queued_86 : decode cX4_queued 86 = .ok (.iload 4, 2) := by decide +kernel
theorem dX4_queued_88 : decode cX4_queued 88 = .ok (.iload 5, 2) := by decide +kernel
theorem dX4_queued_90 : decode cX4_queued 90 = .ok (.iload_n 3, 1) := by decide +kernel
theorem dX4_queued_91 : decode cX4_queued 91 = .ok (.iload 6, 2) := by decide +kernel
theorem dX4_queued_93 : decode cX4_queued 93 = .ok (.ishr, 1) := by decide +kernel
theorem dX4_queued_94 : decode cX4_queued 94 = .ok (.iconst 1, 1) := by decide +kernel
theorem dX4_queued_95 : decode cX4_queued 95 = .ok (.iand, 1) := by decide +kernel
theorem dX4_queued_96 : decode cX4_queued 96 = .ok (.iconst 1, 1) := by decide +kernel
theorem dX4_queued_97 : decode cX4_queued 97 = .ok (.if_icmp .ne 7, 3) := by decide +kernel
theorem dX4_queued_100 : decode cX4_queued 100 = .ok (.iconst 1, 1) := by decide +kernel
theorem dX4_queued_101 : decode cX4_queued 101 = .ok (.goto 18, 3) := by decide +kernel
theorem dX4_queued_104 : decode cX4_queued 104 = .ok (.iload_n 2, 1) := by decide +kernel
theorem dX4_queued_105 : decode cX4_queued 105 = .ok (.iload 6, 2) := by decide +kernel
theorem dX4_queued_107 : decode cX4_queued 107 = .ok (.ishr, 1) := by decide +kernel
theorem dX4_queued_108 : decode cX4_queued 108 = .ok (.iconst 1, 1) := by decide +kernel
theorem dX4_queued_109 : decode cX4_queued 109 = .ok (.iand, 1) := by decide +kernel
theorem dX4_queued_110 : decode cX4_queued 110 = .ok (.iconst 1, 1) := by decide +kernel
theorem dX4_queued_111 : decode cX4_queued 111 = .ok (.if_icmp .ne 7, 3) := by decide +kernel
theorem dX4_queued_114 : decode cX4_queued 114 = .ok (.iconst 2, 1) := by decide +kernel
theorem dX4_queued_115 : decode cX4_queued 115 = .ok (.goto 4, 3) := by decide +kernel
theorem dX4_queued_118 : decode cX4_queued 118 = .ok (.iconst 0, 1) := by decide +kernel
theorem dX4_queued_119 : decode cX4_queued 119 = .ok (.imul, 1) := by decide +kernel
theorem dX4_queued_120 : decode cX4_queued 120 = .ok (.iadd, 1) := by decide +kernel
theorem dX4_queued_121 : decode cX4_queued 121 = .ok (.istore 4, 2) := by decide +kernel
theorem dX4_queued_123 : decode cX4_queued 123 = .ok (.iload 5, 2) := by decide +kernel
theorem dX4_queued_125 : decode cX4_queued 125 = .ok (.iconst 3, 1) := by decide +kernel
theorem dX4_queued_126 : decode cX4_queued 126 = .ok (.imul, 1) := by decide +kernel
theorem dX4_queued_127 : decode cX4_queued 127 = .ok (.istore 5, 2) := by decide +kernel
theorem dX4_queued_129 : decode cX4_queued 129 = .ok (.iinc 6 1, 3) := by decide +kernel
theorem dX4_queued_132 : decode cX4_queued 132 = .ok (.goto (-52), 3) := by decide +kernel
theorem dX4_queued_135 : decode cX4_queued 135 = .ok (.iload 4, 2) := by decide +kernel
theorem dX4_queued_137 : decode cX4_queued 137 = .ok (.ireturn, 1) := by decide +kernel
set_option maxRecDepth 20000 in
theorem ggX4_queue_X4_in : GoodIn wsX4_queue wsX4_in := goodIn_r _ [6] (by decide +kernel) (by decide +kernel)
set_option maxRecDepth 20000 in
theorem gX4_queue_X4_in : GoodIn wsX4_queue (va_wsS RX4 43 yX4_in wsX4_in) := goodIn_app (goodIn_of _ (by decide +kernel)) ggX4_queue_X4_in
set_option maxRecDepth 20000 in
theorem ggX4_queue_X4_bits : GoodIn wsX4_queue wsX4_bits := goodIn_r _ [9] (by decide +kernel) (by decide +kernel)
set_option maxRecDepth 20000 in
theorem gX4_queue_X4_bits : GoodIn wsX4_queue (va_wsS RX4 71 yX4_bits wsX4_bits) := goodIn_app (goodIn_of _ (by decide +kernel)) ggX4_queue_X4_bits
set_option maxRecDepth 20000 in
theorem ggX4_queue_X4_queued : GoodIn wsX4_queue wsX4_queued := goodIn_r _ [12] (by decide +kernel) (by decide +kernel)
set_option maxRecDepth 20000 in
theorem gX4_queue_X4_queued : GoodIn wsX4_queue (va_wsS RX4 75 yX4_queued wsX4_queued) := goodIn_app (goodIn_of _ (by decide +kernel)) ggX4_queue_X4_queued
theorem dX4_queue_0 : decode cX4_queue 0 = .ok (.iload_n 1, 1) := by decide +kernel
theorem dX4_queue_1 : decode cX4_queue 1 = .ok (.i2l, 1) := by decide +kernel
theorem dX4_queue_2 : decode cX4_queue 2 = .ok (.ldc2_w 69, 3) := by decide +kernel
theorem dX4_queue_5 : decode cX4_queue 5 = .ok (.ldc2_w 41, 3) := by decide +kernel
theorem dX4_queue_8 : decode cX4_queue 8 = .ok (.invokestatic 43, 3) := by decide +kernel
theorem dX4_queue_11 : decode cX4_queue 11 = .ok (.ifCond .eq 52, 3) := by decide +kernel
theorem dX4_queue_14 : decode cX4_queue 14 = .ok (.iload_n 2, 1) := by decide +kernel
theorem dX4_queue_15 : decode cX4_queue 15 = .ok (.i2l, 1) := by decide +kernel
theorem dX4_queue_16 : decode cX4_queue 16 = .ok (.lconst 1, 1) := by decide +kernel
theorem dX4_queue_17 : decode cX4_queue 17 = .ok (.iconst 1, 1) := by decide +kernel
theorem dX4_queue_18 : decode cX4_queue 18 = .ok (.iload_n 1, 1) := by decide +kernel
theorem dX4_queue_19 : decode cX4_queue 19 = .ok (.ishl, 1) := by decide +kernel
theorem dX4_queue_20 : decode cX4_queue 20 = .ok (.iconst 1, 1) := by decide +kernel
theorem dX4_queue_21 : decode cX4_queue 21 = .ok (.isub, 1) := by decide +kernel
theorem dX4_queue_22 : decode cX4_queue 22 = .ok (.i2l, 1) := by decide +kernel
theorem dX4_queue_23 : decode cX4_queue 23 = .ok (.invokestatic 43, 3) := by decide +kernel
theorem dX4_queue_26 : decode cX4_queue 26 = .ok (.ifCond .eq 37, 3) := by decide +kernel
theorem dX4_queue_29 : decode cX4_queue 29 = .ok (.iload_n 3, 1) := by decide +kernel
theorem dX4_queue_30 : decode cX4_queue 30 = .ok (.i2l, 1) := by decide +kernel
theorem dX4_queue_31 : decode cX4_queue 31 = .ok (.lconst 1, 1) := by decide +kernel
theorem dX4_queue_32 : decode cX4_queue 32 = .ok (.iconst 1, 1) := by decide +kernel
theorem dX4_queue_33 : decode cX4_queue 33 = .ok (.iload_n 1, 1) := by decide +kernel
theorem dX4_queue_34 : decode cX4_queue 34 = .ok (.ishl, 1) := by decide +kernel
theorem dX4_queue_35 : decode cX4_queue 35 = .ok (.iconst 1, 1) := by decide +kernel
theorem dX4_queue_36 : decode cX4_queue 36 = .ok (.isub, 1) := by decide +kernel
theorem dX4_queue_37 : decode cX4_queue 37 = .ok (.i2l, 1) := by decide +kernel
theorem dX4_queue_38 : decode cX4_queue 38 = .ok (.invokestatic 43, 3) := by decide +kernel
theorem dX4_queue_41 : decode cX4_queue 41 = .ok (.ifCond .eq 22, 3) := by decide +kernel
theorem dX4_queue_44 : decode cX4_queue 44 = .ok (.iload_n 3, 1) := by decide +kernel
theorem dX4_queue_45 : decode cX4_queue 45 = .ok (.invokestatic 71, 3) := by decide +kernel
theorem dX4_queue_48 : decode cX4_queue 48 = .ok (.iload_n 2, 1) := by decide +kernel
theorem dX4_queue_49 : decode cX4_queue 49 = .ok (.invokestatic 71, 3) := by decide +kernel
theorem dX4_queue_52 : decode cX4_queue 52 = .ok (.if_icmp .le 11, 3) := by decide +kernel
theorem dX4_queue_55 : decode cX4_queue 55 = .ok (.iload_n 3, 1) := by decide +kernel
theorem dX4_queue_56 : decode cX4_queue 56 = .ok (.invokestatic 71, 3) := by decide +kernel
theorem dX4_queue_59 : decode cX4_queue 59 = .ok (.iload_n 1, 1) := by decide +kernel
theorem dX4_queue_60 : decode cX4_queue 60 = .ok (.if_icmp .ne 5, 3) := by decide +kernel
theorem dX4_queue_63 : decode cX4_queue 63 = .ok (.iconst (-1), 1) := by decide +kernel
theorem dX4_queue_64 : decode cX4_queue 64 = .ok (.ireturn, 1) := by decide +kernel
theorem dX4_queue_65 : decode cX4_queue 65 = .ok (.iload_n 1, 1) := by decide +kernel
theorem dX4_queue_66 : decode cX4_queue 66 = .ok (.iload_n 2, 1) := by decide +kernel
theorem dX4_queue_67 : decode cX4_queue 67 = .ok (.iload_n 3, 1) := by decide +kernel
theorem dX4_queue_68 : decode cX4_queue 68 = .ok (.invokestatic 75, 3) := by decide +kernel
theorem dX4_queue_71 : decode cX4_queue 71 = .ok (.ireturn, 1) := by decide +kernel
set_option maxRecDepth 20000 in
theorem ggX4_ways_X4_in : GoodIn wsX4_ways wsX4_in := goodIn_r _ [6] (by decide +kernel) (by decide +kernel)
set_option maxRecDepth 20000 in
theorem gX4_ways_X4_in : GoodIn wsX4_ways (va_wsS RX4 43 yX4_in wsX4_in) := goodIn_app (goodIn_of _ (by decide +kernel)) ggX4_ways_X4_in
set_option maxRecDepth 20000 in
theorem ggX4_ways_X4_bits : GoodIn wsX4_ways wsX4_bits := goodIn_r _ [9] (by decide +kernel) (by decide +kernel)
set_option maxRecDepth 20000 in
theorem gX4_ways_X4_bits : GoodIn wsX4_ways (va_wsS RX4 71 yX4_bits wsX4_bits) := goodIn_app (goodIn_of _ (by decide +kernel)) ggX4_ways_X4_bits
set_option maxRecDepth 20000 in
theorem ggX4_ways_X4_queued : GoodIn wsX4_ways wsX4_queued := goodIn_r _ [12] (by decide +kernel) (by decide +kernel)
set_option maxRecDepth 20000 in
theorem gX4_ways_X4_queued : GoodIn wsX4_ways (va_wsS RX4 75 yX4_queued wsX4_queued) := goodIn_app (goodIn_of _ (by decide +kernel)) ggX4_ways_X4_queued
theorem dX4_ways_0 : decode cX4_ways 0 = .ok (.iload_n 1, 1) := by decide +kernel
theorem dX4_ways_1 : decode cX4_ways 1 = .ok (.i2l, 1) := by decide +kernel
theorem dX4_ways_2 : decode cX4_ways 2 = .ok (.ldc2_w 69, 3) := by decide +kernel
theorem dX4_ways_5 : decode cX4_ways 5 = .ok (.ldc2_w 41, 3) := by decide +kernel
theorem dX4_ways_8 : decode cX4_ways 8 = .ok (.invokestatic 43, 3) := by decide +kernel
theorem dX4_ways_11 : decode cX4_ways 11 = .ok (.ifCond .eq 7, 3) := by decide +kernel
theorem dX4_ways_14 : decode cX4_ways 14 = .ok (.iload_n 2, 1) := by decide +kernel
theorem dX4_ways_15 : decode cX4_ways 15 = .ok (.ifCond .ge 5, 3) := by decide +kernel
theorem dX4_ways_18 : decode cX4_ways 18 = .ok (.iconst (-1), 1) := by decide +kernel
theorem dX4_ways_19 : decode cX4_ways 19 = .ok (.ireturn, 1) := by decide +kernel
theorem dX4_ways_20 : decode cX4_ways 20 = .ok (.iload_n 2, 1) := by decide +kernel
theorem dX4_ways_21 : decode cX4_ways 21 = .ok (.istore_n 3, 1) := by decide +kernel
theorem dX4_ways_22 : decode cX4_ways 22 = .ok (.iconst 0, 1) := by decide +kernel
theorem dX4_ways_23 : decode cX4_ways 23 = .ok (.istore 4, 2) := by decide +kernel
theorem dX4_ways_25 : decode cX4_ways 25 = .ok (.iconst 0, 1) := by decide +kernel
theorem dX4_ways_26 : decode cX4_ways 26 = .ok (.istore 5, 2) := by decide +kernel
theorem dX4_ways_28 : decode cX4_ways 28 = .ok (.iconst 0, 1) := by decide +kernel
theorem dX4_ways_29 : decode cX4_ways 29 = .ok (.istore 6, 2) := by decide +kernel
theorem dX4_ways_31 : decode cX4_ways 31 = .ok (.iload 6, 2) := by decide +kernel
theorem dX4_ways_33 : decode cX4_ways 33 = .ok (.iload_n 1, 1) := by decide +kernel
theorem dX4_ways_34 : decode cX4_ways 34 = .ok (.if_icmp .ge 49, 3) := by decide +kernel
theorem dX4_ways_37 : decode cX4_ways 37 = .ok (.iload 4, 2) := by decide +kernel
theorem dX4_ways_39 : decode cX4_ways 39 = .ok (.iload_n 3, 1) := by decide +kernel
theorem dX4_ways_40 : decode cX4_ways 40 = .ok (.iconst 3, 1) := by decide +kernel
theorem dX4_ways_41 : decode cX4_ways 41 = .ok (.irem, 1) := by decide +kernel
theorem dX4_ways_42 : decode cX4_ways 42 = .ok (.iconst 1, 1) := by decide +kernel
theorem dX4_ways_43 : decode cX4_ways 43 = .ok (.if_icmp .ne 7, 3) := by decide +kernel
theorem dX4_ways_46 : decode cX4_ways 46 = .ok (.iconst 1, 1) := by decide +kernel
theorem dX4_ways_47 : decode cX4_ways 47 = .ok (.goto 4, 3) := by decide +kernel
theorem dX4_ways_50 : decode cX4_ways 50 = .ok (.iconst 0, 1) := by decide +kernel
theorem dX4_ways_51 : decode cX4_ways 51 = .ok (.iadd, 1) := by decide +kernel
theorem dX4_ways_52 : decode cX4_ways 52 = .ok (.istore 4, 2) := by decide +kernel
theorem dX4_ways_54 : decode cX4_ways 54 = .ok (.iload 5, 2) := by decide +kernel
theorem dX4_ways_56 : decode cX4_ways 56 = .ok (.iload_n 3, 1) := by decide +kernel
theorem dX4_ways_57 : decode cX4_ways 57 = .ok (.iconst 3, 1) := by decide +kernel
theorem dX4_ways_58 : decode cX4_ways 58 = .ok (.irem, 1) := by decide +kernel
theorem dX4_ways_59 : decode cX4_ways 59 = .ok (.ifCond .le 10, 3) := by decide +kernel
theorem dX4_ways_62 : decode cX4_ways 62 = .ok (.iconst 1, 1) := by decide +kernel
theorem dX4_ways_63 : decode cX4_ways 63 = .ok (.iload 6, 2) := by decide +kernel
theorem dX4_ways_65 : decode cX4_ways 65 = .ok (.ishl, 1) := by decide +kernel
theorem dX4_ways_66 : decode cX4_ways 66 = .ok (.goto 4, 3) := by decide +kernel
theorem dX4_ways_69 : decode cX4_ways 69 = .ok (.iconst 0, 1) := by decide +kernel
theorem dX4_ways_70 : decode cX4_ways 70 = .ok (.ior, 1) := by decide +kernel
theorem dX4_ways_71 : decode cX4_ways 71 = .ok (.istore 5, 2) := by decide +kernel
theorem dX4_ways_73 : decode cX4_ways 73 = .ok (.iload_n 3, 1) := by decide +kernel
theorem dX4_ways_74 : decode cX4_ways 74 = .ok (.iconst 3, 1) := by decide +kernel
theorem dX4_ways_75 : decode cX4_ways 75 = .ok (.idiv, 1) := by decide +kernel
theorem dX4_ways_76 : decode cX4_ways 76 = .ok (.istore_n 3, 1) := by decide +kernel
theorem dX4_ways_77 : decode cX4_ways 77 = .ok (.iinc 6 1, 3) := by decide +kernel
theorem dX4_ways_80 : decode cX4_ways 80 = .ok (.goto (-49), 3) := by decide +kernel
theorem dX4_ways_83 : decode cX4_ways 83 = .ok (.iload_n 3, 1) := by decide +kernel
theorem dX4_ways_84 : decode cX4_ways 84 = .ok (.ifCond .gt 27, 3) := by decide +kernel
theorem dX4_ways_87 : decode cX4_ways 87 = .ok (.iload 4, 2) := by decide +kernel
theorem dX4_ways_89 : decode cX4_ways 89 = .ok (.ifCond .eq 22, 3) := by decide +kernel
theorem dX4_ways_92 : decode cX4_ways 92 = .ok (.iload 5, 2) := by decide +kernel
theorem dX4_ways_94 : decode cX4_ways 94 = .ok (.invokestatic 71, 3) := by decide +kernel
theorem dX4_ways_97 : decode cX4_ways 97 = .ok (.iload 4, 2) := by decide +kernel
theorem dX4_ways_99 : decode cX4_ways 99 = .ok (.if_icmp .eq 12, 3) := by decide +kernel
theorem dX4_ways_102 : decode cX4_ways 102 = .ok (.iload 5, 2) := by decide +kernel
theorem dX4_ways_104 : decode cX4_ways 104 = .ok (.invokestatic 71, 3) := by decide +kernel
theorem dX4_ways_107 : decode cX4_ways 107 = .ok (.iload_n 1, 1) := by decide +kernel
theorem dX4_ways_108 : decode cX4_ways 108 = .ok (.if_icmp .ne 5, 3) := by decide +kernel
theorem dX4_ways_111 : decode cX4_ways 111 = .ok (.iconst (-1), 1) := by decide +kernel
theorem dX4_ways_112 : decode cX4_ways 112 = .ok (.ireturn, 1) := by decide +kernel
theorem dX4_ways_113 : decode cX4_ways 113 = .ok (.iconst 0, 1) := by decide +kernel
theorem dX4_ways_114 : decode cX4_ways 114 = .ok (.istore 6, 2) := by decide +kernel
theorem dX4_ways_116 : decode cX4_ways 116 = .ok (.iconst 1, 1) := by decide +kernel
theorem dX4_ways_117 : decode cX4_ways 117 = .ok (.istore 7, 2) := by decide +kernel
theorem dX4_ways_119 : decode cX4_ways 119 = .ok (.iload 7, 2) := by decide +kernel
theorem dX4_ways_121 : decode cX4_ways 121 = .ok (.iconst 1, 1) := by decide +kernel
theorem dX4_ways_122 : decode cX4_ways 122 = .ok (.iload_n 1, 1) := by decide +kernel
theorem dX4_ways_123 : decode cX4_ways 123 = .ok (.ishl, 1) := by decide +kernel
theorem dX4_ways_124 : decode cX4_ways 124 = .ok (.if_icmp .ge 41, 3) := by decide +kernel
theorem dX4_ways_127 : decode cX4_ways 127 = .ok (.iload 6, 2) := by decide +kernel
theorem dX4_ways_129 : decode cX4_ways 129 = .ok (.iload 7, 2) := by decide +kernel
theorem dX4_ways_131 : decode cX4_ways 131 = .ok (.invokestatic 71, 3) := by decide +kernel
theorem dX4_ways_134 : decode cX4_ways 134 = .ok (.iload 4, 2) := by decide +kernel
theorem dX4_ways_136 : decode cX4_ways 136 = .ok (.if_icmp .ne 19, 3) := by decide +kernel
theorem dX4_ways_139 : decode cX4_ways 139 = .ok (.iload_n 1, 1) := by decide +kernel
theorem dX4_ways_140 : decode cX4_ways 140 = .ok (.iload 7, 2) := by decide +kernel
theorem dX4_ways_142 : decode cX4_ways 142 = .ok (.iload 5, 2) := by decide +kernel
theorem dX4_ways_144 : decode cX4_ways 144 = .ok (.invokestatic 75, 3) := by decide +kernel
theorem dX4_ways_147 : decode cX4_ways 147 = .ok (.iload_n 2, 1) := by decide +kernel
theorem dX4_ways_148 : decode cX4_ways 148 = .ok (.if_icmp .ne 7, 3) := by decide +kernel
theorem dX4_ways_151 : decode cX4_ways 151 = .ok (.iconst 1, 1) := by decide +kernel
theorem dX4_ways_152 : decode cX4_ways 152 = .ok (.goto 4, 3) := by decide +kernel
theorem dX4_ways_155 : decode cX4_ways 155 = .ok (.iconst 0, 1) := by decide +kernel
theorem dX4_ways_156 : decode cX4_ways 156 = .ok (.iadd, 1) := by decide +kernel
theorem dX4_ways_157 : decode cX4_ways 157 = .ok (.istore 6, 2) := by decide +kernel
theorem dX4_ways_159 : decode cX4_ways 159 = .ok (.iinc 7 1, 3) := by decide +kernel
theorem dX4_ways_162 : decode cX4_ways 162 = .ok (.goto (-43), 3) := by decide +kernel
theorem dX4_ways_165 : decode cX4_ways 165 = .ok (.iload 6, 2) := by decide +kernel
theorem dX4_ways_167 : decode cX4_ways 167 = .ok (.ireturn, 1) := by decide +kernel
set_option maxRecDepth 20000 in
theorem ggX4_step_X4_in : GoodIn wsX4_step wsX4_in := goodIn_r _ [13] (by decide +kernel) (by decide +kernel)
set_option maxRecDepth 20000 in
theorem gX4_step_X4_in : GoodIn wsX4_step (va_wsS RX4 43 yX4_in wsX4_in) := goodIn_app (goodIn_of _ (by decide +kernel)) ggX4_step_X4_in
theorem dX4_step_0 : decode cX4_step 0 = .ok (.iload_n 1, 1) := by decide +kernel
theorem dX4_step_1 : decode cX4_step 1 = .ok (.i2l, 1) := by decide +kernel
theorem dX4_step_2 : decode cX4_step 2 = .ok (.ldc2_w 79, 3) := by decide +kernel
theorem dX4_step_5 : decode cX4_step 5 = .ok (.ldc2_w 81, 3) := by decide +kernel
theorem dX4_step_8 : decode cX4_step 8 = .ok (.invokestatic 43, 3) := by decide +kernel
theorem dX4_step_11 : decode cX4_step 11 = .ok (.ifCond .ne 5, 3) := by decide +kernel
theorem dX4_step_14 : decode cX4_step 14 = .ok (.iconst (-1), 1) := by decide +kernel
theorem dX4_step_15 : decode cX4_step 15 = .ok (.ireturn, 1) := by decide +kernel
theorem dX4_step_16 : decode cX4_step 16 = .ok (.aload_n 0, 1) := by decide +kernel
theorem dX4_step_17 : decode cX4_step 17 = .ok (.iload_n 1, 1) := by decide +kernel
theorem dX4_step_18 : decode cX4_step 18 = .ok (.putfield 83, 3) := by decide +kernel
theorem dX4_step_21 : decode cX4_step 21 = .ok (.aload_n 0, 1) := by decide +kernel
theorem dX4_step_22 : decode cX4_step 22 = .ok (.iload_n 2, 1) := by decide +kernel
theorem dX4_step_23 : decode cX4_step 23 = .ok (.putfield 86, 3) := by decide +kernel
theorem dX4_step_26 : decode cX4_step 26 = .ok (.aload_n 0, 1) := by decide +kernel
theorem dX4_step_27 : decode cX4_step 27 = .ok (.lconst 1, 1) := by decide +kernel
theorem dX4_step_28 : decode cX4_step 28 = .ok (.putfield 23, 3) := by decide +kernel
theorem dX4_step_31 : decode cX4_step 31 = .ok (.aload_n 0, 1) := by decide +kernel
theorem dX4_step_32 : decode cX4_step 32 = .ok (.iconst 0, 1) := by decide +kernel
theorem dX4_step_33 : decode cX4_step 33 = .ok (.putfield 90, 3) := by decide +kernel
theorem dX4_step_36 : decode cX4_step 36 = .ok (.aload_n 0, 1) := by decide +kernel
theorem dX4_step_37 : decode cX4_step 37 = .ok (.iconst 0, 1) := by decide +kernel
theorem dX4_step_38 : decode cX4_step 38 = .ok (.putfield 93, 3) := by decide +kernel
theorem dX4_step_41 : decode cX4_step 41 = .ok (.aload_n 0, 1) := by decide +kernel
theorem dX4_step_42 : decode cX4_step 42 = .ok (.iconst 0, 1) := by decide +kernel
theorem dX4_step_43 : decode cX4_step 43 = .ok (.putfield 96, 3) := by decide +kernel
theorem dX4_step_46 : decode cX4_step 46 = .ok (.iconst 0, 1) := by decide +kernel
theorem dX4_step_47 : decode cX4_step 47 = .ok (.istore_n 3, 1) := by decide +kernel
theorem dX4_step_48 : decode cX4_step 48 = .ok (.iload_n 3, 1) := by decide +kernel
theorem dX4_step_49 : decode cX4_step 49 = .ok (.bipush 30, 2) := by decide +kernel
theorem dX4_step_51 : decode cX4_step 51 = .ok (.if_icmp .ge 16, 3) := by decide +kernel
theorem dX4_step_54 : decode cX4_step 54 = .ok (.aload_n 0, 1) := by decide +kernel
theorem dX4_step_55 : decode cX4_step 55 = .ok (.getfield 27, 3) := by decide +kernel
theorem dX4_step_58 : decode cX4_step 58 = .ok (.iload_n 3, 1) := by decide +kernel
theorem dX4_step_59 : decode cX4_step 59 = .ok (.iconst 0, 1) := by decide +kernel
theorem dX4_step_60 : decode cX4_step 60 = .ok (.iastore, 1) := by decide +kernel
theorem dX4_step_61 : decode cX4_step 61 = .ok (.iinc 3 1, 3) := by decide +kernel
theorem dX4_step_64 : decode cX4_step 64 = .ok (.goto (-16), 3) := by decide +kernel
theorem dX4_step_67 : decode cX4_step 67 = .ok (.iconst 0, 1) := by decide +kernel
theorem dX4_step_68 : decode cX4_step 68 = .ok (.ireturn, 1) := by decide +kernel
set_option maxRecDepth 20000 in
theorem ggX4_isPlace_X4_in : GoodIn wsX4_isPlace wsX4_in := goodIn_r _ [6] (by decide +kernel) (by decide +kernel)
set_option maxRecDepth 20000 in
theorem gX4_isPlace_X4_in : GoodIn wsX4_isPlace (va_wsS RX4 43 yX4_in wsX4_in) := goodIn_app (goodIn_of _ (by decide +kernel)) ggX4_isPlace_X4_in
theorem dX4_isPlace_0 : decode cX4_isPlace 0 = .ok (.iload_n 1, 1) := by decide +kernel
theorem dX4_isPlace_1 : decode cX4_isPlace 1 = .ok (.i2l, 1) := by decide +kernel
theorem dX4_isPlace_2 : decode cX4_isPlace 2 = .ok (.lconst 0, 1) := by decide +kernel
theorem dX4_isPlace_3 : decode cX4_isPlace 3 = .ok (.aload_n 0, 1) := by decide +kernel
theorem dX4_isPlace_4 : decode cX4_isPlace 4 = .ok (.getfield 83, 3) := by decide +kernel
theorem dX4_isPlace_7 : decode cX4_isPlace 7 = .ok (.ifCond .ne 9, 3) := by decide +kernel
theorem dX4_isPlace_10 : decode cX4_isPlace 10 = .ok (.ldc2_w 99, 3) := by decide +kernel
theorem dX4_isPlace_13 : decode cX4_isPlace 13 = .ok (.goto 10, 3) := by decide +kernel
theorem dX4_isPlace_16 : decode cX4_isPlace 16 = .ok (.aload_n 0, 1) := by decide +kernel
theorem dX4_isPlace_17 : decode cX4_isPlace 17 = .ok (.getfield 83, 3) := by decide +kernel
theorem dX4_isPlace_20 : decode cX4_isPlace 20 = .ok (.iconst 1, 1) := by decide +kernel
theorem dX4_isPlace_21 : decode cX4_isPlace 21 = .ok (.isub, 1) := by decide +kernel
theorem dX4_isPlace_22 : decode cX4_isPlace 22 = .ok (.i2l, 1) := by decide +kernel
theorem dX4_isPlace_23 : decode cX4_isPlace 23 = .ok (.invokestatic 43, 3) := by decide +kernel
theorem dX4_isPlace_26 : decode cX4_isPlace 26 = .ok (.ireturn, 1) := by decide +kernel
set_option maxRecDepth 20000 in
theorem ggX4_set_X4_isPlace : GoodIn wsX4_set wsX4_isPlace := goodIn_r _ [8, 2, 9, 10, 11, 7, 12, 13, 14, 15, 16, 17, 18, 19, 20, 21, 22, 23, 24, 25] (by decide +kernel) (by decide +kernel)
set_option maxRecDepth 20000 in
theorem gX4_set_X4_isPlace : GoodIn wsX4_set (wsV RX4 101 RX4 yX4_isPlace wsX4_isPlace) := goodIn_app (goodIn_of _ (by decide +kernel)) ggX4_set_X4_isPlace
set_option maxRecDepth 20000 in
theorem ggX4_set_X4_in : GoodIn wsX4_set wsX4_in := goodIn_r _ [12] (by decide +kernel) (by decide +kernel)
set_option maxRecDepth 20000 in
theorem gX4_set_X4_in : GoodIn wsX4_set (va_wsS RX4 43 yX4_in wsX4_in) := goodIn_app (goodIn_of _ (by decide +kernel)) ggX4_set_X4_in
theorem dX4_set_0 : decode cX4_set 0 = .ok (.aload_n 0, 1) := by decide +kernel
theorem dX4_set_1 : decode cX4_set 1 = .ok (.iload_n 1, 1) := by decide +kernel
theorem dX4_set_2 : decode cX4_set 2 = .ok (.invokevirtual 101, 3) := by decide +kernel
theorem dX4_set_5 : decode cX4_set 5 = .ok (.ifCond .eq 15, 3) := by decide +kernel
theorem dX4_set_8 : decode cX4_set 8 = .ok (.iload_n 2, 1) := by decide +kernel
theorem dX4_set_9 : decode cX4_set 9 = .ok (.i2l, 1) := by decide +kernel
theorem dX4_set_10 : decode cX4_set 10 = .ok (.lconst 0, 1) := by decide +kernel
theorem dX4_set_11 : decode cX4_set 11 = .ok (.ldc2_w 79, 3) := by decide +kernel
theorem dX4_set_14 : decode cX4_set 14 = .ok (.invokestatic 43, 3) := by decide +kernel
theorem dX4_set_17 : decode cX4_set 17 = .ok (.ifCond .ne 5, 3) := by decide +kernel
theorem dX4_set_20 : decode cX4_set 20 = .ok (.iconst (-1), 1) := by decide +kernel
theorem dX4_set_21 : decode cX4_set 21 = .ok (.ireturn, 1) := by decide +kernel
theorem dX4_set_22 : decode cX4_set 22 = .ok (.aload_n 0, 1) := by decide +kernel
theorem dX4_set_23 : decode cX4_set 23 = .ok (.getfield 83, 3) := by decide +kernel
theorem dX4_set_26 : decode cX4_set 26 = .ok (.ifCond .ne 6, 3) := by decide +kernel
theorem dX4_set_29 : decode cX4_set 29 = .ok (.bipush (-2), 2) := by decide +kernel
theorem dX4_set_31 : decode cX4_set 31 = .ok (.ireturn, 1) := by decide +kernel
theorem dX4_set_32 : decode cX4_set 32 = .ok (.aload_n 0, 1) := by decide +kernel
theorem dX4_set_33 : decode cX4_set 33 = .ok (.getfield 27, 3) := by decide +kernel
theorem dX4_set_36 : decode cX4_set 36 = .ok (.iload_n 1, 1) := by decide +kernel
theorem dX4_set_37 : decode cX4_set 37 = .ok (.iaload, 1) := by decide +kernel
theorem dX4_set_38 : decode cX4_set 38 = .ok (.istore_n 3, 1) := by decide +kernel
theorem dX4_set_39 : decode cX4_set 39 = .ok (.aload_n 0, 1) := by decide +kernel
theorem dX4_set_40 : decode cX4_set 40 = .ok (.getfield 27, 3) := by decide +kernel
theorem dX4_set_43 : decode cX4_set 43 = .ok (.iload_n 1, 1) := by decide +kernel
theorem dX4_set_44 : decode cX4_set 44 = .ok (.iload_n 2, 1) := by decide +kernel
theorem dX4_set_45 : decode cX4_set 45 = .ok (.iastore, 1) := by decide +kernel
theorem dX4_set_46 : decode cX4_set 46 = .ok (.iload_n 3, 1) := by decide +kernel
theorem dX4_set_47 : decode cX4_set 47 = .ok (.ireturn, 1) := by decide +kernel
theorem dX4_seed_0 : decode cX4_seed 0 = .ok (.iload_n 1, 1) := by decide +kernel
theorem dX4_seed_1 : decode cX4_seed 1 = .ok (.ifCond .ge 5, 3) := by decide +kernel
theorem dX4_seed_4 : decode cX4_seed 4 = .ok (.iconst (-1), 1) := by decide +kernel
theorem dX4_seed_5 : decode cX4_seed 5 = .ok (.ireturn, 1) := by decide +kernel
theorem dX4_seed_6 : decode cX4_seed 6 = .ok (.aload_n 0, 1) := by decide +kernel
theorem dX4_seed_7 : decode cX4_seed 7 = .ok (.getfield 83, 3) := by decide +kernel
theorem dX4_seed_10 : decode cX4_seed 10 = .ok (.ifCond .ne 6, 3) := by decide +kernel
theorem dX4_seed_13 : decode cX4_seed 13 = .ok (.bipush (-2), 2) := by decide +kernel
theorem dX4_seed_15 : decode cX4_seed 15 = .ok (.ireturn, 1) := by decide +kernel
theorem dX4_seed_16 : decode cX4_seed 16 = .ok (.aload_n 0, 1) := by decide +kernel
theorem dX4_seed_17 : decode cX4_seed 17 = .ok (.iload_n 1, 1) := by decide +kernel
theorem dX4_seed_18 : decode cX4_seed 18 = .ok (.i2l, 1) := by decide +kernel
theorem dX4_seed_19 : decode cX4_seed 19 = .ok (.putfield 23, 3) := by decide +kernel
theorem dX4_seed_22 : decode cX4_seed 22 = .ok (.iconst 0, 1) := by decide +kernel
theorem dX4_seed_23 : decode cX4_seed 23 = .ok (.ireturn, 1) := by decide +kernel
theorem dX4_changes_0 : decode cX4_changes 0 = .ok (.aload_n 0, 1) := by decide +kernel
theorem dX4_changes_1 : decode cX4_changes 1 = .ok (.getfield 27, 3) := by decide +kernel
theorem dX4_changes_4 : decode cX4_changes 4 = .ok (.iload_n 1, 1) := by decide +kernel
theorem dX4_changes_5 : decode cX4_changes 5 = .ok (.iaload, 1) := by decide +kernel
theorem dX4_changes_6 : decode cX4_changes 6 = .ok (.iconst 1, 1) := by decide +kernel
theorem dX4_changes_7 : decode cX4_changes 7 = .ok (.if_icmp .ne 13, 3) := by decide +kernel
theorem dX4_changes_10 : decode cX4_changes 10 = .ok (.aload_n 0, 1) := by decide +kernel
theorem dX4_changes_11 : decode cX4_changes 11 = .ok (.getfield 27, 3) := by decide +kernel
theorem dX4_changes_14 : decode cX4_changes 14 = .ok (.iload_n 2, 1) := by decide +kernel
theorem dX4_changes_15 : decode cX4_changes 15 = .ok (.iaload, 1) := by decide +kernel
theorem dX4_changes_16 : decode cX4_changes 16 = .ok (.iconst 1, 1) := by decide +kernel
theorem dX4_changes_17 : decode cX4_changes 17 = .ok (.if_icmp .ne 22, 3) := by decide +kernel
theorem dX4_changes_20 : decode cX4_changes 20 = .ok (.aload_n 0, 1) := by decide +kernel
theorem dX4_changes_21 : decode cX4_changes 21 = .ok (.getfield 27, 3) := by decide +kernel
theorem dX4_changes_24 : decode cX4_changes 24 = .ok (.iload_n 1, 1) := by decide +kernel
theorem dX4_changes_25 : decode cX4_changes 25 = .ok (.iaload, 1) := by decide +kernel
theorem dX4_changes_26 : decode cX4_changes 26 = .ok (.iconst 2, 1) := by decide +kernel
theorem dX4_changes_27 : decode cX4_changes 27 = .ok (.if_icmp .ne 16, 3) := by decide +kernel
theorem dX4_changes_30 : decode cX4_changes 30 = .ok (.aload_n 0, 1) := by decide +kernel
theorem dX4_changes_31 : decode cX4_changes 31 = .ok (.getfield 27, 3) := by decide +kernel
theorem dX4_changes_34 : decode cX4_changes 34 = .ok (.iload_n 2, 1) := by decide +kernel
theorem dX4_changes_35 : decode cX4_changes 35 = .ok (.iaload, 1) := by decide +kernel
theorem dX4_changes_36 : decode cX4_changes 36 = .ok (.ifCond .ne 7, 3) := by decide +kernel
theorem dX4_changes_39 : decode cX4_changes 39 = .ok (.iconst 1, 1) := by decide +kernel
theorem dX4_changes_40 : decode cX4_changes 40 = .ok (.goto 4, 3) := by decide +kernel
theorem dX4_changes_43 : decode cX4_changes 43 = .ok (.iconst 0, 1) := by decide +kernel
theorem dX4_changes_44 : decode cX4_changes 44 = .ok (.istore_n 3, 1) := by decide +kernel
theorem dX4_changes_45 : decode cX4_changes 45 = .ok (.iload_n 3, 1) := by decide +kernel
theorem dX4_changes_46 : decode cX4_changes 46 = .ok (.ifCond .eq 41, 3) := by decide +kernel
theorem dX4_changes_49 : decode cX4_changes 49 = .ok (.aload_n 0, 1) := by decide +kernel
theorem dX4_changes_50 : decode cX4_changes 50 = .ok (.getfield 27, 3) := by decide +kernel
theorem dX4_changes_53 : decode cX4_changes 53 = .ok (.iload_n 1, 1) := by decide +kernel
theorem dX4_changes_54 : decode cX4_changes 54 = .ok (.iaload, 1) := by decide +kernel
theorem dX4_changes_55 : decode cX4_changes 55 = .ok (.istore 4, 2) := by decide +kernel
theorem dX4_changes_57 : decode cX4_changes 57 = .ok (.aload_n 0, 1) := by decide +kernel
theorem dX4_changes_58 : decode cX4_changes 58 = .ok (.getfield 27, 3) := by decide +kernel
theorem dX4_changes_61 : decode cX4_changes 61 = .ok (.iload_n 1, 1) := by decide +kernel
theorem dX4_changes_62 : decode cX4_changes 62 = .ok (.aload_n 0, 1) := by decide +kernel
theorem dX4_changes_63 : decode cX4_changes 63 = .ok (.getfield 27, 3) := by decide +kernel
theorem dX4_changes_66 : decode cX4_changes 66 = .ok (.iload_n 2, 1) := by decide +kernel
theorem dX4_changes_67 : decode cX4_changes 67 = .ok (.iaload, 1) := by decide +kernel
theorem dX4_changes_68 : decode cX4_changes 68 = .ok (.iastore, 1) := by decide +kernel
theorem dX4_changes_69 : decode cX4_changes 69 = .ok (.aload_n 0, 1) := by decide +kernel
theorem dX4_changes_70 : decode cX4_changes 70 = .ok (.getfield 27, 3) := by decide +kernel
theorem dX4_changes_73 : decode cX4_changes 73 = .ok (.iload_n 2, 1) := by decide +kernel
theorem dX4_changes_74 : decode cX4_changes 74 = .ok (.iload 4, 2) := by decide +kernel
theorem dX4_changes_76 : decode cX4_changes 76 = .ok (.iastore, 1) := by decide +kernel
theorem dX4_changes_77 : decode cX4_changes 77 = .ok (.aload_n 0, 1) := by decide +kernel
theorem dX4_changes_78 : decode cX4_changes 78 = .ok (.dup, 1) := by decide +kernel
theorem dX4_changes_79 : decode cX4_changes 79 = .ok (.getfield 96, 3) := by decide +kernel
theorem dX4_changes_82 : decode cX4_changes 82 = .ok (.iconst 1, 1) := by decide +kernel
theorem dX4_changes_83 : decode cX4_changes 83 = .ok (.iadd, 1) := by decide +kernel
theorem dX4_changes_84 : decode cX4_changes 84 = .ok (.putfield 96, 3) := by decide +kernel
theorem dX4_changes_87 : decode cX4_changes 87 = .ok (.iload_n 3, 1) := by decide +kernel
theorem dX4_changes_88 : decode cX4_changes 88 = .ok (.ireturn, 1) := by decide +kernel
theorem dX4_comes_0 : decode cX4_comes 0 = .ok (.aload_n 0, 1) := by decide +kernel
theorem dX4_comes_1 : decode cX4_comes 1 = .ok (.getfield 27, 3) := by decide +kernel
theorem dX4_comes_4 : decode cX4_comes 4 = .ok (.iconst 0, 1) := by decide +kernel
theorem dX4_comes_5 : decode cX4_comes 5 = .ok (.iaload, 1) := by decide +kernel
theorem dX4_comes_6 : decode cX4_comes 6 = .ok (.iconst 1, 1) := by decide +kernel
theorem dX4_comes_7 : decode cX4_comes 7 = .ok (.if_icmp .ne 5, 3) := by decide +kernel
theorem dX4_comes_10 : decode cX4_comes 10 = .ok (.iconst 0, 1) := by decide +kernel
theorem dX4_comes_11 : decode cX4_comes 11 = .ok (.ireturn, 1) := by decide +kernel
theorem dX4_comes_12 : decode cX4_comes 12 = .ok (.aload_n 0, 1) := by decide +kernel
theorem dX4_comes_13 : decode cX4_comes 13 = .ok (.dup, 1) := by decide +kernel
theorem dX4_comes_14 : decode cX4_comes 14 = .ok (.getfield 93, 3) := by decide +kernel
theorem dX4_comes_17 : decode cX4_comes 17 = .ok (.aload_n 0, 1) := by decide +kernel
theorem dX4_comes_18 : decode cX4_comes 18 = .ok (.getfield 27, 3) := by decide +kernel
theorem dX4_comes_21 : decode cX4_comes 21 = .ok (.iconst 0, 1) := by decide +kernel
theorem dX4_comes_22 : decode cX4_comes 22 = .ok (.iaload, 1) := by decide +kernel
theorem dX4_comes_23 : decode cX4_comes 23 = .ok (.iconst 2, 1) := by decide +kernel
theorem dX4_comes_24 : decode cX4_comes 24 = .ok (.if_icmp .ne 7, 3) := by decide +kernel
theorem dX4_comes_27 : decode cX4_comes 27 = .ok (.iconst 1, 1) := by decide +kernel
theorem dX4_comes_28 : decode cX4_comes 28 = .ok (.goto 4, 3) := by decide +kernel
theorem dX4_comes_31 : decode cX4_comes 31 = .ok (.iconst 0, 1) := by decide +kernel
theorem dX4_comes_32 : decode cX4_comes 32 = .ok (.iadd, 1) := by decide +kernel
theorem dX4_comes_33 : decode cX4_comes 33 = .ok (.putfield 93, 3) := by decide +kernel
theorem dX4_comes_36 : decode cX4_comes 36 = .ok (.aload_n 0, 1) := by decide +kernel
theorem dX4_comes_37 : decode cX4_comes 37 = .ok (.getfield 27, 3) := by decide +kernel
theorem dX4_comes_40 : decode cX4_comes 40 = .ok (.iconst 0, 1) := by decide +kernel
theorem dX4_comes_41 : decode cX4_comes 41 = .ok (.iconst 1, 1) := by decide +kernel
theorem dX4_comes_42 : decode cX4_comes 42 = .ok (.iastore, 1) := by decide +kernel
theorem dX4_comes_43 : decode cX4_comes 43 = .ok (.aload_n 0, 1) := by decide +kernel
theorem dX4_comes_44 : decode cX4_comes 44 = .ok (.dup, 1) := by decide +kernel
theorem dX4_comes_45 : decode cX4_comes 45 = .ok (.getfield 90, 3) := by decide +kernel
theorem dX4_comes_48 : decode cX4_comes 48 = .ok (.iconst 1, 1) := by decide +kernel
theorem dX4_comes_49 : decode cX4_comes 49 = .ok (.iadd, 1) := by decide +kernel
theorem dX4_comes_50 : decode cX4_comes 50 = .ok (.putfield 90, 3) := by decide +kernel
theorem dX4_comes_53 : decode cX4_comes 53 = .ok (.iconst 1, 1) := by decide +kernel
theorem dX4_comes_54 : decode cX4_comes 54 = .ok (.ireturn, 1) := by decide +kernel
theorem dX4_goes_0 : decode cX4_goes 0 = .ok (.aload_n 0, 1) := by decide +kernel
theorem dX4_goes_1 : decode cX4_goes 1 = .ok (.getfield 27, 3) := by decide +kernel
theorem dX4_goes_4 : decode cX4_goes 4 = .ok (.aload_n 0, 1) := by decide +kernel
theorem dX4_goes_5 : decode cX4_goes 5 = .ok (.getfield 83, 3) := by decide +kernel
theorem dX4_goes_8 : decode cX4_goes 8 = .ok (.iconst 1, 1) := by decide +kernel
theorem dX4_goes_9 : decode cX4_goes 9 = .ok (.isub, 1) := by decide +kernel
theorem dX4_goes_10 : decode cX4_goes 10 = .ok (.iaload, 1) := by decide +kernel
theorem dX4_goes_11 : decode cX4_goes 11 = .ok (.iconst 1, 1) := by decide +kernel
theorem dX4_goes_12 : decode cX4_goes 12 = .ok (.if_icmp .eq 5, 3) := by decide +kernel
theorem dX4_goes_15 : decode cX4_goes 15 = .ok (.iconst 0, 1) := by decide +kernel
theorem dX4_goes_16 : decode cX4_goes 16 = .ok (.ireturn, 1) := by decide +kernel
theorem dX4_goes_17 : decode cX4_goes 17 = .ok (.aload_n 0, 1) := by decide +kernel
theorem dX4_goes_18 : decode cX4_goes 18 = .ok (.getfield 27, 3) := by decide +kernel
theorem dX4_goes_21 : decode cX4_goes 21 = .ok (.aload_n 0, 1) := by decide +kernel
theorem dX4_goes_22 : decode cX4_goes 22 = .ok (.getfield 83, 3) := by decide +kernel
theorem dX4_goes_25 : decode cX4_goes 25 = .ok (.iconst 1, 1) := by decide +kernel
theorem dX4_goes_26 : decode cX4_goes 26 = .ok (.isub, 1) := by decide +kernel
theorem dX4_goes_27 : decode cX4_goes 27 = .ok (.iconst 0, 1) := by decide +kernel
theorem dX4_goes_28 : decode cX4_goes 28 = .ok (.iastore, 1) := by decide +kernel
theorem dX4_goes_29 : decode cX4_goes 29 = .ok (.aload_n 0, 1) := by decide +kernel
theorem dX4_goes_30 : decode cX4_goes 30 = .ok (.dup, 1) := by decide +kernel
theorem dX4_goes_31 : decode cX4_goes 31 = .ok (.getfield 93, 3) := by decide +kernel
theorem dX4_goes_34 : decode cX4_goes 34 = .ok (.iconst 1, 1) := by decide +kernel
theorem dX4_goes_35 : decode cX4_goes 35 = .ok (.iadd, 1) := by decide +kernel
theorem dX4_goes_36 : decode cX4_goes 36 = .ok (.putfield 93, 3) := by decide +kernel
theorem dX4_goes_39 : decode cX4_goes 39 = .ok (.iconst 1, 1) := by decide +kernel
end
section
theorem dX4_goes_40 : decode cX4_goes 40 = .ok (.ireturn, 1) := by decide +kernel
set_option maxRecDepth 20000 in
theorem ggX4_go_X4_in : GoodIn wsX4_go wsX4_in := goodIn_r _ [12] (by decide +kernel) (by decide +kernel)
set_option maxRecDepth 20000 in
theorem gX4_go_X4_in : GoodIn wsX4_go (va_wsS RX4 43 yX4_in wsX4_in) := goodIn_app (goodIn_of _ (by decide +kernel)) ggX4_go_X4_in
set_option maxRecDepth 20000 in
theorem ggX4_go_X4_changes : GoodIn wsX4_go wsX4_changes := goodIn_r _ [16, 17, 18, 29, 30, 31, 32, 33, 34, 35, 36, 37, 38, 39, 40, 41] (by decide +kernel) (by decide +kernel)
set_option maxRecDepth 20000 in
theorem gX4_go_X4_changes : GoodIn wsX4_go (wsV RX4 114 RX4 yX4_changes wsX4_changes) := goodIn_app (goodIn_of _ (by decide +kernel)) ggX4_go_X4_changes
set_option maxRecDepth 20000 in
theorem ggX4_go_X4_comes : GoodIn wsX4_go wsX4_comes := goodIn_r _ [22, 17, 23, 24, 29, 30, 31, 32, 33, 34, 35, 36, 37, 38, 39, 40, 41] (by decide +kernel) (by decide +kernel)
set_option maxRecDepth 20000 in
theorem gX4_go_X4_comes : GoodIn wsX4_go (wsV RX4 118 RX4 yX4_comes wsX4_comes) := goodIn_app (goodIn_of _ (by decide +kernel)) ggX4_go_X4_comes
set_option maxRecDepth 20000 in
theorem ggX4_go_X4_goes : GoodIn wsX4_go wsX4_goes := goodIn_r _ [28, 17, 2, 23, 29, 30, 31, 32, 33, 34, 35, 36, 37, 38, 39, 40, 41] (by decide +kernel) (by decide +kernel)
set_option maxRecDepth 20000 in
theorem gX4_go_X4_goes : GoodIn wsX4_go (wsV RX4 122 RX4 yX4_goes wsX4_goes) := goodIn_app (goodIn_of _ (by decide +kernel)) ggX4_go_X4_goes
theorem dX4_go_0 : decode cX4_go 0 = .ok (.iload_n 1, 1) := by decide +kernel
theorem dX4_go_1 : decode cX4_go 1 = .ok (.i2l, 1) := by decide +kernel
theorem dX4_go_2 : decode cX4_go 2 = .ok (.lconst 1, 1) := by decide +kernel
theorem dX4_go_3 : decode cX4_go 3 = .ok (.ldc2_w 104, 3) := by decide +kernel
theorem dX4_go_6 : decode cX4_go 6 = .ok (.invokestatic 43, 3) := by decide +kernel
theorem dX4_go_9 : decode cX4_go 9 = .ok (.ifCond .ne 5, 3) := by decide +kernel
theorem dX4_go_12 : decode cX4_go 12 = .ok (.iconst (-1), 1) := by decide +kernel
theorem dX4_go_13 : decode cX4_go 13 = .ok (.ireturn, 1) := by decide +kernel
theorem dX4_go_14 : decode cX4_go 14 = .ok (.aload_n 0, 1) := by decide +kernel
theorem dX4_go_15 : decode cX4_go 15 = .ok (.getfield 83, 3) := by decide +kernel
theorem dX4_go_18 : decode cX4_go 18 = .ok (.ifCond .ne 6, 3) := by decide +kernel
theorem dX4_go_21 : decode cX4_go 21 = .ok (.bipush (-2), 2) := by decide +kernel
theorem dX4_go_23 : decode cX4_go 23 = .ok (.ireturn, 1) := by decide +kernel
theorem dX4_go_24 : decode cX4_go 24 = .ok (.iconst 0, 1) := by decide +kernel
theorem dX4_go_25 : decode cX4_go 25 = .ok (.istore_n 2, 1) := by decide +kernel
theorem dX4_go_26 : decode cX4_go 26 = .ok (.iconst 0, 1) := by decide +kernel
theorem dX4_go_27 : decode cX4_go 27 = .ok (.istore_n 3, 1) := by decide +kernel
theorem dX4_go_28 : decode cX4_go 28 = .ok (.iload_n 3, 1) := by decide +kernel
theorem dX4_go_29 : decode cX4_go 29 = .ok (.iload_n 1, 1) := by decide +kernel
theorem dX4_go_30 : decode cX4_go 30 = .ok (.if_icmp .ge 152, 3) := by decide +kernel
theorem dX4_go_33 : decode cX4_go 33 = .ok (.aload_n 0, 1) := by decide +kernel
theorem dX4_go_34 : decode cX4_go 34 = .ok (.aload_n 0, 1) := by decide +kernel
theorem dX4_go_35 : decode cX4_go 35 = .ok (.getfield 23, 3) := by decide +kernel
theorem dX4_go_38 : decode cX4_go 38 = .ok (.ldc2_w 106, 3) := by decide +kernel
theorem dX4_go_41 : decode cX4_go 41 = .ok (.lmul, 1) := by decide +kernel
theorem dX4_go_42 : decode cX4_go 42 = .ok (.ldc2_w 108, 3) := by decide +kernel
theorem dX4_go_45 : decode cX4_go 45 = .ok (.ladd, 1) := by decide +kernel
theorem dX4_go_46 : decode cX4_go 46 = .ok (.ldc2_w 110, 3) := by decide +kernel
theorem dX4_go_49 : decode cX4_go 49 = .ok (.land, 1) := by decide +kernel
theorem dX4_go_50 : decode cX4_go 50 = .ok (.putfield 23, 3) := by decide +kernel
theorem dX4_go_53 : decode cX4_go 53 = .ok (.aload_n 0, 1) := by decide +kernel
theorem dX4_go_54 : decode cX4_go 54 = .ok (.getfield 23, 3) := by decide +kernel
theorem dX4_go_57 : decode cX4_go 57 = .ok (.ldc2_w 112, 3) := by decide +kernel
theorem dX4_go_60 : decode cX4_go 60 = .ok (.ldiv, 1) := by decide +kernel
theorem dX4_go_61 : decode cX4_go 61 = .ok (.aload_n 0, 1) := by decide +kernel
theorem dX4_go_62 : decode cX4_go 62 = .ok (.getfield 83, 3) := by decide +kernel
theorem dX4_go_65 : decode cX4_go 65 = .ok (.iconst 1, 1) := by decide +kernel
theorem dX4_go_66 : decode cX4_go 66 = .ok (.iadd, 1) := by decide +kernel
theorem dX4_go_67 : decode cX4_go 67 = .ok (.i2l, 1) := by decide +kernel
theorem dX4_go_68 : decode cX4_go 68 = .ok (.lrem, 1) := by decide +kernel
theorem dX4_go_69 : decode cX4_go 69 = .ok (.l2i, 1) := by decide +kernel
theorem dX4_go_70 : decode cX4_go 70 = .ok (.istore 4, 2) := by decide +kernel
theorem dX4_go_72 : decode cX4_go 72 = .ok (.iconst 0, 1) := by decide +kernel
theorem dX4_go_73 : decode cX4_go 73 = .ok (.istore 5, 2) := by decide +kernel
theorem dX4_go_75 : decode cX4_go 75 = .ok (.iload 4, 2) := by decide +kernel
theorem dX4_go_77 : decode cX4_go 77 = .ok (.aload_n 0, 1) := by decide +kernel
theorem dX4_go_78 : decode cX4_go 78 = .ok (.getfield 83, 3) := by decide +kernel
theorem dX4_go_81 : decode cX4_go 81 = .ok (.iconst 1, 1) := by decide +kernel
theorem dX4_go_82 : decode cX4_go 82 = .ok (.isub, 1) := by decide +kernel
theorem dX4_go_83 : decode cX4_go 83 = .ok (.if_icmp .ge 18, 3) := by decide +kernel
theorem dX4_go_86 : decode cX4_go 86 = .ok (.aload_n 0, 1) := by decide +kernel
theorem dX4_go_87 : decode cX4_go 87 = .ok (.iload 4, 2) := by decide +kernel
theorem dX4_go_89 : decode cX4_go 89 = .ok (.iload 4, 2) := by decide +kernel
theorem dX4_go_91 : decode cX4_go 91 = .ok (.iconst 1, 1) := by decide +kernel
theorem dX4_go_92 : decode cX4_go 92 = .ok (.iadd, 1) := by decide +kernel
theorem dX4_go_93 : decode cX4_go 93 = .ok (.invokevirtual 114, 3) := by decide +kernel
theorem dX4_go_96 : decode cX4_go 96 = .ok (.istore 5, 2) := by decide +kernel
theorem dX4_go_98 : decode cX4_go 98 = .ok (.goto 65, 3) := by decide +kernel
theorem dX4_go_101 : decode cX4_go 101 = .ok (.iload 4, 2) := by decide +kernel
theorem dX4_go_103 : decode cX4_go 103 = .ok (.aload_n 0, 1) := by decide +kernel
theorem dX4_go_104 : decode cX4_go 104 = .ok (.getfield 83, 3) := by decide +kernel
theorem dX4_go_107 : decode cX4_go 107 = .ok (.iconst 1, 1) := by decide +kernel
theorem dX4_go_108 : decode cX4_go 108 = .ok (.isub, 1) := by decide +kernel
theorem dX4_go_109 : decode cX4_go 109 = .ok (.if_icmp .ne 33, 3) := by decide +kernel
theorem dX4_go_112 : decode cX4_go 112 = .ok (.aload_n 0, 1) := by decide +kernel
theorem dX4_go_113 : decode cX4_go 113 = .ok (.getfield 86, 3) := by decide +kernel
theorem dX4_go_116 : decode cX4_go 116 = .ok (.ifCond .eq 10, 3) := by decide +kernel
theorem dX4_go_119 : decode cX4_go 119 = .ok (.aload_n 0, 1) := by decide +kernel
theorem dX4_go_120 : decode cX4_go 120 = .ok (.invokevirtual 118, 3) := by decide +kernel
theorem dX4_go_123 : decode cX4_go 123 = .ok (.goto 14, 3) := by decide +kernel
theorem dX4_go_126 : decode cX4_go 126 = .ok (.aload_n 0, 1) := by decide +kernel
theorem dX4_go_127 : decode cX4_go 127 = .ok (.aload_n 0, 1) := by decide +kernel
theorem dX4_go_128 : decode cX4_go 128 = .ok (.getfield 83, 3) := by decide +kernel
theorem dX4_go_131 : decode cX4_go 131 = .ok (.iconst 1, 1) := by decide +kernel
theorem dX4_go_132 : decode cX4_go 132 = .ok (.isub, 1) := by decide +kernel
theorem dX4_go_133 : decode cX4_go 133 = .ok (.iconst 0, 1) := by decide +kernel
theorem dX4_go_134 : decode cX4_go 134 = .ok (.invokevirtual 114, 3) := by decide +kernel
theorem dX4_go_137 : decode cX4_go 137 = .ok (.istore 5, 2) := by decide +kernel
theorem dX4_go_139 : decode cX4_go 139 = .ok (.goto 24, 3) := by decide +kernel
theorem dX4_go_142 : decode cX4_go 142 = .ok (.aload_n 0, 1) := by decide +kernel
theorem dX4_go_143 : decode cX4_go 143 = .ok (.getfield 86, 3) := by decide +kernel
theorem dX4_go_146 : decode cX4_go 146 = .ok (.ifCond .eq 14, 3) := by decide +kernel
theorem dX4_go_149 : decode cX4_go 149 = .ok (.aload_n 0, 1) := by decide +kernel
theorem dX4_go_150 : decode cX4_go 150 = .ok (.invokevirtual 122, 3) := by decide +kernel
theorem dX4_go_153 : decode cX4_go 153 = .ok (.ifCond .eq 7, 3) := by decide +kernel
theorem dX4_go_156 : decode cX4_go 156 = .ok (.iconst 1, 1) := by decide +kernel
theorem dX4_go_157 : decode cX4_go 157 = .ok (.goto 4, 3) := by decide +kernel
theorem dX4_go_160 : decode cX4_go 160 = .ok (.iconst 0, 1) := by decide +kernel
theorem dX4_go_161 : decode cX4_go 161 = .ok (.istore 5, 2) := by decide +kernel
theorem dX4_go_163 : decode cX4_go 163 = .ok (.iload_n 2, 1) := by decide +kernel
theorem dX4_go_164 : decode cX4_go 164 = .ok (.iload 5, 2) := by decide +kernel
theorem dX4_go_166 : decode cX4_go 166 = .ok (.ifCond .eq 7, 3) := by decide +kernel
theorem dX4_go_169 : decode cX4_go 169 = .ok (.iconst 1, 1) := by decide +kernel
theorem dX4_go_170 : decode cX4_go 170 = .ok (.goto 4, 3) := by decide +kernel
theorem dX4_go_173 : decode cX4_go 173 = .ok (.iconst 0, 1) := by decide +kernel
theorem dX4_go_174 : decode cX4_go 174 = .ok (.iadd, 1) := by decide +kernel
theorem dX4_go_175 : decode cX4_go 175 = .ok (.istore_n 2, 1) := by decide +kernel
theorem dX4_go_176 : decode cX4_go 176 = .ok (.iinc 3 1, 3) := by decide +kernel
theorem dX4_go_179 : decode cX4_go 179 = .ok (.goto (-151), 3) := by decide +kernel
theorem dX4_go_182 : decode cX4_go 182 = .ok (.iload_n 2, 1) := by decide +kernel
theorem dX4_go_183 : decode cX4_go 183 = .ok (.ireturn, 1) := by decide +kernel
set_option maxRecDepth 20000 in
theorem ggX4_together_X4_in : GoodIn wsX4_together wsX4_in := goodIn_r _ [12] (by decide +kernel) (by decide +kernel)
set_option maxRecDepth 20000 in
theorem gX4_together_X4_in : GoodIn wsX4_together (va_wsS RX4 43 yX4_in wsX4_in) := goodIn_app (goodIn_of _ (by decide +kernel)) ggX4_together_X4_in
theorem dX4_together_0 : decode cX4_together 0 = .ok (.iload_n 1, 1) := by decide +kernel
theorem dX4_together_1 : decode cX4_together 1 = .ok (.i2l, 1) := by decide +kernel
theorem dX4_together_2 : decode cX4_together 2 = .ok (.lconst 1, 1) := by decide +kernel
theorem dX4_together_3 : decode cX4_together 3 = .ok (.ldc2_w 125, 3) := by decide +kernel
theorem dX4_together_6 : decode cX4_together 6 = .ok (.invokestatic 43, 3) := by decide +kernel
theorem dX4_together_9 : decode cX4_together 9 = .ok (.ifCond .ne 5, 3) := by decide +kernel
theorem dX4_together_12 : decode cX4_together 12 = .ok (.iconst (-1), 1) := by decide +kernel
theorem dX4_together_13 : decode cX4_together 13 = .ok (.ireturn, 1) := by decide +kernel
theorem dX4_together_14 : decode cX4_together 14 = .ok (.aload_n 0, 1) := by decide +kernel
theorem dX4_together_15 : decode cX4_together 15 = .ok (.getfield 83, 3) := by decide +kernel
theorem dX4_together_18 : decode cX4_together 18 = .ok (.ifCond .ne 7, 3) := by decide +kernel
theorem dX4_together_21 : decode cX4_together 21 = .ok (.iconst 1, 1) := by decide +kernel
theorem dX4_together_22 : decode cX4_together 22 = .ok (.goto 4, 3) := by decide +kernel
theorem dX4_together_25 : decode cX4_together 25 = .ok (.iconst 0, 1) := by decide +kernel
theorem dX4_together_26 : decode cX4_together 26 = .ok (.istore_n 2, 1) := by decide +kernel
theorem dX4_together_27 : decode cX4_together 27 = .ok (.iconst 0, 1) := by decide +kernel
theorem dX4_together_28 : decode cX4_together 28 = .ok (.istore_n 3, 1) := by decide +kernel
theorem dX4_together_29 : decode cX4_together 29 = .ok (.iload_n 3, 1) := by decide +kernel
theorem dX4_together_30 : decode cX4_together 30 = .ok (.aload_n 0, 1) := by decide +kernel
theorem dX4_together_31 : decode cX4_together 31 = .ok (.getfield 83, 3) := by decide +kernel
theorem dX4_together_34 : decode cX4_together 34 = .ok (.if_icmp .ge 29, 3) := by decide +kernel
theorem dX4_together_37 : decode cX4_together 37 = .ok (.iload_n 2, 1) := by decide +kernel
theorem dX4_together_38 : decode cX4_together 38 = .ok (.ifCond .ne 13, 3) := by decide +kernel
theorem dX4_together_41 : decode cX4_together 41 = .ok (.aload_n 0, 1) := by decide +kernel
theorem dX4_together_42 : decode cX4_together 42 = .ok (.getfield 27, 3) := by decide +kernel
theorem dX4_together_45 : decode cX4_together 45 = .ok (.iload_n 3, 1) := by decide +kernel
theorem dX4_together_46 : decode cX4_together 46 = .ok (.iaload, 1) := by decide +kernel
theorem dX4_together_47 : decode cX4_together 47 = .ok (.iconst 2, 1) := by decide +kernel
theorem dX4_together_48 : decode cX4_together 48 = .ok (.if_icmp .ne 7, 3) := by decide +kernel
theorem dX4_together_51 : decode cX4_together 51 = .ok (.iconst 1, 1) := by decide +kernel
theorem dX4_together_52 : decode cX4_together 52 = .ok (.goto 4, 3) := by decide +kernel
theorem dX4_together_55 : decode cX4_together 55 = .ok (.iconst 0, 1) := by decide +kernel
theorem dX4_together_56 : decode cX4_together 56 = .ok (.istore_n 2, 1) := by decide +kernel
theorem dX4_together_57 : decode cX4_together 57 = .ok (.iinc 3 1, 3) := by decide +kernel
theorem dX4_together_60 : decode cX4_together 60 = .ok (.goto (-31), 3) := by decide +kernel
theorem dX4_together_63 : decode cX4_together 63 = .ok (.iload_n 2, 1) := by decide +kernel
theorem dX4_together_64 : decode cX4_together 64 = .ok (.ifCond .eq 6, 3) := by decide +kernel
theorem dX4_together_67 : decode cX4_together 67 = .ok (.bipush (-2), 2) := by decide +kernel
theorem dX4_together_69 : decode cX4_together 69 = .ok (.ireturn, 1) := by decide +kernel
theorem dX4_together_70 : decode cX4_together 70 = .ok (.iconst 0, 1) := by decide +kernel
theorem dX4_together_71 : decode cX4_together 71 = .ok (.istore_n 3, 1) := by decide +kernel
theorem dX4_together_72 : decode cX4_together 72 = .ok (.iconst 0, 1) := by decide +kernel
theorem dX4_together_73 : decode cX4_together 73 = .ok (.istore 4, 2) := by decide +kernel
theorem dX4_together_75 : decode cX4_together 75 = .ok (.iload 4, 2) := by decide +kernel
theorem dX4_together_77 : decode cX4_together 77 = .ok (.iload_n 1, 1) := by decide +kernel
theorem dX4_together_78 : decode cX4_together 78 = .ok (.if_icmp .ge 219, 3) := by decide +kernel
theorem dX4_together_81 : decode cX4_together 81 = .ok (.iconst 0, 1) := by decide +kernel
theorem dX4_together_82 : decode cX4_together 82 = .ok (.istore 5, 2) := by decide +kernel
theorem dX4_together_84 : decode cX4_together 84 = .ok (.iload 5, 2) := by decide +kernel
theorem dX4_together_86 : decode cX4_together 86 = .ok (.aload_n 0, 1) := by decide +kernel
theorem dX4_together_87 : decode cX4_together 87 = .ok (.getfield 83, 3) := by decide +kernel
theorem dX4_together_90 : decode cX4_together 90 = .ok (.if_icmp .ge 23, 3) := by decide +kernel
theorem dX4_together_93 : decode cX4_together 93 = .ok (.aload_n 0, 1) := by decide +kernel
theorem dX4_together_94 : decode cX4_together 94 = .ok (.getfield 31, 3) := by decide +kernel
theorem dX4_together_97 : decode cX4_together 97 = .ok (.iload 5, 2) := by decide +kernel
theorem dX4_together_99 : decode cX4_together 99 = .ok (.aload_n 0, 1) := by decide +kernel
theorem dX4_together_100 : decode cX4_together 100 = .ok (.getfield 27, 3) := by decide +kernel
theorem dX4_together_103 : decode cX4_together 103 = .ok (.iload 5, 2) := by decide +kernel
theorem dX4_together_105 : decode cX4_together 105 = .ok (.iaload, 1) := by decide +kernel
theorem dX4_together_106 : decode cX4_together 106 = .ok (.iastore, 1) := by decide +kernel
theorem dX4_together_107 : decode cX4_together 107 = .ok (.iinc 5 1, 3) := by decide +kernel
theorem dX4_together_110 : decode cX4_together 110 = .ok (.goto (-26), 3) := by decide +kernel
theorem dX4_together_113 : decode cX4_together 113 = .ok (.iconst 0, 1) := by decide +kernel
theorem dX4_together_114 : decode cX4_together 114 = .ok (.istore 5, 2) := by decide +kernel
theorem dX4_together_116 : decode cX4_together 116 = .ok (.iload 5, 2) := by decide +kernel
theorem dX4_together_118 : decode cX4_together 118 = .ok (.aload_n 0, 1) := by decide +kernel
theorem dX4_together_119 : decode cX4_together 119 = .ok (.getfield 83, 3) := by decide +kernel
theorem dX4_together_122 : decode cX4_together 122 = .ok (.if_icmp .ge 92, 3) := by decide +kernel
theorem dX4_together_125 : decode cX4_together 125 = .ok (.iload 5, 2) := by decide +kernel
theorem dX4_together_127 : decode cX4_together 127 = .ok (.iconst 1, 1) := by decide +kernel
theorem dX4_together_128 : decode cX4_together 128 = .ok (.iadd, 1) := by decide +kernel
theorem dX4_together_129 : decode cX4_together 129 = .ok (.aload_n 0, 1) := by decide +kernel
theorem dX4_together_130 : decode cX4_together 130 = .ok (.getfield 83, 3) := by decide +kernel
theorem dX4_together_133 : decode cX4_together 133 = .ok (.if_icmp .ne 7, 3) := by decide +kernel
theorem dX4_together_136 : decode cX4_together 136 = .ok (.iconst 0, 1) := by decide +kernel
theorem dX4_together_137 : decode cX4_together 137 = .ok (.goto 7, 3) := by decide +kernel
theorem dX4_together_140 : decode cX4_together 140 = .ok (.iload 5, 2) := by decide +kernel
theorem dX4_together_142 : decode cX4_together 142 = .ok (.iconst 1, 1) := by decide +kernel
theorem dX4_together_143 : decode cX4_together 143 = .ok (.iadd, 1) := by decide +kernel
theorem dX4_together_144 : decode cX4_together 144 = .ok (.istore 6, 2) := by decide +kernel
theorem dX4_together_146 : decode cX4_together 146 = .ok (.aload_n 0, 1) := by decide +kernel
theorem dX4_together_147 : decode cX4_together 147 = .ok (.getfield 31, 3) := by decide +kernel
theorem dX4_together_150 : decode cX4_together 150 = .ok (.iload 5, 2) := by decide +kernel
theorem dX4_together_152 : decode cX4_together 152 = .ok (.iaload, 1) := by decide +kernel
theorem dX4_together_153 : decode cX4_together 153 = .ok (.iconst 1, 1) := by decide +kernel
theorem dX4_together_154 : decode cX4_together 154 = .ok (.if_icmp .ne 54, 3) := by decide +kernel
theorem dX4_together_157 : decode cX4_together 157 = .ok (.aload_n 0, 1) := by decide +kernel
theorem dX4_together_158 : decode cX4_together 158 = .ok (.getfield 31, 3) := by decide +kernel
theorem dX4_together_161 : decode cX4_together 161 = .ok (.iload 6, 2) := by decide +kernel
theorem dX4_together_163 : decode cX4_together 163 = .ok (.iaload, 1) := by decide +kernel
theorem dX4_together_164 : decode cX4_together 164 = .ok (.ifCond .ne 44, 3) := by decide +kernel
theorem dX4_together_167 : decode cX4_together 167 = .ok (.iload 6, 2) := by decide +kernel
theorem dX4_together_169 : decode cX4_together 169 = .ok (.ifCond .gt 10, 3) := by decide +kernel
theorem dX4_together_172 : decode cX4_together 172 = .ok (.aload_n 0, 1) := by decide +kernel
theorem dX4_together_173 : decode cX4_together 173 = .ok (.getfield 86, 3) := by decide +kernel
theorem dX4_together_176 : decode cX4_together 176 = .ok (.ifCond .ne 32, 3) := by decide +kernel
theorem dX4_together_179 : decode cX4_together 179 = .ok (.aload_n 0, 1) := by decide +kernel
theorem dX4_together_180 : decode cX4_together 180 = .ok (.getfield 27, 3) := by decide +kernel
theorem dX4_together_183 : decode cX4_together 183 = .ok (.iload 5, 2) := by decide +kernel
theorem dX4_together_185 : decode cX4_together 185 = .ok (.iconst 0, 1) := by decide +kernel
theorem dX4_together_186 : decode cX4_together 186 = .ok (.iastore, 1) := by decide +kernel
theorem dX4_together_187 : decode cX4_together 187 = .ok (.aload_n 0, 1) := by decide +kernel
theorem dX4_together_188 : decode cX4_together 188 = .ok (.getfield 27, 3) := by decide +kernel
theorem dX4_together_191 : decode cX4_together 191 = .ok (.iload 6, 2) := by decide +kernel
theorem dX4_together_193 : decode cX4_together 193 = .ok (.iconst 1, 1) := by decide +kernel
theorem dX4_together_194 : decode cX4_together 194 = .ok (.iastore, 1) := by decide +kernel
theorem dX4_together_195 : decode cX4_together 195 = .ok (.iinc 3 1, 3) := by decide +kernel
theorem dX4_together_198 : decode cX4_together 198 = .ok (.aload_n 0, 1) := by decide +kernel
theorem dX4_together_199 : decode cX4_together 199 = .ok (.dup, 1) := by decide +kernel
theorem dX4_together_200 : decode cX4_together 200 = .ok (.getfield 96, 3) := by decide +kernel
theorem dX4_together_203 : decode cX4_together 203 = .ok (.iconst 1, 1) := by decide +kernel
theorem dX4_together_204 : decode cX4_together 204 = .ok (.iadd, 1) := by decide +kernel
theorem dX4_together_205 : decode cX4_together 205 = .ok (.putfield 96, 3) := by decide +kernel
theorem dX4_together_208 : decode cX4_together 208 = .ok (.iinc 5 1, 3) := by decide +kernel
theorem dX4_together_211 : decode cX4_together 211 = .ok (.goto (-95), 3) := by decide +kernel
theorem dX4_together_214 : decode cX4_together 214 = .ok (.aload_n 0, 1) := by decide +kernel
theorem dX4_together_215 : decode cX4_together 215 = .ok (.getfield 86, 3) := by decide +kernel
theorem dX4_together_218 : decode cX4_together 218 = .ok (.ifCond .eq 40, 3) := by decide +kernel
theorem dX4_together_221 : decode cX4_together 221 = .ok (.aload_n 0, 1) := by decide +kernel
theorem dX4_together_222 : decode cX4_together 222 = .ok (.getfield 31, 3) := by decide +kernel
theorem dX4_together_225 : decode cX4_together 225 = .ok (.aload_n 0, 1) := by decide +kernel
theorem dX4_together_226 : decode cX4_together 226 = .ok (.getfield 83, 3) := by decide +kernel
theorem dX4_together_229 : decode cX4_together 229 = .ok (.iconst 1, 1) := by decide +kernel
theorem dX4_together_230 : decode cX4_together 230 = .ok (.isub, 1) := by decide +kernel
theorem dX4_together_231 : decode cX4_together 231 = .ok (.iaload, 1) := by decide +kernel
theorem dX4_together_232 : decode cX4_together 232 = .ok (.iconst 1, 1) := by decide +kernel
theorem dX4_together_233 : decode cX4_together 233 = .ok (.if_icmp .ne 25, 3) := by decide +kernel
theorem dX4_together_236 : decode cX4_together 236 = .ok (.aload_n 0, 1) := by decide +kernel
theorem dX4_together_237 : decode cX4_together 237 = .ok (.getfield 27, 3) := by decide +kernel
theorem dX4_together_240 : decode cX4_together 240 = .ok (.aload_n 0, 1) := by decide +kernel
theorem dX4_together_241 : decode cX4_together 241 = .ok (.getfield 83, 3) := by decide +kernel
theorem dX4_together_244 : decode cX4_together 244 = .ok (.iconst 1, 1) := by decide +kernel
theorem dX4_together_245 : decode cX4_together 245 = .ok (.isub, 1) := by decide +kernel
theorem dX4_together_246 : decode cX4_together 246 = .ok (.iconst 0, 1) := by decide +kernel
theorem dX4_together_247 : decode cX4_together 247 = .ok (.iastore, 1) := by decide +kernel
theorem dX4_together_248 : decode cX4_together 248 = .ok (.aload_n 0, 1) := by decide +kernel
theorem dX4_together_249 : decode cX4_together 249 = .ok (.dup, 1) := by decide +kernel
theorem dX4_together_250 : decode cX4_together 250 = .ok (.getfield 93, 3) := by decide +kernel
theorem dX4_together_253 : decode cX4_together 253 = .ok (.iconst 1, 1) := by decide +kernel
theorem dX4_together_254 : decode cX4_together 254 = .ok (.iadd, 1) := by decide +kernel
theorem dX4_together_255 : decode cX4_together 255 = .ok (.putfield 93, 3) := by decide +kernel
theorem dX4_together_258 : decode cX4_together 258 = .ok (.aload_n 0, 1) := by decide +kernel
theorem dX4_together_259 : decode cX4_together 259 = .ok (.getfield 86, 3) := by decide +kernel
theorem dX4_together_262 : decode cX4_together 262 = .ok (.ifCond .eq 29, 3) := by decide +kernel
theorem dX4_together_265 : decode cX4_together 265 = .ok (.aload_n 0, 1) := by decide +kernel
theorem dX4_together_266 : decode cX4_together 266 = .ok (.getfield 31, 3) := by decide +kernel
theorem dX4_together_269 : decode cX4_together 269 = .ok (.iconst 0, 1) := by decide +kernel
theorem dX4_together_270 : decode cX4_together 270 = .ok (.iaload, 1) := by decide +kernel
theorem dX4_together_271 : decode cX4_together 271 = .ok (.ifCond .ne 20, 3) := by decide +kernel
theorem dX4_together_274 : decode cX4_together 274 = .ok (.aload_n 0, 1) := by decide +kernel
theorem dX4_together_275 : decode cX4_together 275 = .ok (.getfield 27, 3) := by decide +kernel
theorem dX4_together_278 : decode cX4_together 278 = .ok (.iconst 0, 1) := by decide +kernel
theorem dX4_together_279 : decode cX4_together 279 = .ok (.iconst 1, 1) := by decide +kernel
theorem dX4_together_280 : decode cX4_together 280 = .ok (.iastore, 1) := by decide +kernel
theorem dX4_together_281 : decode cX4_together 281 = .ok (.aload_n 0, 1) := by decide +kernel
theorem dX4_together_282 : decode cX4_together 282 = .ok (.dup, 1) := by decide +kernel
theorem dX4_together_283 : decode cX4_together 283 = .ok (.getfield 90, 3) := by decide +kernel
theorem dX4_together_286 : decode cX4_together 286 = .ok (.iconst 1, 1) := by decide +kernel
theorem dX4_together_287 : decode cX4_together 287 = .ok (.iadd, 1) := by decide +kernel
theorem dX4_together_288 : decode cX4_together 288 = .ok (.putfield 90, 3) := by decide +kernel
theorem dX4_together_291 : decode cX4_together 291 = .ok (.iinc 4 1, 3) := by decide +kernel
theorem dX4_together_294 : decode cX4_together 294 = .ok (.goto (-219), 3) := by decide +kernel
theorem dX4_together_297 : decode cX4_together 297 = .ok (.iload_n 3, 1) := by decide +kernel
theorem dX4_together_298 : decode cX4_together 298 = .ok (.ireturn, 1) := by decide +kernel
set_option maxRecDepth 20000 in
theorem ggX4_at_X4_isPlace : GoodIn wsX4_at wsX4_isPlace := goodIn_r _ [7, 1, 8, 9, 10, 6, 11, 12, 13, 14, 15, 16, 17, 18, 19, 20, 21, 22, 23, 24] (by decide +kernel) (by decide +kernel)
set_option maxRecDepth 20000 in
theorem gX4_at_X4_isPlace : GoodIn wsX4_at (wsV RX4 101 RX4 yX4_isPlace wsX4_isPlace) := goodIn_app (goodIn_of _ (by decide +kernel)) ggX4_at_X4_isPlace
theorem dX4_at_0 : decode cX4_at 0 = .ok (.aload_n 0, 1) := by decide +kernel
theorem dX4_at_1 : decode cX4_at 1 = .ok (.iload_n 1, 1) := by decide +kernel
theorem dX4_at_2 : decode cX4_at 2 = .ok (.invokevirtual 101, 3) := by decide +kernel
theorem dX4_at_5 : decode cX4_at 5 = .ok (.ifCond .ne 5, 3) := by decide +kernel
theorem dX4_at_8 : decode cX4_at 8 = .ok (.iconst (-1), 1) := by decide +kernel
theorem dX4_at_9 : decode cX4_at 9 = .ok (.ireturn, 1) := by decide +kernel
theorem dX4_at_10 : decode cX4_at 10 = .ok (.aload_n 0, 1) := by decide +kernel
theorem dX4_at_11 : decode cX4_at 11 = .ok (.getfield 83, 3) := by decide +kernel
theorem dX4_at_14 : decode cX4_at 14 = .ok (.ifCond .ne 8, 3) := by decide +kernel
theorem dX4_at_17 : decode cX4_at 17 = .ok (.bipush (-2), 2) := by decide +kernel
theorem dX4_at_19 : decode cX4_at 19 = .ok (.goto 9, 3) := by decide +kernel
theorem dX4_at_22 : decode cX4_at 22 = .ok (.aload_n 0, 1) := by decide +kernel
theorem dX4_at_23 : decode cX4_at 23 = .ok (.getfield 27, 3) := by decide +kernel
theorem dX4_at_26 : decode cX4_at 26 = .ok (.iload_n 1, 1) := by decide +kernel
theorem dX4_at_27 : decode cX4_at 27 = .ok (.iaload, 1) := by decide +kernel
theorem dX4_at_28 : decode cX4_at 28 = .ok (.ireturn, 1) := by decide +kernel
set_option maxRecDepth 20000 in
theorem ggX4_told_X4_in : GoodIn wsX4_told wsX4_in := goodIn_r _ [11] (by decide +kernel) (by decide +kernel)
set_option maxRecDepth 20000 in
theorem gX4_told_X4_in : GoodIn wsX4_told (va_wsS RX4 43 yX4_in wsX4_in) := goodIn_app (goodIn_of _ (by decide +kernel)) ggX4_told_X4_in
theorem dX4_told_0 : decode cX4_told 0 = .ok (.iload_n 1, 1) := by decide +kernel
theorem dX4_told_1 : decode cX4_told 1 = .ok (.i2l, 1) := by decide +kernel
theorem dX4_told_2 : decode cX4_told 2 = .ok (.lconst 0, 1) := by decide +kernel
theorem dX4_told_3 : decode cX4_told 3 = .ok (.ldc2_w 127, 3) := by decide +kernel
theorem dX4_told_6 : decode cX4_told 6 = .ok (.invokestatic 43, 3) := by decide +kernel
theorem dX4_told_9 : decode cX4_told 9 = .ok (.ifCond .ne 5, 3) := by decide +kernel
theorem dX4_told_12 : decode cX4_told 12 = .ok (.iconst (-1), 1) := by decide +kernel
theorem dX4_told_13 : decode cX4_told 13 = .ok (.ireturn, 1) := by decide +kernel
theorem dX4_told_14 : decode cX4_told 14 = .ok (.aload_n 0, 1) := by decide +kernel
theorem dX4_told_15 : decode cX4_told 15 = .ok (.getfield 83, 3) := by decide +kernel
theorem dX4_told_18 : decode cX4_told 18 = .ok (.ifCond .ne 6, 3) := by decide +kernel
theorem dX4_told_21 : decode cX4_told 21 = .ok (.bipush (-2), 2) := by decide +kernel
theorem dX4_told_23 : decode cX4_told 23 = .ok (.ireturn, 1) := by decide +kernel
theorem dX4_told_24 : decode cX4_told 24 = .ok (.iconst 0, 1) := by decide +kernel
theorem dX4_told_25 : decode cX4_told 25 = .ok (.istore_n 2, 1) := by decide +kernel
theorem dX4_told_26 : decode cX4_told 26 = .ok (.iconst 0, 1) := by decide +kernel
theorem dX4_told_27 : decode cX4_told 27 = .ok (.istore_n 3, 1) := by decide +kernel
theorem dX4_told_28 : decode cX4_told 28 = .ok (.iconst 0, 1) := by decide +kernel
theorem dX4_told_29 : decode cX4_told 29 = .ok (.istore 4, 2) := by decide +kernel
theorem dX4_told_31 : decode cX4_told 31 = .ok (.iconst 0, 1) := by decide +kernel
theorem dX4_told_32 : decode cX4_told 32 = .ok (.istore 5, 2) := by decide +kernel
theorem dX4_told_34 : decode cX4_told 34 = .ok (.iload 5, 2) := by decide +kernel
theorem dX4_told_36 : decode cX4_told 36 = .ok (.aload_n 0, 1) := by decide +kernel
theorem dX4_told_37 : decode cX4_told 37 = .ok (.getfield 83, 3) := by decide +kernel
theorem dX4_told_40 : decode cX4_told 40 = .ok (.if_icmp .ge 111, 3) := by decide +kernel
theorem dX4_told_43 : decode cX4_told 43 = .ok (.iload 5, 2) := by decide +kernel
theorem dX4_told_45 : decode cX4_told 45 = .ok (.iconst 1, 1) := by decide +kernel
theorem dX4_told_46 : decode cX4_told 46 = .ok (.iadd, 1) := by decide +kernel
theorem dX4_told_47 : decode cX4_told 47 = .ok (.aload_n 0, 1) := by decide +kernel
theorem dX4_told_48 : decode cX4_told 48 = .ok (.getfield 83, 3) := by decide +kernel
theorem dX4_told_51 : decode cX4_told 51 = .ok (.if_icmp .ne 7, 3) := by decide +kernel
theorem dX4_told_54 : decode cX4_told 54 = .ok (.iconst 0, 1) := by decide +kernel
theorem dX4_told_55 : decode cX4_told 55 = .ok (.goto 7, 3) := by decide +kernel
theorem dX4_told_58 : decode cX4_told 58 = .ok (.iload 5, 2) := by decide +kernel
theorem dX4_told_60 : decode cX4_told 60 = .ok (.iconst 1, 1) := by decide +kernel
theorem dX4_told_61 : decode cX4_told 61 = .ok (.iadd, 1) := by decide +kernel
theorem dX4_told_62 : decode cX4_told 62 = .ok (.istore 6, 2) := by decide +kernel
theorem dX4_told_64 : decode cX4_told 64 = .ok (.iload_n 2, 1) := by decide +kernel
theorem dX4_told_65 : decode cX4_told 65 = .ok (.aload_n 0, 1) := by decide +kernel
theorem dX4_told_66 : decode cX4_told 66 = .ok (.getfield 27, 3) := by decide +kernel
theorem dX4_told_69 : decode cX4_told 69 = .ok (.iload 5, 2) := by decide +kernel
theorem dX4_told_71 : decode cX4_told 71 = .ok (.iaload, 1) := by decide +kernel
theorem dX4_told_72 : decode cX4_told 72 = .ok (.iconst 1, 1) := by decide +kernel
theorem dX4_told_73 : decode cX4_told 73 = .ok (.if_icmp .ne 7, 3) := by decide +kernel
theorem dX4_told_76 : decode cX4_told 76 = .ok (.iconst 1, 1) := by decide +kernel
theorem dX4_told_77 : decode cX4_told 77 = .ok (.goto 4, 3) := by decide +kernel
theorem dX4_told_80 : decode cX4_told 80 = .ok (.iconst 0, 1) := by decide +kernel
theorem dX4_told_81 : decode cX4_told 81 = .ok (.iadd, 1) := by decide +kernel
theorem dX4_told_82 : decode cX4_told 82 = .ok (.istore_n 2, 1) := by decide +kernel
theorem dX4_told_83 : decode cX4_told 83 = .ok (.iload_n 3, 1) := by decide +kernel
theorem dX4_told_84 : decode cX4_told 84 = .ok (.aload_n 0, 1) := by decide +kernel
theorem dX4_told_85 : decode cX4_told 85 = .ok (.getfield 27, 3) := by decide +kernel
theorem dX4_told_88 : decode cX4_told 88 = .ok (.iload 5, 2) := by decide +kernel
theorem dX4_told_90 : decode cX4_told 90 = .ok (.iaload, 1) := by decide +kernel
theorem dX4_told_91 : decode cX4_told 91 = .ok (.iconst 2, 1) := by decide +kernel
theorem dX4_told_92 : decode cX4_told 92 = .ok (.if_icmp .ne 7, 3) := by decide +kernel
theorem dX4_told_95 : decode cX4_told 95 = .ok (.iconst 1, 1) := by decide +kernel
theorem dX4_told_96 : decode cX4_told 96 = .ok (.goto 4, 3) := by decide +kernel
theorem dX4_told_99 : decode cX4_told 99 = .ok (.iconst 0, 1) := by decide +kernel
theorem dX4_told_100 : decode cX4_told 100 = .ok (.iadd, 1) := by decide +kernel
theorem dX4_told_101 : decode cX4_told 101 = .ok (.istore_n 3, 1) := by decide +kernel
theorem dX4_told_102 : decode cX4_told 102 = .ok (.iload 4, 2) := by decide +kernel
theorem dX4_told_104 : decode cX4_told 104 = .ok (.aload_n 0, 1) := by decide +kernel
theorem dX4_told_105 : decode cX4_told 105 = .ok (.getfield 27, 3) := by decide +kernel
theorem dX4_told_108 : decode cX4_told 108 = .ok (.iload 5, 2) := by decide +kernel
theorem dX4_told_110 : decode cX4_told 110 = .ok (.iaload, 1) := by decide +kernel
theorem dX4_told_111 : decode cX4_told 111 = .ok (.iconst 1, 1) := by decide +kernel
theorem dX4_told_112 : decode cX4_told 112 = .ok (.if_icmp .ne 29, 3) := by decide +kernel
theorem dX4_told_115 : decode cX4_told 115 = .ok (.aload_n 0, 1) := by decide +kernel
theorem dX4_told_116 : decode cX4_told 116 = .ok (.getfield 27, 3) := by decide +kernel
theorem dX4_told_119 : decode cX4_told 119 = .ok (.iload 6, 2) := by decide +kernel
theorem dX4_told_121 : decode cX4_told 121 = .ok (.iaload, 1) := by decide +kernel
theorem dX4_told_122 : decode cX4_told 122 = .ok (.ifCond .ne 19, 3) := by decide +kernel
theorem dX4_told_125 : decode cX4_told 125 = .ok (.iload 6, 2) := by decide +kernel
theorem dX4_told_127 : decode cX4_told 127 = .ok (.ifCond .gt 10, 3) := by decide +kernel
theorem dX4_told_130 : decode cX4_told 130 = .ok (.aload_n 0, 1) := by decide +kernel
theorem dX4_told_131 : decode cX4_told 131 = .ok (.getfield 86, 3) := by decide +kernel
theorem dX4_told_134 : decode cX4_told 134 = .ok (.ifCond .ne 7, 3) := by decide +kernel
theorem dX4_told_137 : decode cX4_told 137 = .ok (.iconst 1, 1) := by decide +kernel
theorem dX4_told_138 : decode cX4_told 138 = .ok (.goto 4, 3) := by decide +kernel
theorem dX4_told_141 : decode cX4_told 141 = .ok (.iconst 0, 1) := by decide +kernel
theorem dX4_told_142 : decode cX4_told 142 = .ok (.iadd, 1) := by decide +kernel
theorem dX4_told_143 : decode cX4_told 143 = .ok (.istore 4, 2) := by decide +kernel
theorem dX4_told_145 : decode cX4_told 145 = .ok (.iinc 5 1, 3) := by decide +kernel
theorem dX4_told_148 : decode cX4_told 148 = .ok (.goto (-114), 3) := by decide +kernel
theorem dX4_told_151 : decode cX4_told 151 = .ok (.iload_n 1, 1) := by decide +kernel
theorem dX4_told_152 : decode cX4_told 152 = .ok (.tableswitch 81 0 6 #[44, 49, 62, 67, 72, 77, 79], 44) := by decide +kernel
theorem dX4_told_196 : decode cX4_told 196 = .ok (.aload_n 0, 1) := by decide +kernel
theorem dX4_told_197 : decode cX4_told 197 = .ok (.getfield 83, 3) := by decide +kernel
theorem dX4_told_200 : decode cX4_told 200 = .ok (.ireturn, 1) := by decide +kernel
theorem dX4_told_201 : decode cX4_told 201 = .ok (.aload_n 0, 1) := by decide +kernel
theorem dX4_told_202 : decode cX4_told 202 = .ok (.getfield 86, 3) := by decide +kernel
theorem dX4_told_205 : decode cX4_told 205 = .ok (.ifCond .eq 7, 3) := by decide +kernel
theorem dX4_told_208 : decode cX4_told 208 = .ok (.iconst 1, 1) := by decide +kernel
theorem dX4_told_209 : decode cX4_told 209 = .ok (.goto 4, 3) := by decide +kernel
theorem dX4_told_212 : decode cX4_told 212 = .ok (.iconst 0, 1) := by decide +kernel
theorem dX4_told_213 : decode cX4_told 213 = .ok (.ireturn, 1) := by decide +kernel
theorem dX4_told_214 : decode cX4_told 214 = .ok (.aload_n 0, 1) := by decide +kernel
theorem dX4_told_215 : decode cX4_told 215 = .ok (.getfield 90, 3) := by decide +kernel
theorem dX4_told_218 : decode cX4_told 218 = .ok (.ireturn, 1) := by decide +kernel
theorem dX4_told_219 : decode cX4_told 219 = .ok (.aload_n 0, 1) := by decide +kernel
theorem dX4_told_220 : decode cX4_told 220 = .ok (.getfield 93, 3) := by decide +kernel
theorem dX4_told_223 : decode cX4_told 223 = .ok (.ireturn, 1) := by decide +kernel
theorem dX4_told_224 : decode cX4_told 224 = .ok (.aload_n 0, 1) := by decide +kernel
theorem dX4_told_225 : decode cX4_told 225 = .ok (.getfield 96, 3) := by decide +kernel
theorem dX4_told_228 : decode cX4_told 228 = .ok (.ireturn, 1) := by decide +kernel
theorem dX4_told_229 : decode cX4_told 229 = .ok (.iload_n 2, 1) := by decide +kernel
theorem dX4_told_230 : decode cX4_told 230 = .ok (.ireturn, 1) := by decide +kernel
theorem dX4_told_231 : decode cX4_told 231 = .ok (.iload_n 3, 1) := by decide +kernel
theorem dX4_told_232 : decode cX4_told 232 = .ok (.ireturn, 1) := by decide +kernel
theorem dX4_told_233 : decode cX4_told 233 = .ok (.iload 4, 2) := by decide +kernel
theorem dX4_told_235 : decode cX4_told 235 = .ok (.ireturn, 1) := by decide +kernel
theorem dJ6_bitCount_0f7a4_0 : decode cJ6_bitCount_0f7a4 0 = .ok (.iload_n 0, 1) := by decide +kernel
theorem dJ6_bitCount_0f7a4_1 : decode cJ6_bitCount_0f7a4 1 = .ok (.iload_n 0, 1) := by decide +kernel
theorem dJ6_bitCount_0f7a4_2 : decode cJ6_bitCount_0f7a4 2 = .ok (.iconst 1, 1) := by decide +kernel
theorem dJ6_bitCount_0f7a4_3 : decode cJ6_bitCount_0f7a4 3 = .ok (.iushr, 1) := by decide +kernel
theorem dJ6_bitCount_0f7a4_4 : decode cJ6_bitCount_0f7a4 4 = .ok (.ldc_w 265, 3) := by decide +kernel
theorem dJ6_bitCount_0f7a4_7 : decode cJ6_bitCount_0f7a4 7 = .ok (.iand, 1) := by decide +kernel
theorem dJ6_bitCount_0f7a4_8 : decode cJ6_bitCount_0f7a4 8 = .ok (.isub, 1) := by decide +kernel
theorem dJ6_bitCount_0f7a4_9 : decode cJ6_bitCount_0f7a4 9 = .ok (.istore_n 0, 1) := by decide +kernel
theorem dJ6_bitCount_0f7a4_10 : decode cJ6_bitCount_0f7a4 10 = .ok (.iload_n 0, 1) := by decide +kernel
theorem dJ6_bitCount_0f7a4_11 : decode cJ6_bitCount_0f7a4 11 = .ok (.ldc_w 266, 3) := by decide +kernel
theorem dJ6_bitCount_0f7a4_14 : decode cJ6_bitCount_0f7a4 14 = .ok (.iand, 1) := by decide +kernel
theorem dJ6_bitCount_0f7a4_15 : decode cJ6_bitCount_0f7a4 15 = .ok (.iload_n 0, 1) := by decide +kernel
theorem dJ6_bitCount_0f7a4_16 : decode cJ6_bitCount_0f7a4 16 = .ok (.iconst 2, 1) := by decide +kernel
theorem dJ6_bitCount_0f7a4_17 : decode cJ6_bitCount_0f7a4 17 = .ok (.iushr, 1) := by decide +kernel
theorem dJ6_bitCount_0f7a4_18 : decode cJ6_bitCount_0f7a4 18 = .ok (.ldc_w 266, 3) := by decide +kernel
theorem dJ6_bitCount_0f7a4_21 : decode cJ6_bitCount_0f7a4 21 = .ok (.iand, 1) := by decide +kernel
theorem dJ6_bitCount_0f7a4_22 : decode cJ6_bitCount_0f7a4 22 = .ok (.iadd, 1) := by decide +kernel
theorem dJ6_bitCount_0f7a4_23 : decode cJ6_bitCount_0f7a4 23 = .ok (.istore_n 0, 1) := by decide +kernel
theorem dJ6_bitCount_0f7a4_24 : decode cJ6_bitCount_0f7a4 24 = .ok (.iload_n 0, 1) := by decide +kernel
theorem dJ6_bitCount_0f7a4_25 : decode cJ6_bitCount_0f7a4 25 = .ok (.iload_n 0, 1) := by decide +kernel
theorem dJ6_bitCount_0f7a4_26 : decode cJ6_bitCount_0f7a4 26 = .ok (.iconst 4, 1) := by decide +kernel
theorem dJ6_bitCount_0f7a4_27 : decode cJ6_bitCount_0f7a4 27 = .ok (.iushr, 1) := by decide +kernel
theorem dJ6_bitCount_0f7a4_28 : decode cJ6_bitCount_0f7a4 28 = .ok (.iadd, 1) := by decide +kernel
theorem dJ6_bitCount_0f7a4_29 : decode cJ6_bitCount_0f7a4 29 = .ok (.ldc_w 267, 3) := by decide +kernel
theorem dJ6_bitCount_0f7a4_32 : decode cJ6_bitCount_0f7a4 32 = .ok (.iand, 1) := by decide +kernel
theorem dJ6_bitCount_0f7a4_33 : decode cJ6_bitCount_0f7a4 33 = .ok (.istore_n 0, 1) := by decide +kernel
theorem dJ6_bitCount_0f7a4_34 : decode cJ6_bitCount_0f7a4 34 = .ok (.iload_n 0, 1) := by decide +kernel
theorem dJ6_bitCount_0f7a4_35 : decode cJ6_bitCount_0f7a4 35 = .ok (.iload_n 0, 1) := by decide +kernel
theorem dJ6_bitCount_0f7a4_36 : decode cJ6_bitCount_0f7a4 36 = .ok (.bipush 8, 2) := by decide +kernel
theorem dJ6_bitCount_0f7a4_38 : decode cJ6_bitCount_0f7a4 38 = .ok (.iushr, 1) := by decide +kernel
theorem dJ6_bitCount_0f7a4_39 : decode cJ6_bitCount_0f7a4 39 = .ok (.iadd, 1) := by decide +kernel
theorem dJ6_bitCount_0f7a4_40 : decode cJ6_bitCount_0f7a4 40 = .ok (.istore_n 0, 1) := by decide +kernel
theorem dJ6_bitCount_0f7a4_41 : decode cJ6_bitCount_0f7a4 41 = .ok (.iload_n 0, 1) := by decide +kernel
theorem dJ6_bitCount_0f7a4_42 : decode cJ6_bitCount_0f7a4 42 = .ok (.iload_n 0, 1) := by decide +kernel
theorem dJ6_bitCount_0f7a4_43 : decode cJ6_bitCount_0f7a4 43 = .ok (.bipush 16, 2) := by decide +kernel
theorem dJ6_bitCount_0f7a4_45 : decode cJ6_bitCount_0f7a4 45 = .ok (.iushr, 1) := by decide +kernel
theorem dJ6_bitCount_0f7a4_46 : decode cJ6_bitCount_0f7a4 46 = .ok (.iadd, 1) := by decide +kernel
theorem dJ6_bitCount_0f7a4_47 : decode cJ6_bitCount_0f7a4 47 = .ok (.istore_n 0, 1) := by decide +kernel
theorem dJ6_bitCount_0f7a4_48 : decode cJ6_bitCount_0f7a4 48 = .ok (.iload_n 0, 1) := by decide +kernel
theorem dJ6_bitCount_0f7a4_49 : decode cJ6_bitCount_0f7a4 49 = .ok (.bipush 63, 2) := by decide +kernel
theorem dJ6_bitCount_0f7a4_51 : decode cJ6_bitCount_0f7a4 51 = .ok (.iand, 1) := by decide +kernel
theorem dJ6_bitCount_0f7a4_52 : decode cJ6_bitCount_0f7a4 52 = .ok (.ireturn, 1) := by decide +kernel
set_option maxRecDepth 20000 in
theorem ggL_law_X3_init : GoodIn wsL_law wsX3_init := goodIn_r _ [8, 9, 10, 11, 12, 13, 14, 15, 16, 17, 18, 19, 20, 21, 22, 23, 24, 25, 26, 27, 28, 29, 30, 31, 32, 33, 34, 35, 36, 37, 38, 39, 40, 41, 42, 2, 43, 44, 45, 46, 47, 48, 49, 50, 51, 52, 53, 471, 472, 473, 474, 475, 456, 457, 476, 477, 478, 479, 480, 481, 482, 483] (by decide +kernel) (by decide +kernel)
set_option maxRecDepth 20000 in
theorem gL_law_X3_init : GoodIn wsL_law (wsX3_init) := ggL_law_X3_init
set_option maxRecDepth 20000 in
theorem ggL_law_X4_init : GoodIn wsL_law wsX4_init := goodIn_r _ [56, 57, 10, 11, 58, 59, 60, 24, 61, 62, 63, 64, 65, 66, 67, 68, 5, 69, 70, 71, 72, 73, 458, 459, 460, 461, 462, 463, 464, 465, 466, 467, 468, 469, 470] (by decide +kernel) (by decide +kernel)
set_option maxRecDepth 20000 in
theorem gL_law_X4_init : GoodIn wsL_law (wsX4_init) := ggL_law_X4_init
set_option maxRecDepth 20000 in
theorem ggL_law_X3_row : GoodIn wsL_law wsX3_row := goodIn_r _ [77, 15, 78, 79, 2, 80, 81, 28, 29, 14, 30, 31, 32, 33, 34, 35, 36, 37, 25, 26, 38, 39, 40, 41, 42, 43, 44, 45, 46, 47, 48, 49, 50, 82, 83, 84, 85, 456, 457, 471, 472, 473, 474, 475] (by decide +kernel) (by decide +kernel)
set_option maxRecDepth 20000 in
theorem gL_law_X3_row : GoodIn wsL_law (wsV RL 13 RX3 yX3_row wsX3_row) := goodIn_app (goodIn_of _ (by decide +kernel)) ggL_law_X3_row
set_option maxRecDepth 20000 in
theorem ggL_law_X4_row : GoodIn wsL_law wsX4_row := goodIn_r _ [89, 90, 91, 58, 59, 60, 92, 93, 5, 94, 66, 67, 68, 69, 61, 70, 71, 72, 73, 458, 459, 460, 461, 462, 463, 464, 465, 466, 467, 468, 469, 470] (by decide +kernel) (by decide +kernel)
set_option maxRecDepth 20000 in
theorem gL_law_X4_row : GoodIn wsL_law (wsV RL 17 RX4 yX4_row wsX4_row) := goodIn_app (goodIn_of _ (by decide +kernel)) ggL_law_X4_row
set_option maxRecDepth 20000 in
theorem ggL_law_X3_weight : GoodIn wsL_law wsX3_weight := goodIn_r _ [98, 15, 99, 100, 101, 102, 14, 103, 104, 83, 84, 85, 31, 105, 106, 107, 108, 44, 45, 46, 47, 25, 456, 457, 471, 472, 473, 474, 475] (by decide +kernel) (by decide +kernel)
set_option maxRecDepth 20000 in
theorem gL_law_X3_weight : GoodIn wsL_law (wsV RL 18 RX3 yX3_weight wsX3_weight) := goodIn_app (goodIn_of _ (by decide +kernel)) ggL_law_X3_weight
set_option maxRecDepth 20000 in
theorem ggL_law_X4_weight : GoodIn wsL_law wsX4_weight := goodIn_r _ [112, 58, 113, 114, 115, 116, 5, 117, 92, 93, 94, 70, 71, 72, 73, 61, 458, 459, 460, 461, 462, 463, 464, 465, 466, 467, 468, 469, 470] (by decide +kernel) (by decide +kernel)
set_option maxRecDepth 20000 in
theorem gL_law_X4_weight : GoodIn wsL_law (wsV RL 22 RX4 yX4_weight wsX4_weight) := goodIn_app (goodIn_of _ (by decide +kernel)) ggL_law_X4_weight
set_option maxRecDepth 20000 in
theorem ggL_law_X3_sum : GoodIn wsL_law wsX3_sum := goodIn_r _ [121, 15, 99, 78, 79, 2, 80, 122, 123, 124, 14, 125, 26, 456, 457, 471, 472, 473, 474, 475] (by decide +kernel) (by decide +kernel)
set_option maxRecDepth 20000 in
theorem gL_law_X3_sum : GoodIn wsL_law (wsV RL 23 RX3 yX3_sum wsX3_sum) := goodIn_app (goodIn_of _ (by decide +kernel)) ggL_law_X3_sum
set_option maxRecDepth 20000 in
theorem ggL_law_X4_sum : GoodIn wsL_law wsX4_sum := goodIn_r _ [129, 90, 113, 92, 93, 5, 94, 130, 131, 132, 133, 70, 71, 72, 73, 61, 458, 459, 460, 461, 462, 463, 464, 465, 466, 467, 468, 469, 470] (by decide +kernel) (by decide +kernel)
set_option maxRecDepth 20000 in
theorem gL_law_X4_sum : GoodIn wsL_law (wsV RL 26 RX4 yX4_sum wsX4_sum) := goodIn_app (goodIn_of _ (by decide +kernel)) ggL_law_X4_sum
set_option maxRecDepth 20000 in
theorem ggL_law_X3_chance : GoodIn wsL_law wsX3_chance := goodIn_r _ [137, 15, 99, 100, 101, 102, 14, 103, 104, 83, 84, 85, 31, 78, 79, 2, 80, 105, 106, 107, 108, 44, 45, 46, 47, 25, 138, 139, 140, 141, 122, 123, 124, 125, 26, 142, 143, 144, 145, 146, 147, 456, 457, 471, 472, 473, 474, 475] (by decide +kernel) (by decide +kernel)
set_option maxRecDepth 20000 in
theorem gL_law_X3_chance : GoodIn wsL_law (wsV RL 27 RX3 yX3_chance wsX3_chance) := goodIn_app (goodIn_of _ (by decide +kernel)) ggL_law_X3_chance
set_option maxRecDepth 20000 in
theorem ggL_law_X4_chance : GoodIn wsL_law wsX4_chance := goodIn_r _ [151, 58, 113, 114, 115, 116, 5, 117, 92, 93, 94, 70, 71, 72, 73, 61, 130, 131, 132, 133, 152, 153, 154, 458, 459, 460, 461, 462, 463, 464, 465, 466, 467, 468, 469, 470] (by decide +kernel) (by decide +kernel)
set_option maxRecDepth 20000 in
theorem gL_law_X4_chance : GoodIn wsL_law (wsV RL 31 RX4 yX4_chance wsX4_chance) := goodIn_app (goodIn_of _ (by decide +kernel)) ggL_law_X4_chance
set_option maxRecDepth 20000 in
theorem ggL_law_X3_current : GoodIn wsL_law wsX3_current := goodIn_r _ [158, 99, 15, 78, 79, 2, 80, 138, 139, 140, 14, 141, 31, 122, 123, 124, 125, 26, 142, 143, 144, 145, 146, 147, 456, 457, 471, 472, 473, 474, 475] (by decide +kernel) (by decide +kernel)
set_option maxRecDepth 20000 in
theorem gL_law_X3_current : GoodIn wsL_law (wsV RL 32 RX3 yX3_current wsX3_current) := goodIn_app (goodIn_of _ (by decide +kernel)) ggL_law_X3_current
set_option maxRecDepth 20000 in
theorem ggL_law_X4_current : GoodIn wsL_law wsX4_current := goodIn_r _ [162, 58, 113, 92, 93, 5, 94, 130, 131, 132, 133, 70, 71, 72, 73, 61, 152, 153, 154, 458, 459, 460, 461, 462, 463, 464, 465, 466, 467, 468, 469, 470] (by decide +kernel) (by decide +kernel)
set_option maxRecDepth 20000 in
theorem gL_law_X4_current : GoodIn wsL_law (wsV RL 35 RX4 yX4_current wsX4_current) := goodIn_app (goodIn_of _ (by decide +kernel)) ggL_law_X4_current
set_option maxRecDepth 20000 in
theorem ggL_law_X3_taken : GoodIn wsL_law wsX3_taken := goodIn_r _ [166, 15, 99, 100, 101, 102, 14, 103, 104, 83, 84, 85, 31, 78, 79, 2, 80, 167, 168, 169, 170, 171, 106, 107, 108, 44, 45, 46, 47, 25, 138, 139, 140, 141, 122, 123, 124, 125, 26, 142, 143, 144, 145, 146, 147, 456, 457, 471, 472, 473, 474, 475] (by decide +kernel) (by decide +kernel)
set_option maxRecDepth 20000 in
theorem gL_law_X3_taken : GoodIn wsL_law (wsV RL 36 RX3 yX3_taken wsX3_taken) := goodIn_app (goodIn_of _ (by decide +kernel)) ggL_law_X3_taken
set_option maxRecDepth 20000 in
theorem ggL_law_X4_taken : GoodIn wsL_law wsX4_taken := goodIn_r _ [175, 113, 58, 114, 115, 116, 5, 117, 92, 93, 94, 70, 71, 72, 73, 61, 130, 131, 132, 133, 152, 153, 154, 458, 459, 460, 461, 462, 463, 464, 465, 466, 467, 468, 469, 470] (by decide +kernel) (by decide +kernel)
set_option maxRecDepth 20000 in
theorem gL_law_X4_taken : GoodIn wsL_law (wsV RL 39 RX4 yX4_taken wsX4_taken) := goodIn_app (goodIn_of _ (by decide +kernel)) ggL_law_X4_taken
set_option maxRecDepth 20000 in
theorem ggL_law_X3_flow : GoodIn wsL_law wsX3_flow := goodIn_r _ [179, 15, 99, 100, 101, 102, 14, 103, 104, 83, 84, 85, 31, 78, 79, 2, 80, 180, 181, 182, 183, 42, 43, 171, 106, 107, 108, 44, 45, 46, 47, 25, 184, 185, 186, 187, 33, 188, 189, 190, 191, 32, 192, 193, 194, 195, 196, 197, 198, 199, 456, 457, 471, 472, 473, 474, 475] (by decide +kernel) (by decide +kernel)
set_option maxRecDepth 20000 in
theorem gL_law_X3_flow : GoodIn wsL_law (wsV RL 40 RX3 yX3_flow wsX3_flow) := goodIn_app (goodIn_of _ (by decide +kernel)) ggL_law_X3_flow
set_option maxRecDepth 20000 in
theorem ggL_law_X4_flow : GoodIn wsL_law wsX4_flow := goodIn_r _ [203, 113, 58, 204, 114, 115, 116, 5, 117, 92, 93, 94, 70, 71, 72, 73, 61, 205, 206, 207, 208, 60, 59, 458, 459, 460, 461, 462, 463, 464, 465, 466, 467, 468, 469, 470] (by decide +kernel) (by decide +kernel)
set_option maxRecDepth 20000 in
theorem gL_law_X4_flow : GoodIn wsL_law (wsV RL 43 RX4 yX4_flow wsX4_flow) := goodIn_app (goodIn_of _ (by decide +kernel)) ggL_law_X4_flow
set_option maxRecDepth 20000 in
theorem ggL_law_X3_extreme : GoodIn wsL_law wsX3_extreme := goodIn_r _ [212, 15, 78, 79, 2, 80, 213, 214, 215, 14, 216, 104, 83, 84, 85, 31, 171, 106, 107, 108, 44, 45, 46, 47, 25, 217, 218, 219, 220, 456, 457, 471, 472, 473, 474, 475] (by decide +kernel) (by decide +kernel)
set_option maxRecDepth 20000 in
theorem gL_law_X3_extreme : GoodIn wsL_law (wsV RL 44 RX3 yX3_extreme wsX3_extreme) := goodIn_app (goodIn_of _ (by decide +kernel)) ggL_law_X3_extreme
set_option maxRecDepth 20000 in
theorem ggL_law_X4_extreme : GoodIn wsL_law wsX4_extreme := goodIn_r _ [224, 58, 92, 93, 5, 94, 70, 71, 72, 73, 61, 458, 459, 460, 461, 462, 463, 464, 465, 466, 467, 468, 469, 470] (by decide +kernel) (by decide +kernel)
set_option maxRecDepth 20000 in
theorem gL_law_X4_extreme : GoodIn wsL_law (wsV RL 48 RX4 yX4_extreme wsX4_extreme) := goodIn_app (goodIn_of _ (by decide +kernel)) ggL_law_X4_extreme
set_option maxRecDepth 20000 in
theorem ggL_law_X3_queue : GoodIn wsL_law wsX3_queue := goodIn_r _ [228, 78, 79, 2, 80, 229, 230, 231, 232, 233, 234, 235, 236, 237, 238, 239, 240, 241, 242, 42, 43, 243, 244, 245, 246, 247, 248] (by decide +kernel) (by decide +kernel)
set_option maxRecDepth 20000 in
theorem gL_law_X3_queue : GoodIn wsL_law (wsV RL 49 RX3 yX3_queue wsX3_queue) := goodIn_app (goodIn_of _ (by decide +kernel)) ggL_law_X3_queue
set_option maxRecDepth 20000 in
theorem ggL_law_X4_queue : GoodIn wsL_law wsX4_queue := goodIn_r _ [252, 253, 90, 92, 93, 5, 94, 254, 255, 256, 257, 258, 259] (by decide +kernel) (by decide +kernel)
set_option maxRecDepth 20000 in
theorem gL_law_X4_queue : GoodIn wsL_law (wsV RL 52 RX4 yX4_queue wsX4_queue) := goodIn_app (goodIn_of _ (by decide +kernel)) ggL_law_X4_queue
set_option maxRecDepth 20000 in
theorem ggL_law_X3_ways : GoodIn wsL_law wsX3_ways := goodIn_r _ [263, 78, 79, 2, 80, 264, 265, 231, 266, 267, 268, 269, 270, 271, 272, 233, 234, 235, 236, 237, 238, 239, 273, 241, 242, 42, 43, 243, 244, 245] (by decide +kernel) (by decide +kernel)
set_option maxRecDepth 20000 in
theorem gL_law_X3_ways : GoodIn wsL_law (wsV RL 53 RX3 yX3_ways wsX3_ways) := goodIn_app (goodIn_of _ (by decide +kernel)) ggL_law_X3_ways
set_option maxRecDepth 20000 in
theorem ggL_law_X4_ways : GoodIn wsL_law wsX4_ways := goodIn_r _ [277, 253, 90, 92, 93, 5, 94, 254, 255, 256, 257, 258, 259] (by decide +kernel) (by decide +kernel)
set_option maxRecDepth 20000 in
theorem gL_law_X4_ways : GoodIn wsL_law (wsV RL 57 RX4 yX4_ways wsX4_ways) := goodIn_app (goodIn_of _ (by decide +kernel)) ggL_law_X4_ways
set_option maxRecDepth 20000 in
theorem ggL_law_X3_step : GoodIn wsL_law wsX3_step := goodIn_r _ [281, 19, 78, 79, 2, 80, 282, 283, 284, 18, 285, 286, 287, 288, 289, 290, 291, 292, 293, 456, 457, 476, 477, 478, 479, 480, 481, 482, 483] (by decide +kernel) (by decide +kernel)
set_option maxRecDepth 20000 in
theorem gL_law_X3_step : GoodIn wsL_law (wsV RL 58 RX3 yX3_step wsX3_step) := goodIn_app (goodIn_of _ (by decide +kernel)) ggL_law_X3_step
set_option maxRecDepth 20000 in
theorem ggL_law_X4_step : GoodIn wsL_law wsX4_step := goodIn_r _ [297, 298, 299, 300, 301, 62, 302, 303, 304, 64, 92, 93, 5, 94, 458, 459, 460, 461, 462, 463, 464, 465, 466, 467, 468, 469, 470] (by decide +kernel) (by decide +kernel)
set_option maxRecDepth 20000 in
theorem gL_law_X4_step : GoodIn wsL_law (wsV RL 62 RX4 yX4_step wsX4_step) := goodIn_app (goodIn_of _ (by decide +kernel)) ggL_law_X4_step
set_option maxRecDepth 20000 in
theorem ggL_law_X3_set : GoodIn wsL_law wsX3_set := goodIn_r _ [308, 19, 309, 310, 311, 18, 312, 286, 313, 314, 315, 316, 78, 79, 2, 80, 317, 318, 319, 320, 321, 288, 289, 42, 43, 322, 323, 324, 325, 456, 457, 476, 477, 478, 479, 480, 481, 482, 483] (by decide +kernel) (by decide +kernel)
set_option maxRecDepth 20000 in
theorem gL_law_X3_set : GoodIn wsL_law (wsV RL 63 RX3 yX3_set wsX3_set) := goodIn_app (goodIn_of _ (by decide +kernel)) ggL_law_X3_set
set_option maxRecDepth 20000 in
theorem ggL_law_X4_set : GoodIn wsL_law wsX4_set := goodIn_r _ [329, 298, 300, 64, 330, 331, 332, 5, 333, 334, 92, 93, 94, 458, 459, 460, 461, 462, 463, 464, 465, 466, 467, 468, 469, 470] (by decide +kernel) (by decide +kernel)
set_option maxRecDepth 20000 in
theorem gL_law_X4_set : GoodIn wsL_law (wsV RL 66 RX4 yX4_set wsX4_set) := goodIn_app (goodIn_of _ (by decide +kernel)) ggL_law_X4_set
set_option maxRecDepth 20000 in
theorem ggL_law_X3_seed : GoodIn wsL_law wsX3_seed := goodIn_r _ [338, 19, 317, 314, 315, 18, 316, 286, 339, 340, 341, 342, 290, 456, 457, 476, 477, 478, 479, 480, 481, 482, 483] (by decide +kernel) (by decide +kernel)
set_option maxRecDepth 20000 in
theorem gL_law_X3_seed : GoodIn wsL_law (wsV RL 67 RX3 yX3_seed wsX3_seed) := goodIn_app (goodIn_of _ (by decide +kernel)) ggL_law_X3_seed
set_option maxRecDepth 20000 in
theorem ggL_law_X4_seed : GoodIn wsL_law wsX4_seed := goodIn_r _ [346, 300, 62, 458, 459, 460, 461, 462, 463, 464, 465, 466, 467, 468, 469, 470] (by decide +kernel) (by decide +kernel)
set_option maxRecDepth 20000 in
theorem gL_law_X4_seed : GoodIn wsL_law (wsV RL 70 RX4 yX4_seed wsX4_seed) := goodIn_app (goodIn_of _ (by decide +kernel)) ggL_law_X4_seed
set_option maxRecDepth 20000 in
theorem ggL_law_X3_go : GoodIn wsL_law wsX3_go := goodIn_r _ [350, 19, 78, 79, 2, 80, 317, 314, 315, 18, 316, 286, 351, 352, 353, 354, 355, 356, 357, 358, 290, 359, 360, 361, 362, 363, 364, 287, 365, 366, 367, 368, 293, 369, 319, 320, 321, 288, 289, 42, 43, 370, 323, 324, 325, 371, 372, 373, 374, 292, 291, 375, 376, 377, 378, 456, 457, 476, 477, 478, 479, 480, 481, 482, 483] (by decide +kernel) (by decide +kernel)
set_option maxRecDepth 20000 in
theorem gL_law_X3_go : GoodIn wsL_law (wsV RL 71 RX3 yX3_go wsX3_go) := goodIn_app (goodIn_of _ (by decide +kernel)) ggL_law_X3_go
set_option maxRecDepth 20000 in
theorem ggL_law_X4_go : GoodIn wsL_law wsX4_go := goodIn_r _ [382, 383, 300, 62, 384, 385, 386, 387, 301, 92, 93, 5, 94, 388, 389, 390, 391, 64, 304, 392, 393, 394, 395, 303, 302, 396, 397, 398, 399, 458, 459, 460, 461, 462, 463, 464, 465, 466, 467, 468, 469, 470] (by decide +kernel) (by decide +kernel)
set_option maxRecDepth 20000 in
theorem gL_law_X4_go : GoodIn wsL_law (wsV RL 74 RX4 yX4_go wsX4_go) := goodIn_app (goodIn_of _ (by decide +kernel)) ggL_law_X4_go
set_option maxRecDepth 20000 in
theorem ggL_law_X3_together : GoodIn wsL_law wsX3_together := goodIn_r _ [403, 19, 78, 79, 2, 80, 317, 314, 315, 18, 316, 286, 404, 405, 406, 407, 288, 289, 408, 234, 235, 236, 237, 238, 239, 409, 410, 411, 412, 293, 287, 413, 414, 415, 416, 291, 292, 417, 418, 419, 420, 421, 422, 423, 424, 425, 426, 427, 428, 456, 457, 476, 477, 478, 479, 480, 481, 482, 483] (by decide +kernel) (by decide +kernel)
set_option maxRecDepth 20000 in
theorem gL_law_X3_together : GoodIn wsL_law (wsV RL 75 RX3 yX3_together wsX3_together) := goodIn_app (goodIn_of _ (by decide +kernel)) ggL_law_X3_together
set_option maxRecDepth 20000 in
theorem ggL_law_X4_together : GoodIn wsL_law wsX4_together := goodIn_r _ [432, 433, 300, 64, 65, 301, 304, 303, 302, 92, 93, 5, 94, 458, 459, 460, 461, 462, 463, 464, 465, 466, 467, 468, 469, 470] (by decide +kernel) (by decide +kernel)
set_option maxRecDepth 20000 in
theorem gL_law_X4_together : GoodIn wsL_law (wsV RL 78 RX4 yX4_together wsX4_together) := goodIn_app (goodIn_of _ (by decide +kernel)) ggL_law_X4_together
set_option maxRecDepth 20000 in
theorem ggL_law_X3_at : GoodIn wsL_law wsX3_at := goodIn_r _ [437, 19, 309, 310, 311, 18, 312, 286, 313, 314, 315, 316, 317, 318, 319, 320, 321, 288, 289, 42, 2, 43, 456, 457, 476, 477, 478, 479, 480, 481, 482, 483] (by decide +kernel) (by decide +kernel)
set_option maxRecDepth 20000 in
theorem gL_law_X3_at : GoodIn wsL_law (wsV RL 79 RX3 yX3_at wsX3_at) := goodIn_app (goodIn_of _ (by decide +kernel)) ggL_law_X3_at
set_option maxRecDepth 20000 in
theorem ggL_law_X4_at : GoodIn wsL_law wsX4_at := goodIn_r _ [441, 300, 64, 330, 331, 332, 5, 333, 334, 92, 93, 94, 458, 459, 460, 461, 462, 463, 464, 465, 466, 467, 468, 469, 470] (by decide +kernel) (by decide +kernel)
set_option maxRecDepth 20000 in
theorem gL_law_X4_at : GoodIn wsL_law (wsV RL 82 RX4 yX4_at wsX4_at) := goodIn_app (goodIn_of _ (by decide +kernel)) ggL_law_X4_at
set_option maxRecDepth 20000 in
theorem ggL_law_X3_told : GoodIn wsL_law wsX3_told := goodIn_r _ [445, 19, 78, 79, 2, 80, 317, 314, 315, 18, 316, 286, 446, 447, 448, 449, 287, 291, 292, 293, 450, 405, 406, 407, 288, 289, 408, 234, 235, 236, 237, 238, 239, 417, 418, 419, 420, 421, 422, 423, 424, 456, 457, 476, 477, 478, 479, 480, 481, 482, 483] (by decide +kernel) (by decide +kernel)
set_option maxRecDepth 20000 in
theorem gL_law_X3_told : GoodIn wsL_law (wsV RL 83 RX3 yX3_told wsX3_told) := goodIn_app (goodIn_of _ (by decide +kernel)) ggL_law_X3_told
set_option maxRecDepth 20000 in
theorem ggL_law_X4_told : GoodIn wsL_law wsX4_told := goodIn_r _ [454, 455, 300, 64, 301, 302, 303, 304, 92, 93, 5, 94, 458, 459, 460, 461, 462, 463, 464, 465, 466, 467, 468, 469, 470] (by decide +kernel) (by decide +kernel)
set_option maxRecDepth 20000 in
theorem gL_law_X4_told : GoodIn wsL_law (wsV RL 86 RX4 yX4_told wsX4_told) := goodIn_app (goodIn_of _ (by decide +kernel)) ggL_law_X4_told
theorem dL_law_0 : decode cL_law 0 = .ok (.new 7, 3) := by decide +kernel
theorem dL_law_3 : decode cL_law 3 = .ok (.dup, 1) := by decide +kernel
theorem dL_law_4 : decode cL_law 4 = .ok (.invokespecial 9, 3) := by decide +kernel
theorem dL_law_7 : decode cL_law 7 = .ok (.astore_n 1, 1) := by decide +kernel
theorem dL_law_8 : decode cL_law 8 = .ok (.new 10, 3) := by decide +kernel
theorem dL_law_11 : decode cL_law 11 = .ok (.dup, 1) := by decide +kernel
theorem dL_law_12 : decode cL_law 12 = .ok (.invokespecial 12, 3) := by decide +kernel
theorem dL_law_15 : decode cL_law 15 = .ok (.astore_n 2, 1) := by decide +kernel
theorem dL_law_16 : decode cL_law 16 = .ok (.iconst 0, 1) := by decide +kernel
theorem dL_law_17 : decode cL_law 17 = .ok (.istore_n 3, 1) := by decide +kernel
theorem dL_law_18 : decode cL_law 18 = .ok (.iload_n 3, 1) := by decide +kernel
theorem dL_law_19 : decode cL_law 19 = .ok (.aload_n 0, 1) := by decide +kernel
theorem dL_law_20 : decode cL_law 20 = .ok (.arraylength, 1) := by decide +kernel
theorem dL_law_21 : decode cL_law 21 = .ok (.iconst 4, 1) := by decide +kernel
theorem dL_law_22 : decode cL_law 22 = .ok (.isub, 1) := by decide +kernel
theorem dL_law_23 : decode cL_law 23 = .ok (.if_icmp .gt 612, 3) := by decide +kernel
theorem dL_law_26 : decode cL_law 26 = .ok (.aload_n 0, 1) := by decide +kernel
theorem dL_law_27 : decode cL_law 27 = .ok (.iload_n 3, 1) := by decide +kernel
theorem dL_law_28 : decode cL_law 28 = .ok (.iaload, 1) := by decide +kernel
theorem dL_law_29 : decode cL_law 29 = .ok (.bipush 31, 2) := by decide +kernel
theorem dL_law_31 : decode cL_law 31 = .ok (.iand, 1) := by decide +kernel
theorem dL_law_32 : decode cL_law 32 = .ok (.tableswitch 597 0 16 #[84, 127, 151, 175, 209, 233, 267, 301, 324, 367, 400, 449, 482, 505, 528, 551, 574], 84) := by decide +kernel
theorem dL_law_116 : decode cL_law 116 = .ok (.aload_n 1, 1) := by decide +kernel
theorem dL_law_117 : decode cL_law 117 = .ok (.aload_n 0, 1) := by decide +kernel
theorem dL_law_118 : decode cL_law 118 = .ok (.iload_n 3, 1) := by decide +kernel
theorem dL_law_119 : decode cL_law 119 = .ok (.iconst 1, 1) := by decide +kernel
theorem dL_law_120 : decode cL_law 120 = .ok (.iadd, 1) := by decide +kernel
theorem dL_law_121 : decode cL_law 121 = .ok (.iaload, 1) := by decide +kernel
theorem dL_law_122 : decode cL_law 122 = .ok (.aload_n 0, 1) := by decide +kernel
theorem dL_law_123 : decode cL_law 123 = .ok (.iload_n 3, 1) := by decide +kernel
theorem dL_law_124 : decode cL_law 124 = .ok (.iconst 2, 1) := by decide +kernel
theorem dL_law_125 : decode cL_law 125 = .ok (.iadd, 1) := by decide +kernel
theorem dL_law_126 : decode cL_law 126 = .ok (.iaload, 1) := by decide +kernel
theorem dL_law_127 : decode cL_law 127 = .ok (.aload_n 0, 1) := by decide +kernel
theorem dL_law_128 : decode cL_law 128 = .ok (.iload_n 3, 1) := by decide +kernel
theorem dL_law_129 : decode cL_law 129 = .ok (.iconst 3, 1) := by decide +kernel
theorem dL_law_130 : decode cL_law 130 = .ok (.iadd, 1) := by decide +kernel
theorem dL_law_131 : decode cL_law 131 = .ok (.iaload, 1) := by decide +kernel
theorem dL_law_132 : decode cL_law 132 = .ok (.invokevirtual 13, 3) := by decide +kernel
theorem dL_law_135 : decode cL_law 135 = .ok (.aload_n 2, 1) := by decide +kernel
theorem dL_law_136 : decode cL_law 136 = .ok (.aload_n 0, 1) := by decide +kernel
theorem dL_law_137 : decode cL_law 137 = .ok (.iload_n 3, 1) := by decide +kernel
theorem dL_law_138 : decode cL_law 138 = .ok (.iconst 1, 1) := by decide +kernel
theorem dL_law_139 : decode cL_law 139 = .ok (.iadd, 1) := by decide +kernel
theorem dL_law_140 : decode cL_law 140 = .ok (.iaload, 1) := by decide +kernel
theorem dL_law_141 : decode cL_law 141 = .ok (.aload_n 0, 1) := by decide +kernel
theorem dL_law_142 : decode cL_law 142 = .ok (.iload_n 3, 1) := by decide +kernel
theorem dL_law_143 : decode cL_law 143 = .ok (.iconst 2, 1) := by decide +kernel
theorem dL_law_144 : decode cL_law 144 = .ok (.iadd, 1) := by decide +kernel
theorem dL_law_145 : decode cL_law 145 = .ok (.iaload, 1) := by decide +kernel
theorem dL_law_146 : decode cL_law 146 = .ok (.aload_n 0, 1) := by decide +kernel
theorem dL_law_147 : decode cL_law 147 = .ok (.iload_n 3, 1) := by decide +kernel
theorem dL_law_148 : decode cL_law 148 = .ok (.iconst 3, 1) := by decide +kernel
theorem dL_law_149 : decode cL_law 149 = .ok (.iadd, 1) := by decide +kernel
theorem dL_law_150 : decode cL_law 150 = .ok (.iaload, 1) := by decide +kernel
theorem dL_law_151 : decode cL_law 151 = .ok (.invokevirtual 17, 3) := by decide +kernel
theorem dL_law_154 : decode cL_law 154 = .ok (.if_icmp .eq 475, 3) := by decide +kernel
theorem dL_law_157 : decode cL_law 157 = .ok (.iconst 0, 1) := by decide +kernel
theorem dL_law_158 : decode cL_law 158 = .ok (.ireturn, 1) := by decide +kernel
theorem dL_law_159 : decode cL_law 159 = .ok (.aload_n 1, 1) := by decide +kernel
theorem dL_law_160 : decode cL_law 160 = .ok (.aload_n 0, 1) := by decide +kernel
theorem dL_law_161 : decode cL_law 161 = .ok (.iload_n 3, 1) := by decide +kernel
theorem dL_law_162 : decode cL_law 162 = .ok (.iconst 1, 1) := by decide +kernel
theorem dL_law_163 : decode cL_law 163 = .ok (.iadd, 1) := by decide +kernel
theorem dL_law_164 : decode cL_law 164 = .ok (.iaload, 1) := by decide +kernel
theorem dL_law_165 : decode cL_law 165 = .ok (.invokevirtual 18, 3) := by decide +kernel
theorem dL_law_168 : decode cL_law 168 = .ok (.aload_n 2, 1) := by decide +kernel
theorem dL_law_169 : decode cL_law 169 = .ok (.aload_n 0, 1) := by decide +kernel
theorem dL_law_170 : decode cL_law 170 = .ok (.iload_n 3, 1) := by decide +kernel
theorem dL_law_171 : decode cL_law 171 = .ok (.iconst 1, 1) := by decide +kernel
theorem dL_law_172 : decode cL_law 172 = .ok (.iadd, 1) := by decide +kernel
theorem dL_law_173 : decode cL_law 173 = .ok (.iaload, 1) := by decide +kernel
theorem dL_law_174 : decode cL_law 174 = .ok (.invokevirtual 22, 3) := by decide +kernel
theorem dL_law_177 : decode cL_law 177 = .ok (.lcmp, 1) := by decide +kernel
theorem dL_law_178 : decode cL_law 178 = .ok (.ifCond .eq 451, 3) := by decide +kernel
theorem dL_law_181 : decode cL_law 181 = .ok (.iconst 0, 1) := by decide +kernel
theorem dL_law_182 : decode cL_law 182 = .ok (.ireturn, 1) := by decide +kernel
theorem dL_law_183 : decode cL_law 183 = .ok (.aload_n 1, 1) := by decide +kernel
theorem dL_law_184 : decode cL_law 184 = .ok (.aload_n 0, 1) := by decide +kernel
theorem dL_law_185 : decode cL_law 185 = .ok (.iload_n 3, 1) := by decide +kernel
theorem dL_law_186 : decode cL_law 186 = .ok (.iconst 1, 1) := by decide +kernel
theorem dL_law_187 : decode cL_law 187 = .ok (.iadd, 1) := by decide +kernel
theorem dL_law_188 : decode cL_law 188 = .ok (.iaload, 1) := by decide +kernel
theorem dL_law_189 : decode cL_law 189 = .ok (.invokevirtual 23, 3) := by decide +kernel
theorem dL_law_192 : decode cL_law 192 = .ok (.aload_n 2, 1) := by decide +kernel
theorem dL_law_193 : decode cL_law 193 = .ok (.aload_n 0, 1) := by decide +kernel
theorem dL_law_194 : decode cL_law 194 = .ok (.iload_n 3, 1) := by decide +kernel
theorem dL_law_195 : decode cL_law 195 = .ok (.iconst 1, 1) := by decide +kernel
theorem dL_law_196 : decode cL_law 196 = .ok (.iadd, 1) := by decide +kernel
theorem dL_law_197 : decode cL_law 197 = .ok (.iaload, 1) := by decide +kernel
theorem dL_law_198 : decode cL_law 198 = .ok (.invokevirtual 26, 3) := by decide +kernel
theorem dL_law_201 : decode cL_law 201 = .ok (.lcmp, 1) := by decide +kernel
theorem dL_law_202 : decode cL_law 202 = .ok (.ifCond .eq 427, 3) := by decide +kernel
theorem dL_law_205 : decode cL_law 205 = .ok (.iconst 0, 1) := by decide +kernel
theorem dL_law_206 : decode cL_law 206 = .ok (.ireturn, 1) := by decide +kernel
theorem dL_law_207 : decode cL_law 207 = .ok (.aload_n 1, 1) := by decide +kernel
theorem dL_law_208 : decode cL_law 208 = .ok (.aload_n 0, 1) := by decide +kernel
theorem dL_law_209 : decode cL_law 209 = .ok (.iload_n 3, 1) := by decide +kernel
theorem dL_law_210 : decode cL_law 210 = .ok (.iconst 1, 1) := by decide +kernel
theorem dL_law_211 : decode cL_law 211 = .ok (.iadd, 1) := by decide +kernel
theorem dL_law_212 : decode cL_law 212 = .ok (.iaload, 1) := by decide +kernel
theorem dL_law_213 : decode cL_law 213 = .ok (.aload_n 0, 1) := by decide +kernel
theorem dL_law_214 : decode cL_law 214 = .ok (.iload_n 3, 1) := by decide +kernel
theorem dL_law_215 : decode cL_law 215 = .ok (.iconst 2, 1) := by decide +kernel
theorem dL_law_216 : decode cL_law 216 = .ok (.iadd, 1) := by decide +kernel
theorem dL_law_217 : decode cL_law 217 = .ok (.iaload, 1) := by decide +kernel
theorem dL_law_218 : decode cL_law 218 = .ok (.invokevirtual 27, 3) := by decide +kernel
theorem dL_law_221 : decode cL_law 221 = .ok (.aload_n 2, 1) := by decide +kernel
theorem dL_law_222 : decode cL_law 222 = .ok (.aload_n 0, 1) := by decide +kernel
theorem dL_law_223 : decode cL_law 223 = .ok (.iload_n 3, 1) := by decide +kernel
theorem dL_law_224 : decode cL_law 224 = .ok (.iconst 1, 1) := by decide +kernel
theorem dL_law_225 : decode cL_law 225 = .ok (.iadd, 1) := by decide +kernel
theorem dL_law_226 : decode cL_law 226 = .ok (.iaload, 1) := by decide +kernel
theorem dL_law_227 : decode cL_law 227 = .ok (.aload_n 0, 1) := by decide +kernel
theorem dL_law_228 : decode cL_law 228 = .ok (.iload_n 3, 1) := by decide +kernel
theorem dL_law_229 : decode cL_law 229 = .ok (.iconst 2, 1) := by decide +kernel
theorem dL_law_230 : decode cL_law 230 = .ok (.iadd, 1) := by decide +kernel
theorem dL_law_231 : decode cL_law 231 = .ok (.iaload, 1) := by decide +kernel
theorem dL_law_232 : decode cL_law 232 = .ok (.invokevirtual 31, 3) := by decide +kernel
theorem dL_law_235 : decode cL_law 235 = .ok (.lcmp, 1) := by decide +kernel
theorem dL_law_236 : decode cL_law 236 = .ok (.ifCond .eq 393, 3) := by decide +kernel
theorem dL_law_239 : decode cL_law 239 = .ok (.iconst 0, 1) := by decide +kernel
theorem dL_law_240 : decode cL_law 240 = .ok (.ireturn, 1) := by decide +kernel
theorem dL_law_241 : decode cL_law 241 = .ok (.aload_n 1, 1) := by decide +kernel
theorem dL_law_242 : decode cL_law 242 = .ok (.aload_n 0, 1) := by decide +kernel
theorem dL_law_243 : decode cL_law 243 = .ok (.iload_n 3, 1) := by decide +kernel
theorem dL_law_244 : decode cL_law 244 = .ok (.iconst 1, 1) := by decide +kernel
theorem dL_law_245 : decode cL_law 245 = .ok (.iadd, 1) := by decide +kernel
theorem dL_law_246 : decode cL_law 246 = .ok (.iaload, 1) := by decide +kernel
theorem dL_law_247 : decode cL_law 247 = .ok (.invokevirtual 32, 3) := by decide +kernel
theorem dL_law_250 : decode cL_law 250 = .ok (.aload_n 2, 1) := by decide +kernel
theorem dL_law_251 : decode cL_law 251 = .ok (.aload_n 0, 1) := by decide +kernel
theorem dL_law_252 : decode cL_law 252 = .ok (.iload_n 3, 1) := by decide +kernel
theorem dL_law_253 : decode cL_law 253 = .ok (.iconst 1, 1) := by decide +kernel
theorem dL_law_254 : decode cL_law 254 = .ok (.iadd, 1) := by decide +kernel
theorem dL_law_255 : decode cL_law 255 = .ok (.iaload, 1) := by decide +kernel
theorem dL_law_256 : decode cL_law 256 = .ok (.invokevirtual 35, 3) := by decide +kernel
theorem dL_law_259 : decode cL_law 259 = .ok (.lcmp, 1) := by decide +kernel
theorem dL_law_260 : decode cL_law 260 = .ok (.ifCond .eq 369, 3) := by decide +kernel
theorem dL_law_263 : decode cL_law 263 = .ok (.iconst 0, 1) := by decide +kernel
theorem dL_law_264 : decode cL_law 264 = .ok (.ireturn, 1) := by decide +kernel
theorem dL_law_265 : decode cL_law 265 = .ok (.aload_n 1, 1) := by decide +kernel
theorem dL_law_266 : decode cL_law 266 = .ok (.aload_n 0, 1) := by decide +kernel
theorem dL_law_267 : decode cL_law 267 = .ok (.iload_n 3, 1) := by decide +kernel
theorem dL_law_268 : decode cL_law 268 = .ok (.iconst 1, 1) := by decide +kernel
theorem dL_law_269 : decode cL_law 269 = .ok (.iadd, 1) := by decide +kernel
theorem dL_law_270 : decode cL_law 270 = .ok (.iaload, 1) := by decide +kernel
theorem dL_law_271 : decode cL_law 271 = .ok (.aload_n 0, 1) := by decide +kernel
theorem dL_law_272 : decode cL_law 272 = .ok (.iload_n 3, 1) := by decide +kernel
theorem dL_law_273 : decode cL_law 273 = .ok (.iconst 2, 1) := by decide +kernel
theorem dL_law_274 : decode cL_law 274 = .ok (.iadd, 1) := by decide +kernel
theorem dL_law_275 : decode cL_law 275 = .ok (.iaload, 1) := by decide +kernel
theorem dL_law_276 : decode cL_law 276 = .ok (.invokevirtual 36, 3) := by decide +kernel
theorem dL_law_279 : decode cL_law 279 = .ok (.aload_n 2, 1) := by decide +kernel
theorem dL_law_280 : decode cL_law 280 = .ok (.aload_n 0, 1) := by decide +kernel
theorem dL_law_281 : decode cL_law 281 = .ok (.iload_n 3, 1) := by decide +kernel
theorem dL_law_282 : decode cL_law 282 = .ok (.iconst 1, 1) := by decide +kernel
theorem dL_law_283 : decode cL_law 283 = .ok (.iadd, 1) := by decide +kernel
theorem dL_law_284 : decode cL_law 284 = .ok (.iaload, 1) := by decide +kernel
theorem dL_law_285 : decode cL_law 285 = .ok (.aload_n 0, 1) := by decide +kernel
theorem dL_law_286 : decode cL_law 286 = .ok (.iload_n 3, 1) := by decide +kernel
theorem dL_law_287 : decode cL_law 287 = .ok (.iconst 2, 1) := by decide +kernel
theorem dL_law_288 : decode cL_law 288 = .ok (.iadd, 1) := by decide +kernel
theorem dL_law_289 : decode cL_law 289 = .ok (.iaload, 1) := by decide +kernel
theorem dL_law_290 : decode cL_law 290 = .ok (.invokevirtual 39, 3) := by decide +kernel
theorem dL_law_293 : decode cL_law 293 = .ok (.lcmp, 1) := by decide +kernel
theorem dL_law_294 : decode cL_law 294 = .ok (.ifCond .eq 335, 3) := by decide +kernel
theorem dL_law_297 : decode cL_law 297 = .ok (.iconst 0, 1) := by decide +kernel
theorem dL_law_298 : decode cL_law 298 = .ok (.ireturn, 1) := by decide +kernel
theorem dL_law_299 : decode cL_law 299 = .ok (.aload_n 1, 1) := by decide +kernel
theorem dL_law_300 : decode cL_law 300 = .ok (.aload_n 0, 1) := by decide +kernel
theorem dL_law_301 : decode cL_law 301 = .ok (.iload_n 3, 1) := by decide +kernel
theorem dL_law_302 : decode cL_law 302 = .ok (.iconst 1, 1) := by decide +kernel
theorem dL_law_303 : decode cL_law 303 = .ok (.iadd, 1) := by decide +kernel
theorem dL_law_304 : decode cL_law 304 = .ok (.iaload, 1) := by decide +kernel
theorem dL_law_305 : decode cL_law 305 = .ok (.aload_n 0, 1) := by decide +kernel
theorem dL_law_306 : decode cL_law 306 = .ok (.iload_n 3, 1) := by decide +kernel
theorem dL_law_307 : decode cL_law 307 = .ok (.iconst 2, 1) := by decide +kernel
theorem dL_law_308 : decode cL_law 308 = .ok (.iadd, 1) := by decide +kernel
theorem dL_law_309 : decode cL_law 309 = .ok (.iaload, 1) := by decide +kernel
theorem dL_law_310 : decode cL_law 310 = .ok (.invokevirtual 40, 3) := by decide +kernel
theorem dL_law_313 : decode cL_law 313 = .ok (.aload_n 2, 1) := by decide +kernel
theorem dL_law_314 : decode cL_law 314 = .ok (.aload_n 0, 1) := by decide +kernel
theorem dL_law_315 : decode cL_law 315 = .ok (.iload_n 3, 1) := by decide +kernel
theorem dL_law_316 : decode cL_law 316 = .ok (.iconst 1, 1) := by decide +kernel
theorem dL_law_317 : decode cL_law 317 = .ok (.iadd, 1) := by decide +kernel
theorem dL_law_318 : decode cL_law 318 = .ok (.iaload, 1) := by decide +kernel
theorem dL_law_319 : decode cL_law 319 = .ok (.aload_n 0, 1) := by decide +kernel
theorem dL_law_320 : decode cL_law 320 = .ok (.iload_n 3, 1) := by decide +kernel
theorem dL_law_321 : decode cL_law 321 = .ok (.iconst 2, 1) := by decide +kernel
theorem dL_law_322 : decode cL_law 322 = .ok (.iadd, 1) := by decide +kernel
theorem dL_law_323 : decode cL_law 323 = .ok (.iaload, 1) := by decide +kernel
theorem dL_law_324 : decode cL_law 324 = .ok (.invokevirtual 43, 3) := by decide +kernel
theorem dL_law_327 : decode cL_law 327 = .ok (.lcmp, 1) := by decide +kernel
theorem dL_law_328 : decode cL_law 328 = .ok (.ifCond .eq 301, 3) := by decide +kernel
theorem dL_law_331 : decode cL_law 331 = .ok (.iconst 0, 1) := by decide +kernel
theorem dL_law_332 : decode cL_law 332 = .ok (.ireturn, 1) := by decide +kernel
theorem dL_law_333 : decode cL_law 333 = .ok (.aload_n 1, 1) := by decide +kernel
theorem dL_law_334 : decode cL_law 334 = .ok (.aload_n 0, 1) := by decide +kernel
theorem dL_law_335 : decode cL_law 335 = .ok (.iload_n 3, 1) := by decide +kernel
theorem dL_law_336 : decode cL_law 336 = .ok (.iconst 1, 1) := by decide +kernel
theorem dL_law_337 : decode cL_law 337 = .ok (.iadd, 1) := by decide +kernel
theorem dL_law_338 : decode cL_law 338 = .ok (.iaload, 1) := by decide +kernel
theorem dL_law_339 : decode cL_law 339 = .ok (.invokevirtual 44, 3) := by decide +kernel
theorem dL_law_342 : decode cL_law 342 = .ok (.aload_n 2, 1) := by decide +kernel
theorem dL_law_343 : decode cL_law 343 = .ok (.aload_n 0, 1) := by decide +kernel
theorem dL_law_344 : decode cL_law 344 = .ok (.iload_n 3, 1) := by decide +kernel
theorem dL_law_345 : decode cL_law 345 = .ok (.iconst 1, 1) := by decide +kernel
theorem dL_law_346 : decode cL_law 346 = .ok (.iadd, 1) := by decide +kernel
theorem dL_law_347 : decode cL_law 347 = .ok (.iaload, 1) := by decide +kernel
theorem dL_law_348 : decode cL_law 348 = .ok (.invokevirtual 48, 3) := by decide +kernel
theorem dL_law_351 : decode cL_law 351 = .ok (.if_icmp .eq 278, 3) := by decide +kernel
theorem dL_law_354 : decode cL_law 354 = .ok (.iconst 0, 1) := by decide +kernel
theorem dL_law_355 : decode cL_law 355 = .ok (.ireturn, 1) := by decide +kernel
theorem dL_law_356 : decode cL_law 356 = .ok (.aload_n 1, 1) := by decide +kernel
theorem dL_law_357 : decode cL_law 357 = .ok (.aload_n 0, 1) := by decide +kernel
theorem dL_law_358 : decode cL_law 358 = .ok (.iload_n 3, 1) := by decide +kernel
theorem dL_law_359 : decode cL_law 359 = .ok (.iconst 1, 1) := by decide +kernel
theorem dL_law_360 : decode cL_law 360 = .ok (.iadd, 1) := by decide +kernel
theorem dL_law_361 : decode cL_law 361 = .ok (.iaload, 1) := by decide +kernel
theorem dL_law_362 : decode cL_law 362 = .ok (.aload_n 0, 1) := by decide +kernel
theorem dL_law_363 : decode cL_law 363 = .ok (.iload_n 3, 1) := by decide +kernel
theorem dL_law_364 : decode cL_law 364 = .ok (.iconst 2, 1) := by decide +kernel
theorem dL_law_365 : decode cL_law 365 = .ok (.iadd, 1) := by decide +kernel
theorem dL_law_366 : decode cL_law 366 = .ok (.iaload, 1) := by decide +kernel
theorem dL_law_367 : decode cL_law 367 = .ok (.aload_n 0, 1) := by decide +kernel
theorem dL_law_368 : decode cL_law 368 = .ok (.iload_n 3, 1) := by decide +kernel
theorem dL_law_369 : decode cL_law 369 = .ok (.iconst 3, 1) := by decide +kernel
theorem dL_law_370 : decode cL_law 370 = .ok (.iadd, 1) := by decide +kernel
theorem dL_law_371 : decode cL_law 371 = .ok (.iaload, 1) := by decide +kernel
theorem dL_law_372 : decode cL_law 372 = .ok (.invokevirtual 49, 3) := by decide +kernel
theorem dL_law_375 : decode cL_law 375 = .ok (.aload_n 2, 1) := by decide +kernel
theorem dL_law_376 : decode cL_law 376 = .ok (.aload_n 0, 1) := by decide +kernel
theorem dL_law_377 : decode cL_law 377 = .ok (.iload_n 3, 1) := by decide +kernel
theorem dL_law_378 : decode cL_law 378 = .ok (.iconst 1, 1) := by decide +kernel
theorem dL_law_379 : decode cL_law 379 = .ok (.iadd, 1) := by decide +kernel
theorem dL_law_380 : decode cL_law 380 = .ok (.iaload, 1) := by decide +kernel
theorem dL_law_381 : decode cL_law 381 = .ok (.aload_n 0, 1) := by decide +kernel
theorem dL_law_382 : decode cL_law 382 = .ok (.iload_n 3, 1) := by decide +kernel
theorem dL_law_383 : decode cL_law 383 = .ok (.iconst 2, 1) := by decide +kernel
theorem dL_law_384 : decode cL_law 384 = .ok (.iadd, 1) := by decide +kernel
theorem dL_law_385 : decode cL_law 385 = .ok (.iaload, 1) := by decide +kernel
theorem dL_law_386 : decode cL_law 386 = .ok (.aload_n 0, 1) := by decide +kernel
theorem dL_law_387 : decode cL_law 387 = .ok (.iload_n 3, 1) := by decide +kernel
theorem dL_law_388 : decode cL_law 388 = .ok (.iconst 3, 1) := by decide +kernel
theorem dL_law_389 : decode cL_law 389 = .ok (.iadd, 1) := by decide +kernel
theorem dL_law_390 : decode cL_law 390 = .ok (.iaload, 1) := by decide +kernel
theorem dL_law_391 : decode cL_law 391 = .ok (.invokevirtual 52, 3) := by decide +kernel
theorem dL_law_394 : decode cL_law 394 = .ok (.if_icmp .eq 235, 3) := by decide +kernel
theorem dL_law_397 : decode cL_law 397 = .ok (.iconst 0, 1) := by decide +kernel
theorem dL_law_398 : decode cL_law 398 = .ok (.ireturn, 1) := by decide +kernel
theorem dL_law_399 : decode cL_law 399 = .ok (.aload_n 1, 1) := by decide +kernel
theorem dL_law_400 : decode cL_law 400 = .ok (.aload_n 0, 1) := by decide +kernel
theorem dL_law_401 : decode cL_law 401 = .ok (.iload_n 3, 1) := by decide +kernel
theorem dL_law_402 : decode cL_law 402 = .ok (.iconst 1, 1) := by decide +kernel
theorem dL_law_403 : decode cL_law 403 = .ok (.iadd, 1) := by decide +kernel
theorem dL_law_404 : decode cL_law 404 = .ok (.iaload, 1) := by decide +kernel
theorem dL_law_405 : decode cL_law 405 = .ok (.aload_n 0, 1) := by decide +kernel
theorem dL_law_406 : decode cL_law 406 = .ok (.iload_n 3, 1) := by decide +kernel
theorem dL_law_407 : decode cL_law 407 = .ok (.iconst 2, 1) := by decide +kernel
theorem dL_law_408 : decode cL_law 408 = .ok (.iadd, 1) := by decide +kernel
theorem dL_law_409 : decode cL_law 409 = .ok (.iaload, 1) := by decide +kernel
theorem dL_law_410 : decode cL_law 410 = .ok (.invokevirtual 53, 3) := by decide +kernel
theorem dL_law_413 : decode cL_law 413 = .ok (.aload_n 2, 1) := by decide +kernel
theorem dL_law_414 : decode cL_law 414 = .ok (.aload_n 0, 1) := by decide +kernel
theorem dL_law_415 : decode cL_law 415 = .ok (.iload_n 3, 1) := by decide +kernel
theorem dL_law_416 : decode cL_law 416 = .ok (.iconst 1, 1) := by decide +kernel
theorem dL_law_417 : decode cL_law 417 = .ok (.iadd, 1) := by decide +kernel
theorem dL_law_418 : decode cL_law 418 = .ok (.iaload, 1) := by decide +kernel
theorem dL_law_419 : decode cL_law 419 = .ok (.aload_n 0, 1) := by decide +kernel
theorem dL_law_420 : decode cL_law 420 = .ok (.iload_n 3, 1) := by decide +kernel
theorem dL_law_421 : decode cL_law 421 = .ok (.iconst 2, 1) := by decide +kernel
theorem dL_law_422 : decode cL_law 422 = .ok (.iadd, 1) := by decide +kernel
theorem dL_law_423 : decode cL_law 423 = .ok (.iaload, 1) := by decide +kernel
theorem dL_law_424 : decode cL_law 424 = .ok (.invokevirtual 57, 3) := by decide +kernel
theorem dL_law_427 : decode cL_law 427 = .ok (.if_icmp .eq 202, 3) := by decide +kernel
theorem dL_law_430 : decode cL_law 430 = .ok (.iconst 0, 1) := by decide +kernel
theorem dL_law_431 : decode cL_law 431 = .ok (.ireturn, 1) := by decide +kernel
theorem dL_law_432 : decode cL_law 432 = .ok (.aload_n 1, 1) := by decide +kernel
theorem dL_law_433 : decode cL_law 433 = .ok (.aload_n 0, 1) := by decide +kernel
theorem dL_law_434 : decode cL_law 434 = .ok (.iload_n 3, 1) := by decide +kernel
theorem dL_law_435 : decode cL_law 435 = .ok (.iconst 1, 1) := by decide +kernel
theorem dL_law_436 : decode cL_law 436 = .ok (.iadd, 1) := by decide +kernel
theorem dL_law_437 : decode cL_law 437 = .ok (.iaload, 1) := by decide +kernel
theorem dL_law_438 : decode cL_law 438 = .ok (.aload_n 0, 1) := by decide +kernel
theorem dL_law_439 : decode cL_law 439 = .ok (.iload_n 3, 1) := by decide +kernel
theorem dL_law_440 : decode cL_law 440 = .ok (.iconst 2, 1) := by decide +kernel
theorem dL_law_441 : decode cL_law 441 = .ok (.iadd, 1) := by decide +kernel
theorem dL_law_442 : decode cL_law 442 = .ok (.iaload, 1) := by decide +kernel
theorem dL_law_443 : decode cL_law 443 = .ok (.ifCond .eq 7, 3) := by decide +kernel
theorem dL_law_446 : decode cL_law 446 = .ok (.iconst 1, 1) := by decide +kernel
theorem dL_law_447 : decode cL_law 447 = .ok (.goto 4, 3) := by decide +kernel
theorem dL_law_450 : decode cL_law 450 = .ok (.iconst 0, 1) := by decide +kernel
theorem dL_law_451 : decode cL_law 451 = .ok (.invokevirtual 58, 3) := by decide +kernel
theorem dL_law_454 : decode cL_law 454 = .ok (.aload_n 2, 1) := by decide +kernel
theorem dL_law_455 : decode cL_law 455 = .ok (.aload_n 0, 1) := by decide +kernel
theorem dL_law_456 : decode cL_law 456 = .ok (.iload_n 3, 1) := by decide +kernel
theorem dL_law_457 : decode cL_law 457 = .ok (.iconst 1, 1) := by decide +kernel
theorem dL_law_458 : decode cL_law 458 = .ok (.iadd, 1) := by decide +kernel
theorem dL_law_459 : decode cL_law 459 = .ok (.iaload, 1) := by decide +kernel
theorem dL_law_460 : decode cL_law 460 = .ok (.aload_n 0, 1) := by decide +kernel
theorem dL_law_461 : decode cL_law 461 = .ok (.iload_n 3, 1) := by decide +kernel
theorem dL_law_462 : decode cL_law 462 = .ok (.iconst 2, 1) := by decide +kernel
theorem dL_law_463 : decode cL_law 463 = .ok (.iadd, 1) := by decide +kernel
theorem dL_law_464 : decode cL_law 464 = .ok (.iaload, 1) := by decide +kernel
theorem dL_law_465 : decode cL_law 465 = .ok (.ifCond .eq 7, 3) := by decide +kernel
theorem dL_law_468 : decode cL_law 468 = .ok (.iconst 1, 1) := by decide +kernel
theorem dL_law_469 : decode cL_law 469 = .ok (.goto 4, 3) := by decide +kernel
theorem dL_law_472 : decode cL_law 472 = .ok (.iconst 0, 1) := by decide +kernel
theorem dL_law_473 : decode cL_law 473 = .ok (.invokevirtual 62, 3) := by decide +kernel
theorem dL_law_476 : decode cL_law 476 = .ok (.if_icmp .eq 153, 3) := by decide +kernel
theorem dL_law_479 : decode cL_law 479 = .ok (.iconst 0, 1) := by decide +kernel
theorem dL_law_480 : decode cL_law 480 = .ok (.ireturn, 1) := by decide +kernel
theorem dL_law_481 : decode cL_law 481 = .ok (.aload_n 1, 1) := by decide +kernel
theorem dL_law_482 : decode cL_law 482 = .ok (.aload_n 0, 1) := by decide +kernel
theorem dL_law_483 : decode cL_law 483 = .ok (.iload_n 3, 1) := by decide +kernel
theorem dL_law_484 : decode cL_law 484 = .ok (.iconst 1, 1) := by decide +kernel
theorem dL_law_485 : decode cL_law 485 = .ok (.iadd, 1) := by decide +kernel
theorem dL_law_486 : decode cL_law 486 = .ok (.iaload, 1) := by decide +kernel
theorem dL_law_487 : decode cL_law 487 = .ok (.aload_n 0, 1) := by decide +kernel
theorem dL_law_488 : decode cL_law 488 = .ok (.iload_n 3, 1) := by decide +kernel
theorem dL_law_489 : decode cL_law 489 = .ok (.iconst 2, 1) := by decide +kernel
theorem dL_law_490 : decode cL_law 490 = .ok (.iadd, 1) := by decide +kernel
theorem dL_law_491 : decode cL_law 491 = .ok (.iaload, 1) := by decide +kernel
theorem dL_law_492 : decode cL_law 492 = .ok (.invokevirtual 63, 3) := by decide +kernel
theorem dL_law_495 : decode cL_law 495 = .ok (.aload_n 2, 1) := by decide +kernel
theorem dL_law_496 : decode cL_law 496 = .ok (.aload_n 0, 1) := by decide +kernel
theorem dL_law_497 : decode cL_law 497 = .ok (.iload_n 3, 1) := by decide +kernel
theorem dL_law_498 : decode cL_law 498 = .ok (.iconst 1, 1) := by decide +kernel
theorem dL_law_499 : decode cL_law 499 = .ok (.iadd, 1) := by decide +kernel
theorem dL_law_500 : decode cL_law 500 = .ok (.iaload, 1) := by decide +kernel
theorem dL_law_501 : decode cL_law 501 = .ok (.aload_n 0, 1) := by decide +kernel
theorem dL_law_502 : decode cL_law 502 = .ok (.iload_n 3, 1) := by decide +kernel
theorem dL_law_503 : decode cL_law 503 = .ok (.iconst 2, 1) := by decide +kernel
theorem dL_law_504 : decode cL_law 504 = .ok (.iadd, 1) := by decide +kernel
theorem dL_law_505 : decode cL_law 505 = .ok (.iaload, 1) := by decide +kernel
theorem dL_law_506 : decode cL_law 506 = .ok (.invokevirtual 66, 3) := by decide +kernel
theorem dL_law_509 : decode cL_law 509 = .ok (.if_icmp .eq 120, 3) := by decide +kernel
theorem dL_law_512 : decode cL_law 512 = .ok (.iconst 0, 1) := by decide +kernel
theorem dL_law_513 : decode cL_law 513 = .ok (.ireturn, 1) := by decide +kernel
theorem dL_law_514 : decode cL_law 514 = .ok (.aload_n 1, 1) := by decide +kernel
theorem dL_law_515 : decode cL_law 515 = .ok (.aload_n 0, 1) := by decide +kernel
theorem dL_law_516 : decode cL_law 516 = .ok (.iload_n 3, 1) := by decide +kernel
theorem dL_law_517 : decode cL_law 517 = .ok (.iconst 1, 1) := by decide +kernel
theorem dL_law_518 : decode cL_law 518 = .ok (.iadd, 1) := by decide +kernel
theorem dL_law_519 : decode cL_law 519 = .ok (.iaload, 1) := by decide +kernel
theorem dL_law_520 : decode cL_law 520 = .ok (.invokevirtual 67, 3) := by decide +kernel
theorem dL_law_523 : decode cL_law 523 = .ok (.aload_n 2, 1) := by decide +kernel
theorem dL_law_524 : decode cL_law 524 = .ok (.aload_n 0, 1) := by decide +kernel
theorem dL_law_525 : decode cL_law 525 = .ok (.iload_n 3, 1) := by decide +kernel
theorem dL_law_526 : decode cL_law 526 = .ok (.iconst 1, 1) := by decide +kernel
theorem dL_law_527 : decode cL_law 527 = .ok (.iadd, 1) := by decide +kernel
theorem dL_law_528 : decode cL_law 528 = .ok (.iaload, 1) := by decide +kernel
theorem dL_law_529 : decode cL_law 529 = .ok (.invokevirtual 70, 3) := by decide +kernel
theorem dL_law_532 : decode cL_law 532 = .ok (.if_icmp .eq 97, 3) := by decide +kernel
theorem dL_law_535 : decode cL_law 535 = .ok (.iconst 0, 1) := by decide +kernel
theorem dL_law_536 : decode cL_law 536 = .ok (.ireturn, 1) := by decide +kernel
theorem dL_law_537 : decode cL_law 537 = .ok (.aload_n 1, 1) := by decide +kernel
theorem dL_law_538 : decode cL_law 538 = .ok (.aload_n 0, 1) := by decide +kernel
theorem dL_law_539 : decode cL_law 539 = .ok (.iload_n 3, 1) := by decide +kernel
theorem dL_law_540 : decode cL_law 540 = .ok (.iconst 1, 1) := by decide +kernel
theorem dL_law_541 : decode cL_law 541 = .ok (.iadd, 1) := by decide +kernel
theorem dL_law_542 : decode cL_law 542 = .ok (.iaload, 1) := by decide +kernel
theorem dL_law_543 : decode cL_law 543 = .ok (.invokevirtual 71, 3) := by decide +kernel
theorem dL_law_546 : decode cL_law 546 = .ok (.aload_n 2, 1) := by decide +kernel
theorem dL_law_547 : decode cL_law 547 = .ok (.aload_n 0, 1) := by decide +kernel
theorem dL_law_548 : decode cL_law 548 = .ok (.iload_n 3, 1) := by decide +kernel
theorem dL_law_549 : decode cL_law 549 = .ok (.iconst 1, 1) := by decide +kernel
theorem dL_law_550 : decode cL_law 550 = .ok (.iadd, 1) := by decide +kernel
theorem dL_law_551 : decode cL_law 551 = .ok (.iaload, 1) := by decide +kernel
theorem dL_law_552 : decode cL_law 552 = .ok (.invokevirtual 74, 3) := by decide +kernel
theorem dL_law_555 : decode cL_law 555 = .ok (.if_icmp .eq 74, 3) := by decide +kernel
theorem dL_law_558 : decode cL_law 558 = .ok (.iconst 0, 1) := by decide +kernel
theorem dL_law_559 : decode cL_law 559 = .ok (.ireturn, 1) := by decide +kernel
theorem dL_law_560 : decode cL_law 560 = .ok (.aload_n 1, 1) := by decide +kernel
theorem dL_law_561 : decode cL_law 561 = .ok (.aload_n 0, 1) := by decide +kernel
theorem dL_law_562 : decode cL_law 562 = .ok (.iload_n 3, 1) := by decide +kernel
theorem dL_law_563 : decode cL_law 563 = .ok (.iconst 1, 1) := by decide +kernel
theorem dL_law_564 : decode cL_law 564 = .ok (.iadd, 1) := by decide +kernel
theorem dL_law_565 : decode cL_law 565 = .ok (.iaload, 1) := by decide +kernel
theorem dL_law_566 : decode cL_law 566 = .ok (.invokevirtual 75, 3) := by decide +kernel
theorem dL_law_569 : decode cL_law 569 = .ok (.aload_n 2, 1) := by decide +kernel
theorem dL_law_570 : decode cL_law 570 = .ok (.aload_n 0, 1) := by decide +kernel
theorem dL_law_571 : decode cL_law 571 = .ok (.iload_n 3, 1) := by decide +kernel
theorem dL_law_572 : decode cL_law 572 = .ok (.iconst 1, 1) := by decide +kernel
theorem dL_law_573 : decode cL_law 573 = .ok (.iadd, 1) := by decide +kernel
theorem dL_law_574 : decode cL_law 574 = .ok (.iaload, 1) := by decide +kernel
theorem dL_law_575 : decode cL_law 575 = .ok (.invokevirtual 78, 3) := by decide +kernel
theorem dL_law_578 : decode cL_law 578 = .ok (.if_icmp .eq 51, 3) := by decide +kernel
theorem dL_law_581 : decode cL_law 581 = .ok (.iconst 0, 1) := by decide +kernel
theorem dL_law_582 : decode cL_law 582 = .ok (.ireturn, 1) := by decide +kernel
theorem dL_law_583 : decode cL_law 583 = .ok (.aload_n 1, 1) := by decide +kernel
theorem dL_law_584 : decode cL_law 584 = .ok (.aload_n 0, 1) := by decide +kernel
theorem dL_law_585 : decode cL_law 585 = .ok (.iload_n 3, 1) := by decide +kernel
theorem dL_law_586 : decode cL_law 586 = .ok (.iconst 1, 1) := by decide +kernel
theorem dL_law_587 : decode cL_law 587 = .ok (.iadd, 1) := by decide +kernel
theorem dL_law_588 : decode cL_law 588 = .ok (.iaload, 1) := by decide +kernel
theorem dL_law_589 : decode cL_law 589 = .ok (.invokevirtual 79, 3) := by decide +kernel
theorem dL_law_592 : decode cL_law 592 = .ok (.aload_n 2, 1) := by decide +kernel
theorem dL_law_593 : decode cL_law 593 = .ok (.aload_n 0, 1) := by decide +kernel
theorem dL_law_594 : decode cL_law 594 = .ok (.iload_n 3, 1) := by decide +kernel
theorem dL_law_595 : decode cL_law 595 = .ok (.iconst 1, 1) := by decide +kernel
theorem dL_law_596 : decode cL_law 596 = .ok (.iadd, 1) := by decide +kernel
theorem dL_law_597 : decode cL_law 597 = .ok (.iaload, 1) := by decide +kernel
theorem dL_law_598 : decode cL_law 598 = .ok (.invokevirtual 82, 3) := by decide +kernel
theorem dL_law_601 : decode cL_law 601 = .ok (.if_icmp .eq 28, 3) := by decide +kernel
theorem dL_law_604 : decode cL_law 604 = .ok (.iconst 0, 1) := by decide +kernel
theorem dL_law_605 : decode cL_law 605 = .ok (.ireturn, 1) := by decide +kernel
theorem dL_law_606 : decode cL_law 606 = .ok (.aload_n 1, 1) := by decide +kernel
theorem dL_law_607 : decode cL_law 607 = .ok (.aload_n 0, 1) := by decide +kernel
theorem dL_law_608 : decode cL_law 608 = .ok (.iload_n 3, 1) := by decide +kernel
theorem dL_law_609 : decode cL_law 609 = .ok (.iconst 1, 1) := by decide +kernel
theorem dL_law_610 : decode cL_law 610 = .ok (.iadd, 1) := by decide +kernel
theorem dL_law_611 : decode cL_law 611 = .ok (.iaload, 1) := by decide +kernel
theorem dL_law_612 : decode cL_law 612 = .ok (.invokevirtual 83, 3) := by decide +kernel
theorem dL_law_615 : decode cL_law 615 = .ok (.aload_n 2, 1) := by decide +kernel
theorem dL_law_616 : decode cL_law 616 = .ok (.aload_n 0, 1) := by decide +kernel
theorem dL_law_617 : decode cL_law 617 = .ok (.iload_n 3, 1) := by decide +kernel
theorem dL_law_618 : decode cL_law 618 = .ok (.iconst 1, 1) := by decide +kernel
theorem dL_law_619 : decode cL_law 619 = .ok (.iadd, 1) := by decide +kernel
theorem dL_law_620 : decode cL_law 620 = .ok (.iaload, 1) := by decide +kernel
theorem dL_law_621 : decode cL_law 621 = .ok (.invokevirtual 86, 3) := by decide +kernel
theorem dL_law_624 : decode cL_law 624 = .ok (.if_icmp .eq 5, 3) := by decide +kernel
theorem dL_law_627 : decode cL_law 627 = .ok (.iconst 0, 1) := by decide +kernel
theorem dL_law_628 : decode cL_law 628 = .ok (.ireturn, 1) := by decide +kernel
theorem dL_law_629 : decode cL_law 629 = .ok (.iinc 3 4, 3) := by decide +kernel
theorem dL_law_632 : decode cL_law 632 = .ok (.goto (-614), 3) := by decide +kernel
theorem dL_law_635 : decode cL_law 635 = .ok (.iconst 1, 1) := by decide +kernel
theorem dL_law_636 : decode cL_law 636 = .ok (.ireturn, 1) := by decide +kernel
abbrev vwCl : List vw_C := [(RX0, TX0, 5), (RX2, TX2, 8), (RX3, TX3, 2), (RX4, TX4, 13)]
end
section
/-- the nest mates' links that the class's own methods use -/
def nwA (U : State) : Prop := va_Nw (.methodLinkNest RX0 47 yX3_isTaken RX3) U ∧ va_Nw (.methodLinkNest RX1 7 yX3_isWithin RX3) U ∧ va_Nw (.methodLinkNest RX1 19 yX3_isTaken RX3) U ∧ va_Nw (.methodLinkNest RX2 41 yX3_isTaken RX3) U ∧ va_Nw (.methodLinkNest RX3 18 yX2_init RX3) U
theorem nwA.warm {s U : State} (hW : s.WarmedH U.vm) (h : nwA s) : nwA U := ⟨va_Nw.warmM hW h.1, va_Nw.warmM hW h.2.1, va_Nw.warmM hW h.2.2.1, va_Nw.warmM hW h.2.2.2.1, va_Nw.warmM hW h.2.2.2.2⟩
theorem nwA.calling {U : State} {g : JFrame} {mk : MethodId} {a : Array Value} (h : nwA U) : nwA (U.calling g mk a) := ⟨va_tabs rfl rfl h.1, va_tabs rfl rfl h.2.1, va_tabs rfl rfl h.2.2.1, va_tabs rfl rfl h.2.2.2.1, va_tabs rfl rfl h.2.2.2.2⟩
/-- what a method finds: its cells, their classes, apart -/
def kPre (D : va_G) (tys : List (ClassId × FieldType)) (wc : va_W) (sz : Nat) (U : State) : Prop := U.heap.size = sz ∧ va_P D vwCl wc U.heap ∧ va_K D vwCl tys U ∧ va_D (fun _ => True) wc ∧ nwA U
def kB (D : va_G) (tys : List (ClassId × FieldType)) (A : Nat → Prop) (u : va_W) (t : State) : Prop := va_P D vwCl u t.heap ∧ va_K D vwCl tys t ∧ va_D A u
theorem kPre_blind {D : va_G} {tys : List (ClassId × FieldType)} {wc : va_W} {sz : Nat} {av : List Value} : FrameBlind (va_Pc av (kPre D tys wc sz)) := by
  intro a U g mk q
  obtain ⟨q0, q1, qP, qK, qD, qN⟩ := q
  exact ⟨q0, q1, qP, va_K.moved (u := U) (U := U.calling g mk a) (Vm.Alike.refl U.vm) qK, qD, qN.calling⟩
abbrev KI (l : Launch) (y : MethodName) (wsy : List Cond) (rm : Room) (D : va_G) (tys : List (ClassId × FieldType)) (wc : va_W) (av : List Value) (post : Int32 → va_W → Prop) : Prop :=
  ∀ sz : Nat, Met l y wsy rm (va_Pc av (kPre D tys wc sz)) (va_Qi post (kB D tys (va_A wc sz)) (va_A wc sz)) 0 0 (va_A wc sz)
abbrev KL (l : Launch) (y : MethodName) (wsy : List Cond) (rm : Room) (D : va_G) (tys : List (ClassId × FieldType)) (wc : va_W) (av : List Value) (post : Int64 → va_W → Prop) : Prop :=
  ∀ sz : Nat, Met l y wsy rm (va_Pc av (kPre D tys wc sz)) (va_Ql post (kB D tys (va_A wc sz)) (va_A wc sz)) 0 0 (va_A wc sz)
abbrev KV (l : Launch) (y : MethodName) (wsy : List Cond) (rm : Room) (D : va_G) (tys : List (ClassId × FieldType)) (wc : va_W) (av : List Value) (post : va_W → Prop) : Prop :=
  ∀ sz : Nat, Met l y wsy rm (va_Pc av (kPre D tys wc sz)) (va_Qv post (kB D tys (va_A wc sz)) (va_A wc sz)) 0 0 (va_A wc sz)
section KW
variable {p : Program} {l : Launch} {e : Env} {R : Room} {s : State} {m : MethodId} {args : Array Value} {below : List Frame} {meth : Method} {c : Code} {H : Heap} {locs : List Loc} {cells slots : Nat} {Q : State → Prop} {cc : ByteArray} {nL pc index maxL n : Nat} {ls : Array Slot} {Ts wsy : List Cond} {own C : String} {y : MethodName} {bytes : ByteArray} {ret : Option FieldType} {rm : Room} {D : va_G} {tys tysC : List (ClassId × FieldType)} {A : Nat → Prop} {ws wc wr : va_W} {st0 rest As : List Value} {b : Nat}
theorem kPre_at (hP : va_P D vwCl ws H) (hD : va_D A ws) (hKc : va_K D vwCl tysC s) (hnw : nwA s) (hPc : va_P D vwCl wc H) (hDc : va_D A wc) {av : List Value} {U : State} (hU : U.heap = H) (hW : s.WarmedH U.vm) : va_Pc av (kPre D tysC wc H.size) av.toArray U :=
  ⟨rfl, by rw [hU], by rw [hU]; exact hPc, va_K.moved hW.alike hKc, hDc.weaken (fun _ _ _ _ => trivial), hnw.warm hW⟩
theorem kc_i {post : Int32 → va_W → Prop} {a : Array Value} (hr : va_Run p l e R s m args below meth c H locs cells slots 0 0 (F0 m pc ls st0) rest (va_Qi post (kB D tysC (va_A wc H.size)) (va_A wc H.size) a) (va_A wc H.size))
    (hP : va_P D vwCl ws H) (hD : va_D A ws) (hS : va_S A s.heap H locs) (hFc : ∀ q, va_A wc H.size q → A q) (isC isR : List Nat) (hC : isC.map (fun i => ws[i]?) = wc.map some) (hR : isR.map (fun i => ws[i]?) = wr.map some) (hn : va_nd isR = true) (hdis : ∀ i ∈ isR, i ∉ isC)
    (kk : ∀ (r : Int32) (u : va_W) (H1 : Heap) (locs1 : List Loc), post r u → va_P D vwCl (wr ++ u) H1 → va_D A (wr ++ u) → va_S A s.heap H1 locs1 → W p l e R s m args below meth c H1 locs1 cells slots Q (F0 m (pc + 3) ls (.int r :: rest))) :
    W p l e R s m args below meth c H locs cells slots Q (F0 m pc ls st0) := by
  refine va_calli hr hS (fun q _ h => hFc q h) hFc (fun r u t H1 locs1 ht hvm hw hB hz1 hk1 hS1 => ?_)
  obtain ⟨hP1, hK1, hD1⟩ := hB
  rw [ht] at hP1
  obtain ⟨hP2, hD2⟩ := va_join (wr := wr) (w1 := u) hP hD isC isR hC hR hn hdis hk1 hFc hP1 hD1
  exact kk r u H1 locs1 hw hP2 hD2 hS1
theorem kc_l {post : Int64 → va_W → Prop} {a : Array Value} (hr : va_Run p l e R s m args below meth c H locs cells slots 0 0 (F0 m pc ls st0) rest (va_Ql post (kB D tysC (va_A wc H.size)) (va_A wc H.size) a) (va_A wc H.size))
    (hP : va_P D vwCl ws H) (hD : va_D A ws) (hS : va_S A s.heap H locs) (hFc : ∀ q, va_A wc H.size q → A q) (isC isR : List Nat) (hC : isC.map (fun i => ws[i]?) = wc.map some) (hR : isR.map (fun i => ws[i]?) = wr.map some) (hn : va_nd isR = true) (hdis : ∀ i ∈ isR, i ∉ isC)
    (kk : ∀ (r : Int64) (u : va_W) (H1 : Heap) (locs1 : List Loc), post r u → va_P D vwCl (wr ++ u) H1 → va_D A (wr ++ u) → va_S A s.heap H1 locs1 → W p l e R s m args below meth c H1 locs1 cells slots Q (F0 m (pc + 3) ls (.long r :: rest))) :
    W p l e R s m args below meth c H locs cells slots Q (F0 m pc ls st0) := by
  refine va_calll hr hS (fun q _ h => hFc q h) hFc (fun r u t H1 locs1 ht hvm hw hB hz1 hk1 hS1 => ?_)
  obtain ⟨hP1, hK1, hD1⟩ := hB
  rw [ht] at hP1
  obtain ⟨hP2, hD2⟩ := va_join (wr := wr) (w1 := u) hP hD isC isR hC hR hn hdis hk1 hFc hP1 hD1
  exact kk r u H1 locs1 hw hP2 hD2 hS1
theorem kc_v {post : va_W → Prop} {a : Array Value} (hr : va_Run p l e R s m args below meth c H locs cells slots 0 0 (F0 m pc ls st0) rest (va_Qv post (kB D tysC (va_A wc H.size)) (va_A wc H.size) a) (va_A wc H.size))
    (hP : va_P D vwCl ws H) (hD : va_D A ws) (hS : va_S A s.heap H locs) (hFc : ∀ q, va_A wc H.size q → A q) (isC isR : List Nat) (hC : isC.map (fun i => ws[i]?) = wc.map some) (hR : isR.map (fun i => ws[i]?) = wr.map some) (hn : va_nd isR = true) (hdis : ∀ i ∈ isR, i ∉ isC)
    (kk : ∀ (u : va_W) (H1 : Heap) (locs1 : List Loc), post u → va_P D vwCl (wr ++ u) H1 → va_D A (wr ++ u) → va_S A s.heap H1 locs1 → W p l e R s m args below meth c H1 locs1 cells slots Q (F0 m (pc + 3) ls rest)) :
    W p l e R s m args below meth c H locs cells slots Q (F0 m pc ls st0) := by
  refine va_callv hr hS (fun q _ h => hFc q h) hFc (fun u t H1 locs1 ht hvm hw hB hz1 hk1 hS1 => ?_)
  obtain ⟨hP1, hK1, hD1⟩ := hB
  rw [ht] at hP1
  obtain ⟨hP2, hD2⟩ := va_join (wr := wr) (w1 := u) hP hD isC isR hC hR hn hdis hk1 hFc hP1 hD1
  exact kk u H1 locs1 hw hP2 hD2 hS1
/-- the callee's run, of the kind that the call has: invokevirtual -/
theorem kr_V {Qc : Array Value → State → Outcome → State → Prop} {free : Addr → Prop} (S : CallFix p m c cc nL s args Ts own) (hM : Met l y wsy rm (va_Pc (.ref b :: As) (kPre D tysC wc H.size)) Qc 0 0 free) (cw : CallW R s args own C index y bytes maxL ret wsy rm 0 0 n)
    (ci qr : Nat) {q : vw_C} {fs : List Value} (hK : va_K D vwCl tys s) (hcl : vwCl[ci]? = some q) (hC : q.1 = C) (he : ws[qr]? = some (b, .inr (ci, fs))) (hKc : va_K D vwCl tysC s) (hnw : nwA s) (hP : va_P D vwCl ws H) (hD : va_D A ws) (hPc : va_P D vwCl wc H) (hDc : va_D A wc)
    (hn : As.length = n) (hsize : ls.size = nL) (hstack : st0 = As.reverse ++ .ref b :: rest) (hroom : (rest.map fun v => v.category).sum ≤ 8) (hdg : decode cc pc = .ok (.invokevirtual index, 3)) (hf : cells ≤ R.cells ∧ slots ≤ R.slots) :
    va_Run p l e R s m args below meth c H locs cells slots 0 0 (F0 m pc ls st0) rest (Qc (Value.ref b :: As).toArray) free := by
  subst hC
  exact va_runV (As := As) (rest := rest) S hM cw ⟨kPre_blind, va_recv hK hP hcl he, fun U hU hW => kPre_at hP hD hKc hnw hPc hDc hU hW⟩ rfl hn hsize hstack (lv_room hroom) hdg hf
theorem kr_S {Qc : Array Value → State → Outcome → State → Prop} {free : Addr → Prop} (S : CallFix p m c cc nL s args Ts own) (hM : Met l y wsy rm (va_Pc As (kPre D tysC wc H.size)) Qc 0 0 free) (cw : CallB R s args own index y bytes maxL ret wsy rm 0 0 n ∧ (Cond.static y).before args s = true)
    (hKc : va_K D vwCl tysC s) (hnw : nwA s) (hP : va_P D vwCl ws H) (hD : va_D A ws) (hPc : va_P D vwCl wc H) (hDc : va_D A wc)
    (hn : As.length = n) (hsize : ls.size = nL) (hstack : st0 = As.reverse ++ rest) (hroom : (rest.map fun v => v.category).sum ≤ 8) (hdg : decode cc pc = .ok (.invokestatic index, 3)) (hf : cells ≤ R.cells ∧ slots ≤ R.slots) :
    va_Run p l e R s m args below meth c H locs cells slots 0 0 (F0 m pc ls st0) rest (Qc As.toArray) free :=
  va_runS (As := As) (rest := rest) S hM cw ⟨kPre_blind, fun U hU hW => kPre_at hP hD hKc hnw hPc hDc hU hW⟩ rfl hn hsize hstack (lv_room hroom) hdg hf
theorem kr_N {Qc : Array Value → State → Outcome → State → Prop} {free : Addr → Prop} {host : String} (S : CallFix p m c cc nL s args Ts own) (hM : Met l y wsy rm (va_Pc As (kPre D tysC wc H.size)) Qc 0 0 free) (cw : va_CN R s args own index y host bytes maxL ret wsy rm 0 0 n ∧ (Cond.static y).before args s = true ∧ True)
    (hKc : va_K D vwCl tysC s) (hnw : nwA s) (hP : va_P D vwCl ws H) (hD : va_D A ws) (hPc : va_P D vwCl wc H) (hDc : va_D A wc)
    (hn : As.length = n) (hsize : ls.size = nL) (hstack : st0 = As.reverse ++ rest) (hroom : (rest.map fun v => v.category).sum ≤ 8) (hdg : decode cc pc = .ok (.invokestatic index, 3)) (hf : cells ≤ R.cells ∧ slots ≤ R.slots) :
    va_Run p l e R s m args below meth c H locs cells slots 0 0 (F0 m pc ls st0) rest (Qc As.toArray) free :=
  va_runSN (As := As) (rest := rest) S hM cw ⟨kPre_blind, fun U hU hW => kPre_at hP hD hKc hnw hPc hDc hU hW⟩ rfl hn hsize hstack (lv_room hroom) hdg hf
end KW
/-- a boolean as an int -/
def nb (v : Int32) : Prop := v = 0 ∨ v = 1
theorem nb_nar {v : Int32} (h : nb v) : narrow .boolean (.int v) = .int v := by rcases h with rfl | rfl <;> rfl
theorem nb_fit {v : Int32} (h : nb v) : fits .boolean (.int v) = true := by rcases h with rfl | rfl <;> rfl
theorem nb_0 : nb 0 := Or.inl rfl
theorem nb_1 : nb 1 := Or.inr rfl
theorem vp_guard {i : Int32} {N : Nat} {v : Int32} (hv : v.toInt = (N : Int)) (h0 : ¬ i < 0) (h1 : ¬ v ≤ i) : vp_in i N := by
  rw [vp_in_iff]
  rw [Int32.lt_iff_toInt_lt] at h0
  rw [Int32.le_iff_toInt_le] at h1
  have : (0 : Int32).toInt = 0 := rfl
  omega
end
section
theorem zz_end : True := trivial
end
