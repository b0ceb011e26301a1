section
-- ===== PART A: goes FIRST, ahead of the names: the tables' words, and 'selects' of the private methods out of them =====
/-- a private method of a class that the tables say can be made, by its rows of tables_1 -/
def lw_okq (q : MethodName × Nat) : Prop := (q.1.cls ≠ "java/lang/invoke/MethodHandle" ∧ q.1.cls ≠ "java/lang/invoke/VarHandle") ∧ Cond.instantiable q.1.cls q.2 ∈ tables_1 ∧ Cond.privateMethod q.1 ∈ tables_1 ∧ Cond.instanceMethod q.1 ∈ tables_1
theorem lw_p0 : lw_okq (⟨"FirstStates$Circuit", "addNode", "(I)I"⟩, 15) := ⟨⟨by decide +kernel, by decide +kernel⟩, List.mem_of_getElem? (i := 19) (by decide +kernel), List.mem_of_getElem? (i := 185) (by decide +kernel), List.mem_of_getElem? (i := 186) (by decide +kernel)⟩
theorem lw_p1 : lw_okq (⟨"FirstStates", "beginAgain", "()V"⟩, 7) := ⟨⟨by decide +kernel, by decide +kernel⟩, List.mem_of_getElem? (i := 11) (by decide +kernel), List.mem_of_getElem? (i := 189) (by decide +kernel), List.mem_of_getElem? (i := 190) (by decide +kernel)⟩
theorem lw_p2 : lw_okq (⟨"FirstStates$Walk", "gateOnes", "(I)J"⟩, 3) := ⟨⟨by decide +kernel, by decide +kernel⟩, List.mem_of_getElem? (i := 103) (by decide +kernel), List.mem_of_getElem? (i := 291) (by decide +kernel), List.mem_of_getElem? (i := 292) (by decide +kernel)⟩
theorem lw_p3 : lw_okq (⟨"FirstStates$Walk", "begun", "(JI)J"⟩, 3) := ⟨⟨by decide +kernel, by decide +kernel⟩, List.mem_of_getElem? (i := 103) (by decide +kernel), List.mem_of_getElem? (i := 305) (by decide +kernel), List.mem_of_getElem? (i := 306) (by decide +kernel)⟩
theorem lw_p4 : lw_okq (⟨"FirstStates$Parts", "gateTells", "(I)I"⟩, 3) := ⟨⟨by decide +kernel, by decide +kernel⟩, List.mem_of_getElem? (i := 120) (by decide +kernel), List.mem_of_getElem? (i := 317) (by decide +kernel), List.mem_of_getElem? (i := 318) (by decide +kernel)⟩
theorem lw_p5 : lw_okq (⟨"FirstStates$Needs", "delayAll", "(Z)V"⟩, 2) := ⟨⟨by decide +kernel, by decide +kernel⟩, List.mem_of_getElem? (i := 137) (by decide +kernel), List.mem_of_getElem? (i := 451) (by decide +kernel), List.mem_of_getElem? (i := 452) (by decide +kernel)⟩
theorem lw_p6 : lw_okq (⟨"FirstStatesModel", "begin", "()V"⟩, 24) := ⟨⟨by decide +kernel, by decide +kernel⟩, List.mem_of_getElem? (i := 467) (by decide +kernel), List.mem_of_getElem? (i := 473) (by decide +kernel), List.mem_of_getElem? (i := 474) (by decide +kernel)⟩
theorem lw_p7 : lw_okq (⟨"FirstStatesModel", "add", "(IIIII)I"⟩, 24) := ⟨⟨by decide +kernel, by decide +kernel⟩, List.mem_of_getElem? (i := 467) (by decide +kernel), List.mem_of_getElem? (i := 555) (by decide +kernel), List.mem_of_getElem? (i := 556) (by decide +kernel)⟩
theorem lw_p8 : lw_okq (⟨"FirstStatesModel", "isNode", "(I)Z"⟩, 24) := ⟨⟨by decide +kernel, by decide +kernel⟩, List.mem_of_getElem? (i := 467) (by decide +kernel), List.mem_of_getElem? (i := 570) (by decide +kernel), List.mem_of_getElem? (i := 571) (by decide +kernel)⟩
theorem lw_p9 : lw_okq (⟨"FirstStatesModel", "layLeads", "()V"⟩, 24) := ⟨⟨by decide +kernel, by decide +kernel⟩, List.mem_of_getElem? (i := 467) (by decide +kernel), List.mem_of_getElem? (i := 598) (by decide +kernel), List.mem_of_getElem? (i := 599) (by decide +kernel)⟩
theorem lw_p10 : lw_okq (⟨"FirstStatesModel", "work", "(II)V"⟩, 24) := ⟨⟨by decide +kernel, by decide +kernel⟩, List.mem_of_getElem? (i := 467) (by decide +kernel), List.mem_of_getElem? (i := 602) (by decide +kernel), List.mem_of_getElem? (i := 603) (by decide +kernel)⟩
theorem lw_p11 : lw_okq (⟨"FirstStatesModel", "load", "(Z)V"⟩, 24) := ⟨⟨by decide +kernel, by decide +kernel⟩, List.mem_of_getElem? (i := 467) (by decide +kernel), List.mem_of_getElem? (i := 609) (by decide +kernel), List.mem_of_getElem? (i := 610) (by decide +kernel)⟩
theorem lw_p12 : lw_okq (⟨"FirstStatesModel", "resets", "()I"⟩, 24) := ⟨⟨by decide +kernel, by decide +kernel⟩, List.mem_of_getElem? (i := 467) (by decide +kernel), List.mem_of_getElem? (i := 613) (by decide +kernel), List.mem_of_getElem? (i := 614) (by decide +kernel)⟩
theorem lw_p13 : lw_okq (⟨"FirstStatesModel", "step", "(IZ)V"⟩, 24) := ⟨⟨by decide +kernel, by decide +kernel⟩, List.mem_of_getElem? (i := 467) (by decide +kernel), List.mem_of_getElem? (i := 617) (by decide +kernel), List.mem_of_getElem? (i := 618) (by decide +kernel)⟩
theorem lw_p14 : lw_okq (⟨"FirstStatesModel", "isPut", "(IZ)Z"⟩, 24) := ⟨⟨by decide +kernel, by decide +kernel⟩, List.mem_of_getElem? (i := 467) (by decide +kernel), List.mem_of_getElem? (i := 621) (by decide +kernel), List.mem_of_getElem? (i := 622) (by decide +kernel)⟩
theorem lw_p15 : lw_okq (⟨"FirstStatesModel", "workParts", "()V"⟩, 24) := ⟨⟨by decide +kernel, by decide +kernel⟩, List.mem_of_getElem? (i := 467) (by decide +kernel), List.mem_of_getElem? (i := 625) (by decide +kernel), List.mem_of_getElem? (i := 626) (by decide +kernel)⟩
def lw_privs_1 : List (MethodName × Nat) := [(⟨"FirstStates$Circuit", "addNode", "(I)I"⟩, 15), (⟨"FirstStates", "beginAgain", "()V"⟩, 7), (⟨"FirstStates$Walk", "gateOnes", "(I)J"⟩, 3), (⟨"FirstStates$Walk", "begun", "(JI)J"⟩, 3), (⟨"FirstStates$Parts", "gateTells", "(I)I"⟩, 3), (⟨"FirstStates$Needs", "delayAll", "(Z)V"⟩, 2), (⟨"FirstStatesModel", "begin", "()V"⟩, 24), (⟨"FirstStatesModel", "add", "(IIIII)I"⟩, 24), (⟨"FirstStatesModel", "isNode", "(I)Z"⟩, 24), (⟨"FirstStatesModel", "layLeads", "()V"⟩, 24), (⟨"FirstStatesModel", "work", "(II)V"⟩, 24), (⟨"FirstStatesModel", "load", "(Z)V"⟩, 24), (⟨"FirstStatesModel", "resets", "()I"⟩, 24), (⟨"FirstStatesModel", "step", "(IZ)V"⟩, 24), (⟨"FirstStatesModel", "isPut", "(IZ)Z"⟩, 24), (⟨"FirstStatesModel", "workParts", "()V"⟩, 24)]
theorem lw_r1 : ∀ q ∈ lw_privs_1, lw_okq q := List.forall_mem_cons.mpr ⟨lw_p0, List.forall_mem_cons.mpr ⟨lw_p1, List.forall_mem_cons.mpr ⟨lw_p2, List.forall_mem_cons.mpr ⟨lw_p3, List.forall_mem_cons.mpr ⟨lw_p4, List.forall_mem_cons.mpr ⟨lw_p5, List.forall_mem_cons.mpr ⟨lw_p6, List.forall_mem_cons.mpr ⟨lw_p7, List.forall_mem_cons.mpr ⟨lw_p8, List.forall_mem_cons.mpr ⟨lw_p9, List.forall_mem_cons.mpr ⟨lw_p10, List.forall_mem_cons.mpr ⟨lw_p11, List.forall_mem_cons.mpr ⟨lw_p12, List.forall_mem_cons.mpr ⟨lw_p13, List.forall_mem_cons.mpr ⟨lw_p14, List.forall_mem_cons.mpr ⟨lw_p15, fun _ h => absurd h List.not_mem_nil⟩⟩⟩⟩⟩⟩⟩⟩⟩⟩⟩⟩⟩⟩⟩⟩
theorem lw_p16 : lw_okq (⟨"FirstStatesModel", "many", "()I"⟩, 24) := ⟨⟨by decide +kernel, by decide +kernel⟩, List.mem_of_getElem? (i := 467) (by decide +kernel), List.mem_of_getElem? (i := 632) (by decide +kernel), List.mem_of_getElem? (i := 633) (by decide +kernel)⟩
theorem lw_p17 : lw_okq (⟨"FirstStatesModel", "sureOf", "(I)I"⟩, 24) := ⟨⟨by decide +kernel, by decide +kernel⟩, List.mem_of_getElem? (i := 467) (by decide +kernel), List.mem_of_getElem? (i := 652) (by decide +kernel), List.mem_of_getElem? (i := 653) (by decide +kernel)⟩
theorem lw_p18 : lw_okq (⟨"FirstStatesModel", "settle", "(IZ)I"⟩, 24) := ⟨⟨by decide +kernel, by decide +kernel⟩, List.mem_of_getElem? (i := 467) (by decide +kernel), List.mem_of_getElem? (i := 668) (by decide +kernel), List.mem_of_getElem? (i := 669) (by decide +kernel)⟩
theorem lw_p19 : lw_okq (⟨"FirstStatesModel", "layLeans", "()V"⟩, 24) := ⟨⟨by decide +kernel, by decide +kernel⟩, List.mem_of_getElem? (i := 467) (by decide +kernel), List.mem_of_getElem? (i := 680) (by decide +kernel), List.mem_of_getElem? (i := 681) (by decide +kernel)⟩
theorem lw_p20 : lw_okq (⟨"FirstStatesModel", "cross", "(I)I"⟩, 24) := ⟨⟨by decide +kernel, by decide +kernel⟩, List.mem_of_getElem? (i := 467) (by decide +kernel), List.mem_of_getElem? (i := 688) (by decide +kernel), List.mem_of_getElem? (i := 689) (by decide +kernel)⟩
theorem lw_p21 : lw_okq (⟨"FirstStatesModel", "layGoes", "()V"⟩, 24) := ⟨⟨by decide +kernel, by decide +kernel⟩, List.mem_of_getElem? (i := 467) (by decide +kernel), List.mem_of_getElem? (i := 715) (by decide +kernel), List.mem_of_getElem? (i := 716) (by decide +kernel)⟩
def lw_privs_2 : List (MethodName × Nat) := [(⟨"FirstStatesModel", "many", "()I"⟩, 24), (⟨"FirstStatesModel", "sureOf", "(I)I"⟩, 24), (⟨"FirstStatesModel", "settle", "(IZ)I"⟩, 24), (⟨"FirstStatesModel", "layLeans", "()V"⟩, 24), (⟨"FirstStatesModel", "cross", "(I)I"⟩, 24), (⟨"FirstStatesModel", "layGoes", "()V"⟩, 24)]
theorem lw_r2 : ∀ q ∈ lw_privs_2, lw_okq q := List.forall_mem_cons.mpr ⟨lw_p16, List.forall_mem_cons.mpr ⟨lw_p17, List.forall_mem_cons.mpr ⟨lw_p18, List.forall_mem_cons.mpr ⟨lw_p19, List.forall_mem_cons.mpr ⟨lw_p20, List.forall_mem_cons.mpr ⟨lw_p21, fun _ h => absurd h List.not_mem_nil⟩⟩⟩⟩⟩⟩
def lw_privs : List (MethodName × Nat) := lw_privs_1 ++ (lw_privs_2)
def lw_tbl : List Cond := k2_sels lw_privs ++ tables_1
theorem lw_privs_ok : ∀ q ∈ lw_privs, lw_okq q := by
  show ∀ q ∈ lw_privs_1 ++ (lw_privs_2), lw_okq q
  exact List.forall_mem_append.mpr ⟨lw_r1, lw_r2⟩
-- ===== end of PART A; then your names; then what follows =====
/-! ===== BEGIN words of one list among another's, by their places ===== -/
theorem goodIn_r {big : List Cond} (ws : List Cond) (ps : List Nat) (hp : ws = ps.filterMap (fun i => big[i]?)) (h : ws.all goodWord = true) : GoodIn big ws := by
  intro w hw
  have h1 := List.all_eq_true.mp h w hw
  rw [hp] at hw
  obtain ⟨i, -, hi⟩ := List.mem_filterMap.mp hw
  have hm : w ∈ big := by first | exact List.mem_of_getElem? hi | exact List.getElem?_mem hi
  exact ⟨hm, good_of_word h1⟩
theorem goodIn_app {big a b : List Cond} (ha : GoodIn big a) (hb : GoodIn big b) : GoodIn big (a ++ b) := fun w h => (List.mem_append.mp h).elim (ha w) (hb w)
theorem goodIn_ca {big a b : List Cond} {c : Cond} (ha : GoodIn big (c :: a)) (hb : GoodIn big b) : GoodIn big (c :: (a ++ b)) := fun w h => (List.mem_cons.mp h).elim (fun e => ha w (List.mem_cons.mpr (Or.inl e))) (fun h => (List.mem_append.mp h).elim (fun h => ha w (List.mem_cons.mpr (Or.inr h))) (hb w))
theorem goodIn_sub {big ws : List Cond} (hm : ∀ w ∈ ws, w ∈ big) (h : ws.all goodWord = true) : GoodIn big ws := fun w hw => ⟨hm w hw, good_of_word (List.all_eq_true.mp h w hw)⟩
/-! ===== END ===== -/

/-! ===== BEGIN printed: names, fields, word lists, decode rows ===== -/
def RX0 : String := "FirstStates$Circuit"
def TX0 : u_T := fun k => match k with
  | 0 => ("FirstStates$Circuit", "nodes", "I", false)
  | 1 => ("FirstStates$Circuit", "inputs", "I", false)
  | 2 => ("FirstStates$Circuit", "stores", "I", false)
  | 3 => ("FirstStates$Circuit", "sorts", "[I", true)
  | 4 => ("FirstStates$Circuit", "kinds", "[I", true)
  | 5 => ("FirstStates$Circuit", "firsts", "[I", true)
  | 6 => ("FirstStates$Circuit", "seconds", "[I", true)
  | 7 => ("FirstStates$Circuit", "thirds", "[I", true)
  | 8 => ("FirstStates$Circuit", "values", "[I", true)
  | 9 => ("FirstStates$Circuit", "storeNumbers", "[I", true)
  | 10 => ("FirstStates$Circuit", "storeNodes", "[I", true)
  | 11 => ("FirstStates$Circuit", "storeLines", "[I", true)
  | 12 => ("FirstStates$Circuit", "storeBegins", "[I", true)
  | 13 => ("FirstStates$Circuit", "storeReads", "[I", true)
  | _ => ("FirstStates$Circuit", "sources", "[I", true)
def tyX0 : Nat → FieldType := fun k => match k with
  | 0 => .int
  | 1 => .int
  | 2 => .int
  | 3 => .array .int
  | 4 => .array .int
  | 5 => .array .int
  | 6 => .array .int
  | 7 => .array .int
  | 8 => .array .int
  | 9 => .array .int
  | 10 => .array .int
  | 11 => .array .int
  | 12 => .array .int
  | 13 => .array .int
  | _ => .array .int
abbrev wsX00 : List Cond := u_ws RX0 TX0 15
theorem nmX0 : ∀ a, a < 15 → ∀ b, b < 15 → a ≠ b → (TX0 a).2.1 ≠ (TX0 b).2.1 := by decide +kernel
theorem tyX0_ok : ∀ k, k < 15 → parseFieldDescriptor (TX0 k).2.2.1 = some (tyX0 k) := by decide +kernel
abbrev cX0_init : ByteArray := prog_2_method_1_code
def yX0_init : MethodName := ⟨RX0, "<init>", "()V"⟩
abbrev cX0_isFull : ByteArray := prog_2_method_2_code
def yX0_isFull : MethodName := ⟨RX0, "isFull", "()Z"⟩
abbrev cX0_isNode : ByteArray := prog_2_method_3_code
def yX0_isNode : MethodName := ⟨RX0, "isNode", "(I)Z"⟩
abbrev cX0_isSort : ByteArray := prog_2_method_4_code
def yX0_isSort : MethodName := ⟨RX0, "isSort", "(II)Z"⟩
abbrev cX0_rowCount : ByteArray := prog_2_method_5_code
def yX0_rowCount : MethodName := ⟨RX0, "rowCount", "()I"⟩
abbrev cX0_addInput : ByteArray := prog_2_method_6_code
def yX0_addInput : MethodName := ⟨RX0, "addInput", "()I"⟩
abbrev cX0_addFixed : ByteArray := prog_2_method_7_code
def yX0_addFixed : MethodName := ⟨RX0, "addFixed", "(I)I"⟩
abbrev cX0_addGate : ByteArray := prog_2_method_8_code
def yX0_addGate : MethodName := ⟨RX0, "addGate", "(IIII)I"⟩
abbrev cX0_addStore : ByteArray := prog_2_method_9_code
def yX0_addStore : MethodName := ⟨RX0, "addStore", "(II)I"⟩
abbrev cX0_addNode : ByteArray := prog_2_method_10_code
def yX0_addNode : MethodName := ⟨RX0, "addNode", "(I)I"⟩
abbrev cX0_aboutStore : ByteArray := prog_2_method_11_code
def yX0_aboutStore : MethodName := ⟨RX0, "aboutStore", "(II)I"⟩
abbrev cX0_storesOf : ByteArray := prog_2_method_12_code
def yX0_storesOf : MethodName := ⟨RX0, "storesOf", "(I)I"⟩
abbrev cX0_beginBits : ByteArray := prog_2_method_13_code
def yX0_beginBits : MethodName := ⟨RX0, "beginBits", "()I"⟩
abbrev cX0_openInputs : ByteArray := prog_2_method_14_code
def yX0_openInputs : MethodName := ⟨RX0, "openInputs", "(Z)I"⟩
abbrev cX0_traceSources : ByteArray := prog_2_method_15_code
def yX0_traceSources : MethodName := ⟨RX0, "traceSources", "()V"⟩
abbrev cX0_leans : ByteArray := prog_2_method_16_code
def yX0_leans : MethodName := ⟨RX0, "leans", "(II)Z"⟩
abbrev cX0_crosses : ByteArray := prog_2_method_17_code
def yX0_crosses : MethodName := ⟨RX0, "crosses", "(II)Z"⟩
def RX1 : String := "FirstStates$Needs"
def TX1 : u_T := fun k => match k with
  | 0 => ("FirstStates$Needs", "waits", "[I", true)
  | _ => ("FirstStates$Needs", "times", "[I", true)
def tyX1 : Nat → FieldType := fun k => match k with
  | 0 => .array .int
  | _ => .array .int
abbrev wsX10 : List Cond := u_ws RX1 TX1 2
theorem nmX1 : ∀ a, a < 2 → ∀ b, b < 2 → a ≠ b → (TX1 a).2.1 ≠ (TX1 b).2.1 := by decide +kernel
theorem tyX1_ok : ∀ k, k < 2 → parseFieldDescriptor (TX1 k).2.2.1 = some (tyX1 k) := by decide +kernel
abbrev cX1_init : ByteArray := prog_3_method_1_code
def yX1_init : MethodName := ⟨RX1, "<init>", "()V"⟩
abbrev cX1_change : ByteArray := prog_3_method_2_code
def yX1_change : MethodName := ⟨RX1, "change", "(III)I"⟩
abbrev cX1_standing : ByteArray := prog_3_method_3_code
def yX1_standing : MethodName := ⟨RX1, "standing", "()I"⟩
abbrev cX1_reckon : ByteArray := prog_3_method_4_code
def yX1_reckon : MethodName := ⟨RX1, "reckon", "()V"⟩
abbrev cX1_delayAll : ByteArray := prog_3_method_5_code
def yX1_delayAll : MethodName := ⟨RX1, "delayAll", "(Z)V"⟩
def RX2 : String := "FirstStates$Parts"
def TX2 : u_T := fun k => match k with
  | 0 => ("FirstStates$Parts", "circuit", "LFirstStates$Circuit;", true)
  | 1 => ("FirstStates$Parts", "tells", "[I", true)
  | _ => ("FirstStates$Parts", "holds", "[I", true)
def tyX2 : Nat → FieldType := fun k => match k with
  | 0 => .object "FirstStates$Circuit"
  | 1 => .array .int
  | _ => .array .int
abbrev wsX20 : List Cond := u_ws RX2 TX2 3
theorem nmX2 : ∀ a, a < 3 → ∀ b, b < 3 → a ≠ b → (TX2 a).2.1 ≠ (TX2 b).2.1 := by decide +kernel
theorem tyX2_ok : ∀ k, k < 3 → parseFieldDescriptor (TX2 k).2.2.1 = some (tyX2 k) := by decide +kernel
abbrev cX2_init : ByteArray := prog_4_method_1_code
def yX2_init : MethodName := ⟨RX2, "<init>", "(LFirstStates$Circuit;)V"⟩
abbrev cX2_forget : ByteArray := prog_4_method_2_code
def yX2_forget : MethodName := ⟨RX2, "forget", "()V"⟩
abbrev cX2_tellAll : ByteArray := prog_4_method_3_code
def yX2_tellAll : MethodName := ⟨RX2, "tellAll", "()V"⟩
abbrev cX2_gateTells : ByteArray := prog_4_method_4_code
def yX2_gateTells : MethodName := ⟨RX2, "gateTells", "(I)I"⟩
abbrev cX2_choiceTells : ByteArray := prog_4_method_5_code
def yX2_choiceTells : MethodName := ⟨RX2, "choiceTells", "(III)I"⟩
abbrev cX2_pass : ByteArray := prog_4_method_6_code
def yX2_pass : MethodName := ⟨RX2, "pass", "(I)V"⟩
abbrev cX2_knownStores : ByteArray := prog_4_method_7_code
def yX2_knownStores : MethodName := ⟨RX2, "knownStores", "()I"⟩
def RX3 : String := "FirstStates$Walk"
def TX3 : u_T := fun k => match k with
  | 0 => ("FirstStates$Walk", "circuit", "LFirstStates$Circuit;", true)
  | 1 => ("FirstStates$Walk", "ones", "[J", true)
  | _ => ("FirstStates$Walk", "leads", "[J", true)
def tyX3 : Nat → FieldType := fun k => match k with
  | 0 => .object "FirstStates$Circuit"
  | 1 => .array .long
  | _ => .array .long
abbrev wsX30 : List Cond := u_ws RX3 TX3 3
theorem nmX3 : ∀ a, a < 3 → ∀ b, b < 3 → a ≠ b → (TX3 a).2.1 ≠ (TX3 b).2.1 := by decide +kernel
theorem tyX3_ok : ∀ k, k < 3 → parseFieldDescriptor (TX3 k).2.2.1 = some (tyX3 k) := by decide +kernel
abbrev cX3_init : ByteArray := prog_5_method_1_code
def yX3_init : MethodName := ⟨RX3, "<init>", "(LFirstStates$Circuit;)V"⟩
abbrev cX3_allRows : ByteArray := prog_5_method_2_code
def yX3_allRows : MethodName := ⟨RX3, "allRows", "()J"⟩
abbrev cX3_prepare : ByteArray := prog_5_method_3_code
def yX3_prepare : MethodName := ⟨RX3, "prepare", "(Z)V"⟩
abbrev cX3_evaluate : ByteArray := prog_5_method_4_code
def yX3_evaluate : MethodName := ⟨RX3, "evaluate", "(IZ)V"⟩
abbrev cX3_everywhere : ByteArray := prog_5_method_5_code
def yX3_everywhere : MethodName := ⟨RX3, "everywhere", "(I)J"⟩
abbrev cX3_gateOnes : ByteArray := prog_5_method_6_code
def yX3_gateOnes : MethodName := ⟨RX3, "gateOnes", "(I)J"⟩
abbrev cX3_led : ByteArray := prog_5_method_7_code
def yX3_led : MethodName := ⟨RX3, "led", "(I)I"⟩
abbrev cX3_after : ByteArray := prog_5_method_8_code
def yX3_after : MethodName := ⟨RX3, "after", "(JI)J"⟩
abbrev cX3_begun : ByteArray := prog_5_method_9_code
def yX3_begun : MethodName := ⟨RX3, "begun", "(JI)J"⟩
abbrev cX3_ticksTillOne : ByteArray := prog_5_method_10_code
def yX3_ticksTillOne : MethodName := ⟨RX3, "ticksTillOne", "(JI)I"⟩
abbrev cX3_leavesOne : ByteArray := prog_5_method_11_code
def yX3_leavesOne : MethodName := ⟨RX3, "leavesOne", "(II)Z"⟩
abbrev cX3_surely : ByteArray := prog_5_method_12_code
def yX3_surely : MethodName := ⟨RX3, "surely", "(IJ)I"⟩
abbrev cX3_sureStores : ByteArray := prog_5_method_13_code
def yX3_sureStores : MethodName := ⟨RX3, "sureStores", "(J)I"⟩
def RX4 : String := "FirstStates"
def TX4 : u_T := fun k => match k with
  | 0 => ("FirstStates", "circuit", "LFirstStates$Circuit;", true)
  | 1 => ("FirstStates", "walk", "LFirstStates$Walk;", true)
  | 2 => ("FirstStates", "parts", "LFirstStates$Parts;", true)
  | 3 => ("FirstStates", "needs", "LFirstStates$Needs;", true)
  | 4 => ("FirstStates", "rows", "J", false)
  | 5 => ("FirstStates", "ticks", "I", false)
  | _ => ("FirstStates", "linesOn", "I", false)
def tyX4 : Nat → FieldType := fun k => match k with
  | 0 => .object "FirstStates$Circuit"
  | 1 => .object "FirstStates$Walk"
  | 2 => .object "FirstStates$Parts"
  | 3 => .object "FirstStates$Needs"
  | 4 => .long
  | 5 => .int
  | _ => .int
abbrev wsX40 : List Cond := u_ws RX4 TX4 7
theorem nmX4 : ∀ a, a < 7 → ∀ b, b < 7 → a ≠ b → (TX4 a).2.1 ≠ (TX4 b).2.1 := by decide +kernel
theorem tyX4_ok : ∀ k, k < 7 → parseFieldDescriptor (TX4 k).2.2.1 = some (tyX4 k) := by decide +kernel
abbrev cX4_init : ByteArray := prog_1_method_1_code
def yX4_init : MethodName := ⟨RX4, "<init>", "()V"⟩
abbrev cX4_input : ByteArray := prog_1_method_2_code
def yX4_input : MethodName := ⟨RX4, "input", "()I"⟩
abbrev cX4_fixed : ByteArray := prog_1_method_3_code
def yX4_fixed : MethodName := ⟨RX4, "fixed", "(I)I"⟩
abbrev cX4_gate : ByteArray := prog_1_method_4_code
def yX4_gate : MethodName := ⟨RX4, "gate", "(IIII)I"⟩
abbrev cX4_store : ByteArray := prog_1_method_5_code
def yX4_store : MethodName := ⟨RX4, "store", "(II)I"⟩
abbrev cX4_reads : ByteArray := prog_1_method_6_code
def yX4_reads : MethodName := ⟨RX4, "reads", "(II)I"⟩
abbrev cX4_about : ByteArray := prog_1_method_7_code
def yX4_about : MethodName := ⟨RX4, "about", "(II)I"⟩
abbrev cX4_line : ByteArray := prog_1_method_8_code
def yX4_line : MethodName := ⟨RX4, "line", "(IZ)I"⟩
abbrev cX4_set : ByteArray := prog_1_method_9_code
def yX4_set : MethodName := ⟨RX4, "set", "(II)I"⟩
abbrev cX4_tick : ByteArray := prog_1_method_10_code
def yX4_tick : MethodName := ⟨RX4, "tick", "(I)I"⟩
abbrev cX4_fresh : ByteArray := prog_1_method_11_code
def yX4_fresh : MethodName := ⟨RX4, "fresh", "()I"⟩
abbrev cX4_possible : ByteArray := prog_1_method_12_code
def yX4_possible : MethodName := ⟨RX4, "possible", "()I"⟩
abbrev cX4_row : ByteArray := prog_1_method_13_code
def yX4_row : MethodName := ⟨RX4, "row", "(I)I"⟩
abbrev cX4_sure : ByteArray := prog_1_method_14_code
def yX4_sure : MethodName := ⟨RX4, "sure", "(I)I"⟩
abbrev cX4_told : ByteArray := prog_1_method_15_code
def yX4_told : MethodName := ⟨RX4, "told", "(I)I"⟩
abbrev cX4_known : ByteArray := prog_1_method_16_code
def yX4_known : MethodName := ⟨RX4, "known", "(Z)I"⟩
abbrev cX4_settles : ByteArray := prog_1_method_17_code
def yX4_settles : MethodName := ⟨RX4, "settles", "()I"⟩
abbrev cX4_next : ByteArray := prog_1_method_18_code
def yX4_next : MethodName := ⟨RX4, "next", "(I)I"⟩
abbrev cX4_depends : ByteArray := prog_1_method_19_code
def yX4_depends : MethodName := ⟨RX4, "depends", "(II)I"⟩
abbrev cX4_crossings : ByteArray := prog_1_method_20_code
def yX4_crossings : MethodName := ⟨RX4, "crossings", "()I"⟩
abbrev cX4_crossing : ByteArray := prog_1_method_21_code
def yX4_crossing : MethodName := ⟨RX4, "crossing", "(I)I"⟩
abbrev cX4_alone : ByteArray := prog_1_method_22_code
def yX4_alone : MethodName := ⟨RX4, "alone", "(I)I"⟩
abbrev cX4_mend : ByteArray := prog_1_method_23_code
def yX4_mend : MethodName := ⟨RX4, "mend", "(I)I"⟩
abbrev cX4_need : ByteArray := prog_1_method_24_code
def yX4_need : MethodName := ⟨RX4, "need", "(III)I"⟩
abbrev cX4_go : ByteArray := prog_1_method_25_code
def yX4_go : MethodName := ⟨RX4, "go", "(I)I"⟩
abbrev cX4_gone : ByteArray := prog_1_method_26_code
def yX4_gone : MethodName := ⟨RX4, "gone", "(I)I"⟩
abbrev cX4_count : ByteArray := prog_1_method_27_code
def yX4_count : MethodName := ⟨RX4, "count", "(I)I"⟩
abbrev cX4_beginAgain : ByteArray := prog_1_method_28_code
def yX4_beginAgain : MethodName := ⟨RX4, "beginAgain", "()V"⟩
abbrev cX4_isBit : ByteArray := prog_1_method_29_code
def yX4_isBit : MethodName := ⟨RX4, "isBit", "(I)Z"⟩
abbrev cX4_isLine : ByteArray := prog_1_method_30_code
def yX4_isLine : MethodName := ⟨RX4, "isLine", "(I)Z"⟩
abbrev cX4_isTickCount : ByteArray := prog_1_method_31_code
def yX4_isTickCount : MethodName := ⟨RX4, "isTickCount", "(I)Z"⟩
def RX5 : String := "FirstStatesModel"
def TX5 : u_T := fun k => match k with
  | 0 => ("FirstStatesModel", "nodes", "I", false)
  | 1 => ("FirstStatesModel", "sort", "[I", true)
  | 2 => ("FirstStatesModel", "which", "[I", true)
  | 3 => ("FirstStatesModel", "first", "[I", true)
  | 4 => ("FirstStatesModel", "second", "[I", true)
  | 5 => ("FirstStatesModel", "third", "[I", true)
  | 6 => ("FirstStatesModel", "inputs", "I", false)
  | 7 => ("FirstStatesModel", "put", "[I", true)
  | 8 => ("FirstStatesModel", "stores", "I", false)
  | 9 => ("FirstStatesModel", "node", "[I", true)
  | 10 => ("FirstStatesModel", "lineOf", "[I", true)
  | 11 => ("FirstStatesModel", "begins", "[I", true)
  | 12 => ("FirstStatesModel", "read", "[I", true)
  | 13 => ("FirstStatesModel", "isOn", "[Z", true)
  | 14 => ("FirstStatesModel", "ticks", "I", false)
  | 15 => ("FirstStatesModel", "can", "[Z", true)
  | 16 => ("FirstStatesModel", "parts", "[I", true)
  | 17 => ("FirstStatesModel", "value", "[I", true)
  | 18 => ("FirstStatesModel", "leads", "[I", true)
  | 19 => ("FirstStatesModel", "set", "[Z", true)
  | 20 => ("FirstStatesModel", "then", "[Z", true)
  | 21 => ("FirstStatesModel", "leans", "[I", true)
  | 22 => ("FirstStatesModel", "needs", "[I", true)
  | _ => ("FirstStatesModel", "goes", "[I", true)
def tyX5 : Nat → FieldType := fun k => match k with
  | 0 => .int
  | 1 => .array .int
  | 2 => .array .int
  | 3 => .array .int
  | 4 => .array .int
  | 5 => .array .int
  | 6 => .int
  | 7 => .array .int
  | 8 => .int
  | 9 => .array .int
  | 10 => .array .int
  | 11 => .array .int
  | 12 => .array .int
  | 13 => .array .boolean
  | 14 => .int
  | 15 => .array .boolean
  | 16 => .array .int
  | 17 => .array .int
  | 18 => .array .int
  | 19 => .array .boolean
  | 20 => .array .boolean
  | 21 => .array .int
  | 22 => .array .int
  | _ => .array .int
abbrev wsX50 : List Cond := u_ws RX5 TX5 24
theorem nmX5 : ∀ a, a < 24 → ∀ b, b < 24 → a ≠ b → (TX5 a).2.1 ≠ (TX5 b).2.1 := by decide +kernel
theorem tyX5_ok : ∀ k, k < 24 → parseFieldDescriptor (TX5 k).2.2.1 = some (tyX5 k) := by decide +kernel
abbrev cX5_init : ByteArray := prog_7_method_1_code
def yX5_init : MethodName := ⟨RX5, "<init>", "()V"⟩
abbrev cX5_in : ByteArray := prog_7_method_3_code
def yX5_in : MethodName := ⟨RX5, "in", "(III)Z"⟩
abbrev cX5_isNode : ByteArray := prog_7_method_4_code
def yX5_isNode : MethodName := ⟨RX5, "isNode", "(I)Z"⟩
abbrev cX5_begin : ByteArray := prog_7_method_5_code
def yX5_begin : MethodName := ⟨RX5, "begin", "()V"⟩
abbrev cX5_add : ByteArray := prog_7_method_6_code
def yX5_add : MethodName := ⟨RX5, "add", "(IIIII)I"⟩
abbrev cX5_input : ByteArray := prog_7_method_7_code
def yX5_input : MethodName := ⟨RX5, "input", "()I"⟩
abbrev cX5_fixed : ByteArray := prog_7_method_8_code
def yX5_fixed : MethodName := ⟨RX5, "fixed", "(I)I"⟩
abbrev cX5_gate : ByteArray := prog_7_method_9_code
def yX5_gate : MethodName := ⟨RX5, "gate", "(IIII)I"⟩
abbrev cX5_store : ByteArray := prog_7_method_10_code
def yX5_store : MethodName := ⟨RX5, "store", "(II)I"⟩
abbrev cX5_reads : ByteArray := prog_7_method_11_code
def yX5_reads : MethodName := ⟨RX5, "reads", "(II)I"⟩
abbrev cX5_about : ByteArray := prog_7_method_12_code
def yX5_about : MethodName := ⟨RX5, "about", "(II)I"⟩
abbrev cX5_gateOf : ByteArray := prog_7_method_13_code
def yX5_gateOf : MethodName := ⟨RX5, "gateOf", "(IIII)I"⟩
abbrev cX5_work : ByteArray := prog_7_method_14_code
def yX5_work : MethodName := ⟨RX5, "work", "(II)V"⟩
abbrev cX5_isPut : ByteArray := prog_7_method_15_code
def yX5_isPut : MethodName := ⟨RX5, "isPut", "(IZ)Z"⟩
abbrev cX5_layLeads : ByteArray := prog_7_method_16_code
def yX5_layLeads : MethodName := ⟨RX5, "layLeads", "()V"⟩
abbrev cX5_step : ByteArray := prog_7_method_17_code
def yX5_step : MethodName := ⟨RX5, "step", "(IZ)V"⟩
abbrev cX5_many : ByteArray := prog_7_method_18_code
def yX5_many : MethodName := ⟨RX5, "many", "()I"⟩
abbrev cX5_resets : ByteArray := prog_7_method_19_code
def yX5_resets : MethodName := ⟨RX5, "resets", "()I"⟩
abbrev cX5_load : ByteArray := prog_7_method_20_code
def yX5_load : MethodName := ⟨RX5, "load", "(Z)V"⟩
abbrev cX5_line : ByteArray := prog_7_method_21_code
def yX5_line : MethodName := ⟨RX5, "line", "(IZ)I"⟩
abbrev cX5_set : ByteArray := prog_7_method_22_code
def yX5_set : MethodName := ⟨RX5, "set", "(II)I"⟩
abbrev cX5_workParts : ByteArray := prog_7_method_23_code
def yX5_workParts : MethodName := ⟨RX5, "workParts", "()V"⟩
abbrev cX5_partGate : ByteArray := prog_7_method_24_code
def yX5_partGate : MethodName := ⟨RX5, "partGate", "(IIII)I"⟩
abbrev cX5_tick : ByteArray := prog_7_method_25_code
def yX5_tick : MethodName := ⟨RX5, "tick", "(I)I"⟩
abbrev cX5_fresh : ByteArray := prog_7_method_26_code
def yX5_fresh : MethodName := ⟨RX5, "fresh", "()I"⟩
abbrev cX5_possible : ByteArray := prog_7_method_27_code
def yX5_possible : MethodName := ⟨RX5, "possible", "()I"⟩
abbrev cX5_row : ByteArray := prog_7_method_28_code
def yX5_row : MethodName := ⟨RX5, "row", "(I)I"⟩
abbrev cX5_sureOf : ByteArray := prog_7_method_29_code
def yX5_sureOf : MethodName := ⟨RX5, "sureOf", "(I)I"⟩
abbrev cX5_sure : ByteArray := prog_7_method_30_code
def yX5_sure : MethodName := ⟨RX5, "sure", "(I)I"⟩
abbrev cX5_told : ByteArray := prog_7_method_31_code
def yX5_told : MethodName := ⟨RX5, "told", "(I)I"⟩
abbrev cX5_known : ByteArray := prog_7_method_32_code
def yX5_known : MethodName := ⟨RX5, "known", "(Z)I"⟩
abbrev cX5_settle : ByteArray := prog_7_method_33_code
def yX5_settle : MethodName := ⟨RX5, "settle", "(IZ)I"⟩
abbrev cX5_settles : ByteArray := prog_7_method_34_code
def yX5_settles : MethodName := ⟨RX5, "settles", "()I"⟩
abbrev cX5_next : ByteArray := prog_7_method_35_code
def yX5_next : MethodName := ⟨RX5, "next", "(I)I"⟩
abbrev cX5_layLeans : ByteArray := prog_7_method_36_code
def yX5_layLeans : MethodName := ⟨RX5, "layLeans", "()V"⟩
abbrev cX5_depends : ByteArray := prog_7_method_37_code
def yX5_depends : MethodName := ⟨RX5, "depends", "(II)I"⟩
abbrev cX5_cross : ByteArray := prog_7_method_38_code
def yX5_cross : MethodName := ⟨RX5, "cross", "(I)I"⟩
abbrev cX5_crossings : ByteArray := prog_7_method_39_code
def yX5_crossings : MethodName := ⟨RX5, "crossings", "()I"⟩
abbrev cX5_crossing : ByteArray := prog_7_method_40_code
def yX5_crossing : MethodName := ⟨RX5, "crossing", "(I)I"⟩
abbrev cX5_alone : ByteArray := prog_7_method_41_code
def yX5_alone : MethodName := ⟨RX5, "alone", "(I)I"⟩
abbrev cX5_ones : ByteArray := prog_7_method_42_code
def yX5_ones : MethodName := ⟨RX5, "ones", "(I)I"⟩
abbrev cX5_mend : ByteArray := prog_7_method_43_code
def yX5_mend : MethodName := ⟨RX5, "mend", "(I)I"⟩
abbrev cX5_need : ByteArray := prog_7_method_44_code
def yX5_need : MethodName := ⟨RX5, "need", "(III)I"⟩
abbrev cX5_layGoes : ByteArray := prog_7_method_45_code
def yX5_layGoes : MethodName := ⟨RX5, "layGoes", "()V"⟩
abbrev cX5_go : ByteArray := prog_7_method_46_code
def yX5_go : MethodName := ⟨RX5, "go", "(I)I"⟩
abbrev cX5_gone : ByteArray := prog_7_method_47_code
def yX5_gone : MethodName := ⟨RX5, "gone", "(I)I"⟩
abbrev cX5_count : ByteArray := prog_7_method_48_code
def yX5_count : MethodName := ⟨RX5, "count", "(I)I"⟩
def RJ6 : String := "java/lang/Integer"
def TJ6 : u_T := fun k => match k with
  | _ => ("", "", "", false)
def tyJ6 : Nat → FieldType := fun k => match k with
  | _ => .int
abbrev wsJ60 : List Cond := u_ws RJ6 TJ6 0
theorem nmJ6 : ∀ a, a < 0 → ∀ b, b < 0 → a ≠ b → (TJ6 a).2.1 ≠ (TJ6 b).2.1 := by decide +kernel
theorem tyJ6_ok : ∀ k, k < 0 → parseFieldDescriptor (TJ6 k).2.2.1 = some (tyJ6 k) := by decide +kernel
abbrev cJ6_bitCount_0f7a4 : ByteArray := prog_8_method_49_code
def yJ6_bitCount_0f7a4 : MethodName := ⟨RJ6, "bitCount", "(I)I"⟩
def RJ13 : String := "java/lang/Long"
def TJ13 : u_T := fun k => match k with
  | _ => ("", "", "", false)
def tyJ13 : Nat → FieldType := fun k => match k with
  | _ => .int
abbrev wsJ130 : List Cond := u_ws RJ13 TJ13 0
theorem nmJ13 : ∀ a, a < 0 → ∀ b, b < 0 → a ≠ b → (TJ13 a).2.1 ≠ (TJ13 b).2.1 := by decide +kernel
theorem tyJ13_ok : ∀ k, k < 0 → parseFieldDescriptor (TJ13 k).2.2.1 = some (tyJ13 k) := by decide +kernel
abbrev cJ13_bitCount_95d88 : ByteArray := prog_9_method_50_code
def yJ13_bitCount_95d88 : MethodName := ⟨RJ13, "bitCount", "(J)I"⟩
def RJ9 : String := "java/lang/Math"
def TJ9 : u_T := fun k => match k with
  | _ => ("", "", "", false)
def tyJ9 : Nat → FieldType := fun k => match k with
  | _ => .int
abbrev wsJ90 : List Cond := u_ws RJ9 TJ9 0
theorem nmJ9 : ∀ a, a < 0 → ∀ b, b < 0 → a ≠ b → (TJ9 a).2.1 ≠ (TJ9 b).2.1 := by decide +kernel
theorem tyJ9_ok : ∀ k, k < 0 → parseFieldDescriptor (TJ9 k).2.2.1 = some (tyJ9 k) := by decide +kernel
abbrev cJ9_max_7cf53 : ByteArray := prog_10_method_65_code
def yJ9_max_7cf53 : MethodName := ⟨RJ9, "max", "(II)I"⟩
def RL : String := "FirstStatesLaw"
abbrev cL_law : ByteArray := code
def yL_law : MethodName := ⟨RL, "law", "([I)Z"⟩
def wsX0_init : List Cond := .code yX0_init cX0_init 1 none :: ([.methodLink RX0 3 objectInit, .instanceMethod objectInit, .code objectInit ⟨#[0xb1]⟩ 1 none, .arrayClass .int, .fieldLink RX0 9 "FirstStates$Circuit" "sorts" "[I", .fieldLink RX0 15 "FirstStates$Circuit" "kinds" "[I", .fieldLink RX0 18 "FirstStates$Circuit" "firsts" "[I", .fieldLink RX0 21 "FirstStates$Circuit" "seconds" "[I", .fieldLink RX0 24 "FirstStates$Circuit" "thirds" "[I", .fieldLink RX0 27 "FirstStates$Circuit" "values" "[I", .fieldLink RX0 30 "FirstStates$Circuit" "storeNumbers" "[I", .fieldLink RX0 33 "FirstStates$Circuit" "storeNodes" "[I", .fieldLink RX0 36 "FirstStates$Circuit" "storeLines" "[I", .fieldLink RX0 39 "FirstStates$Circuit" "storeBegins" "[I", .fieldLink RX0 42 "FirstStates$Circuit" "storeReads" "[I", .fieldLink RX0 45 "FirstStates$Circuit" "sources" "[I"] ++ wsX00)
def wsX0_isFull : List Cond := .code yX0_isFull cX0_isFull 1 (some .boolean) :: ([.fieldLink RX0 48 "FirstStates$Circuit" "nodes" "I"] ++ wsX00)
def wsX0_isNode : List Cond := .code yX0_isNode cX0_isNode 2 (some .boolean) :: ([.fieldLink RX0 48 "FirstStates$Circuit" "nodes" "I"] ++ wsX00)
def wsX0_isSort : List Cond := .code yX0_isSort cX0_isSort 3 (some .boolean) :: ([.fieldLink RX0 9 "FirstStates$Circuit" "sorts" "[I", .methodLink RX0 52 yX0_isNode, .instanceMethod yX0_isNode, .selects RX0 yX0_isNode yX0_isNode, .initialized RX0, .code yX0_isNode cX0_isNode 2 (some .boolean), .fieldLink RX0 48 "FirstStates$Circuit" "nodes" "I"] ++ wsX00)
def wsX0_rowCount : List Cond := .code yX0_rowCount cX0_rowCount 1 (some .int) :: ([.fieldLink RX0 56 "FirstStates$Circuit" "stores" "I"] ++ wsX00)
def wsX0_addNode : List Cond := .code yX0_addNode cX0_addNode 3 (some .int) :: ([.fieldLink RX0 48 "FirstStates$Circuit" "nodes" "I", .fieldLink RX0 9 "FirstStates$Circuit" "sorts" "[I"] ++ wsX00)
def wsX0_addInput : List Cond := .code yX0_addInput cX0_addInput 2 (some .int) :: ([.fieldLink RX0 27 "FirstStates$Circuit" "values" "[I", .fieldLink RX0 63 "FirstStates$Circuit" "inputs" "I", .methodLink RX0 59 yX0_addNode, .instanceMethod yX0_addNode, .selects RX0 yX0_addNode yX0_addNode, .initialized RX0, .code yX0_addNode cX0_addNode 3 (some .int), .fieldLink RX0 48 "FirstStates$Circuit" "nodes" "I", .fieldLink RX0 9 "FirstStates$Circuit" "sorts" "[I"] ++ wsX00)
def wsX0_addFixed : List Cond := .code yX0_addFixed cX0_addFixed 3 (some .int) :: ([.fieldLink RX0 27 "FirstStates$Circuit" "values" "[I", .methodLink RX0 59 yX0_addNode, .instanceMethod yX0_addNode, .selects RX0 yX0_addNode yX0_addNode, .initialized RX0, .code yX0_addNode cX0_addNode 3 (some .int), .fieldLink RX0 48 "FirstStates$Circuit" "nodes" "I", .fieldLink RX0 9 "FirstStates$Circuit" "sorts" "[I"] ++ wsX00)
def wsX0_addGate : List Cond := .code yX0_addGate cX0_addGate 6 (some .int) :: ([.fieldLink RX0 15 "FirstStates$Circuit" "kinds" "[I", .fieldLink RX0 18 "FirstStates$Circuit" "firsts" "[I", .fieldLink RX0 21 "FirstStates$Circuit" "seconds" "[I", .fieldLink RX0 24 "FirstStates$Circuit" "thirds" "[I", .methodLink RX0 59 yX0_addNode, .instanceMethod yX0_addNode, .selects RX0 yX0_addNode yX0_addNode, .initialized RX0, .code yX0_addNode cX0_addNode 3 (some .int), .fieldLink RX0 48 "FirstStates$Circuit" "nodes" "I", .fieldLink RX0 9 "FirstStates$Circuit" "sorts" "[I"] ++ wsX00)
def wsX0_addStore : List Cond := .code yX0_addStore cX0_addStore 4 (some .int) :: ([.fieldLink RX0 30 "FirstStates$Circuit" "storeNumbers" "[I", .fieldLink RX0 56 "FirstStates$Circuit" "stores" "I", .fieldLink RX0 33 "FirstStates$Circuit" "storeNodes" "[I", .fieldLink RX0 36 "FirstStates$Circuit" "storeLines" "[I", .fieldLink RX0 39 "FirstStates$Circuit" "storeBegins" "[I", .fieldLink RX0 42 "FirstStates$Circuit" "storeReads" "[I", .methodLink RX0 59 yX0_addNode, .instanceMethod yX0_addNode, .selects RX0 yX0_addNode yX0_addNode, .initialized RX0, .code yX0_addNode cX0_addNode 3 (some .int), .fieldLink RX0 48 "FirstStates$Circuit" "nodes" "I", .fieldLink RX0 9 "FirstStates$Circuit" "sorts" "[I"] ++ wsX00)
def wsX0_aboutStore : List Cond := .code yX0_aboutStore cX0_aboutStore 3 (some .int) :: ([.fieldLink RX0 36 "FirstStates$Circuit" "storeLines" "[I", .fieldLink RX0 39 "FirstStates$Circuit" "storeBegins" "[I", .fieldLink RX0 42 "FirstStates$Circuit" "storeReads" "[I"] ++ wsX00)
def wsX0_storesOf : List Cond := .code yX0_storesOf cX0_storesOf 4 (some .int) :: ([.fieldLink RX0 56 "FirstStates$Circuit" "stores" "I", .fieldLink RX0 36 "FirstStates$Circuit" "storeLines" "[I"] ++ wsX00)
def wsX0_beginBits : List Cond := .code yX0_beginBits cX0_beginBits 3 (some .int) :: ([.fieldLink RX0 56 "FirstStates$Circuit" "stores" "I", .fieldLink RX0 39 "FirstStates$Circuit" "storeBegins" "[I"] ++ wsX00)
def wsX0_openInputs : List Cond := .code yX0_openInputs cX0_openInputs 4 (some .int) :: ([.fieldLink RX0 48 "FirstStates$Circuit" "nodes" "I", .fieldLink RX0 9 "FirstStates$Circuit" "sorts" "[I", .fieldLink RX0 27 "FirstStates$Circuit" "values" "[I"] ++ wsX00)
def wsX0_traceSources : List Cond := .code yX0_traceSources cX0_traceSources 2 none :: ([.fieldLink RX0 48 "FirstStates$Circuit" "nodes" "I", .fieldLink RX0 9 "FirstStates$Circuit" "sorts" "[I", .fieldLink RX0 45 "FirstStates$Circuit" "sources" "[I", .fieldLink RX0 30 "FirstStates$Circuit" "storeNumbers" "[I", .fieldLink RX0 18 "FirstStates$Circuit" "firsts" "[I", .fieldLink RX0 21 "FirstStates$Circuit" "seconds" "[I", .fieldLink RX0 24 "FirstStates$Circuit" "thirds" "[I"] ++ wsX00)
def wsX0_leans : List Cond := .code yX0_leans cX0_leans 3 (some .boolean) :: ([.fieldLink RX0 45 "FirstStates$Circuit" "sources" "[I", .fieldLink RX0 42 "FirstStates$Circuit" "storeReads" "[I"] ++ wsX00)
def wsX0_crosses : List Cond := .code yX0_crosses cX0_crosses 3 (some .boolean) :: ([.fieldLink RX0 36 "FirstStates$Circuit" "storeLines" "[I", .methodLink RX0 66 yX0_leans, .instanceMethod yX0_leans, .selects RX0 yX0_leans yX0_leans, .initialized RX0, .code yX0_leans cX0_leans 3 (some .boolean), .fieldLink RX0 45 "FirstStates$Circuit" "sources" "[I", .fieldLink RX0 42 "FirstStates$Circuit" "storeReads" "[I"] ++ wsX00)
def wsX1_init : List Cond := .code yX1_init cX1_init 2 none :: ([.methodLink RX1 3 objectInit, .instanceMethod objectInit, .code objectInit ⟨#[0xb1]⟩ 1 none, .arrayClass .int, .fieldLink RX1 9 "FirstStates$Needs" "waits" "[I", .fieldLink RX1 15 "FirstStates$Needs" "times" "[I"] ++ wsX10)
def wsX1_change : List Cond := .code yX1_change cX1_change 5 (some .int) :: ([.fieldLink RX1 9 "FirstStates$Needs" "waits" "[I"] ++ wsX10)
def wsX1_standing : List Cond := .code yX1_standing cX1_standing 3 (some .int) :: ([.fieldLink RX1 9 "FirstStates$Needs" "waits" "[I"] ++ wsX10)
def wsX1_delayAll : List Cond := .code yX1_delayAll cX1_delayAll 5 none :: ([.fieldLink RX1 9 "FirstStates$Needs" "waits" "[I", .fieldLink RX1 15 "FirstStates$Needs" "times" "[I"] ++ wsX10)
def wsX1_reckon : List Cond := .code yX1_reckon cX1_reckon 2 none :: ([.fieldLink RX1 15 "FirstStates$Needs" "times" "[I", .methodLink RX1 18 yX1_delayAll, .instanceMethod yX1_delayAll, .selects RX1 yX1_delayAll yX1_delayAll, .initialized RX1, .code yX1_delayAll cX1_delayAll 5 none, .fieldLink RX1 9 "FirstStates$Needs" "waits" "[I"] ++ wsX10)
def wsX2_init : List Cond := .code yX2_init cX2_init 2 none :: ([.methodLink RX2 3 objectInit, .instanceMethod objectInit, .code objectInit ⟨#[0xb1]⟩ 1 none, .arrayClass .int, .fieldLink RX2 9 "FirstStates$Parts" "tells" "[I", .fieldLink RX2 15 "FirstStates$Parts" "holds" "[I", .fieldLink RX2 18 "FirstStates$Parts" "circuit" "LFirstStates$Circuit;"] ++ wsX20)
def wsX2_forget : List Cond := .code yX2_forget cX2_forget 2 none :: ([.fieldLink RX2 15 "FirstStates$Parts" "holds" "[I"] ++ wsX20)
def wsX2_choiceTells : List Cond := .code yX2_choiceTells cX2_choiceTells 3 (some .int) :: ([])
def wsX2_gateTells : List Cond := .code yX2_gateTells cX2_gateTells 5 (some .int) :: ([.fieldLink RX2 9 "FirstStates$Parts" "tells" "[I", .fieldLink RX2 18 "FirstStates$Parts" "circuit" "LFirstStates$Circuit;", .fieldLink RX2 41 "FirstStates$Circuit" "firsts" "[I", .fieldLink RX2 44 "FirstStates$Circuit" "seconds" "[I", .fieldLink RX2 47 "FirstStates$Circuit" "thirds" "[I", .fieldLink RX2 50 "FirstStates$Circuit" "kinds" "[I", .methodLink RX2 53 Lib.Math.max.name, .static Lib.Math.max.name, .initialized "java/lang/Math", .code Lib.Math.max.name Lib.Math.max.code 2 (some .int), .methodLink RX2 59 yX2_choiceTells, .static yX2_choiceTells, .initialized RX2, .code yX2_choiceTells cX2_choiceTells 3 (some .int)] ++ wsX20 ++ wsX00)
def wsX2_tellAll : List Cond := .code yX2_tellAll cX2_tellAll 2 none :: ([.fieldLink RX2 18 "FirstStates$Parts" "circuit" "LFirstStates$Circuit;", .fieldLink RX2 22 "FirstStates$Circuit" "nodes" "I", .fieldLink RX2 28 "FirstStates$Circuit" "sorts" "[I", .fieldLink RX2 9 "FirstStates$Parts" "tells" "[I", .fieldLink RX2 15 "FirstStates$Parts" "holds" "[I", .fieldLink RX2 35 "FirstStates$Circuit" "storeNumbers" "[I", .fieldLink RX2 38 "FirstStates$Circuit" "values" "[I", .methodLink RX2 31 yX2_gateTells, .instanceMethod yX2_gateTells, .selects RX2 yX2_gateTells yX2_gateTells, .initialized RX2, .code yX2_gateTells cX2_gateTells 5 (some .int), .fieldLink RX2 41 "FirstStates$Circuit" "firsts" "[I", .fieldLink RX2 44 "FirstStates$Circuit" "seconds" "[I", .fieldLink RX2 47 "FirstStates$Circuit" "thirds" "[I", .fieldLink RX2 50 "FirstStates$Circuit" "kinds" "[I", .methodLink RX2 53 Lib.Math.max.name, .static Lib.Math.max.name, .initialized "java/lang/Math", .code Lib.Math.max.name Lib.Math.max.code 2 (some .int), .methodLink RX2 59 yX2_choiceTells, .static yX2_choiceTells, .code yX2_choiceTells cX2_choiceTells 3 (some .int)] ++ wsX20 ++ wsX00)
def wsX2_pass_r1 : List Cond := [Cond.fieldLink RX2 18 "FirstStates$Parts" "circuit" "LFirstStates$Circuit;", Cond.fieldLink RX2 66 "FirstStates$Circuit" "stores" "I", Cond.fieldLink RX2 15 "FirstStates$Parts" "holds" "[I", Cond.fieldLink RX2 69 "FirstStates$Circuit" "storeBegins" "[I", Cond.fieldLink RX2 9 "FirstStates$Parts" "tells" "[I", Cond.fieldLink RX2 72 "FirstStates$Circuit" "storeReads" "[I", Cond.methodLink RX2 63 yX2_tellAll, Cond.instanceMethod yX2_tellAll, Cond.selects RX2 yX2_tellAll yX2_tellAll, Cond.initialized RX2, Cond.code yX2_tellAll cX2_tellAll 2 none, Cond.fieldLink RX2 22 "FirstStates$Circuit" "nodes" "I", Cond.fieldLink RX2 28 "FirstStates$Circuit" "sorts" "[I", Cond.fieldLink RX2 35 "FirstStates$Circuit" "storeNumbers" "[I", Cond.fieldLink RX2 38 "FirstStates$Circuit" "values" "[I", Cond.methodLink RX2 31 yX2_gateTells, Cond.instanceMethod yX2_gateTells, Cond.selects RX2 yX2_gateTells yX2_gateTells, Cond.code yX2_gateTells cX2_gateTells 5 (some .int), Cond.fieldLink RX2 41 "FirstStates$Circuit" "firsts" "[I", Cond.fieldLink RX2 44 "FirstStates$Circuit" "seconds" "[I", Cond.fieldLink RX2 47 "FirstStates$Circuit" "thirds" "[I", Cond.fieldLink RX2 50 "FirstStates$Circuit" "kinds" "[I", Cond.methodLink RX2 53 Lib.Math.max.name]
def wsX2_pass_r2 : List Cond := [Cond.static Lib.Math.max.name, Cond.initialized "java/lang/Math", Cond.code Lib.Math.max.name Lib.Math.max.code 2 (some .int), Cond.methodLink RX2 59 yX2_choiceTells, Cond.static yX2_choiceTells, Cond.code yX2_choiceTells cX2_choiceTells 3 (some .int)]
def wsX2_pass : List Cond := .code yX2_pass cX2_pass 4 none :: ((wsX2_pass_r1 ++ wsX2_pass_r2) ++ wsX20 ++ wsX00)
def wsX2_knownStores : List Cond := .code yX2_knownStores cX2_knownStores 3 (some .int) :: ([.fieldLink RX2 18 "FirstStates$Parts" "circuit" "LFirstStates$Circuit;", .fieldLink RX2 66 "FirstStates$Circuit" "stores" "I", .fieldLink RX2 15 "FirstStates$Parts" "holds" "[I"] ++ wsX20 ++ wsX00)
def wsX3_init : List Cond := .code yX3_init cX3_init 2 none :: ([.methodLink RX3 3 objectInit, .instanceMethod objectInit, .code objectInit ⟨#[0xb1]⟩ 1 none, .arrayClass .long, .fieldLink RX3 9 "FirstStates$Walk" "ones" "[J", .fieldLink RX3 15 "FirstStates$Walk" "leads" "[J", .fieldLink RX3 18 "FirstStates$Walk" "circuit" "LFirstStates$Circuit;"] ++ wsX30)
def wsX3_allRows : List Cond := .code yX3_allRows cX3_allRows 2 (some .long) :: ([.fieldLink RX3 18 "FirstStates$Walk" "circuit" "LFirstStates$Circuit;", .constantLong RX3 28 (-1), .methodLink RX3 22 yX0_rowCount, .instanceMethod yX0_rowCount, .selects RX0 yX0_rowCount yX0_rowCount, .initialized RX0, .code yX0_rowCount cX0_rowCount 1 (some .int), .fieldLink RX0 56 "FirstStates$Circuit" "stores" "I"] ++ wsX30 ++ wsX00)
def wsX3_everywhere : List Cond := .code yX3_everywhere cX3_everywhere 1 (some .long) :: ([.constantLong RX3 28 (-1)])
def wsX3_gateOnes : List Cond := .code yX3_gateOnes cX3_gateOnes 8 (some .long) :: ([.fieldLink RX3 9 "FirstStates$Walk" "ones" "[J", .fieldLink RX3 18 "FirstStates$Walk" "circuit" "LFirstStates$Circuit;", .fieldLink RX3 66 "FirstStates$Circuit" "firsts" "[I", .fieldLink RX3 69 "FirstStates$Circuit" "seconds" "[I", .fieldLink RX3 72 "FirstStates$Circuit" "thirds" "[I", .fieldLink RX3 75 "FirstStates$Circuit" "kinds" "[I", .constantLong RX3 28 (-1)] ++ wsX30 ++ wsX00)
def wsX3_evaluate : List Cond := .code yX3_evaluate cX3_evaluate 5 none :: ([.fieldLink RX3 18 "FirstStates$Walk" "circuit" "LFirstStates$Circuit;", .fieldLink RX3 42 "FirstStates$Circuit" "nodes" "I", .fieldLink RX3 46 "FirstStates$Circuit" "sorts" "[I", .fieldLink RX3 50 "FirstStates$Circuit" "values" "[I", .fieldLink RX3 9 "FirstStates$Walk" "ones" "[J", .fieldLink RX3 60 "FirstStates$Walk" "HOLDING" "[J", .fieldLink RX3 63 "FirstStates$Circuit" "storeNumbers" "[I", .methodLink RX3 53 yX3_everywhere, .static yX3_everywhere, .initialized RX3, .code yX3_everywhere cX3_everywhere 1 (some .long), .constantLong RX3 28 (-1), .methodLink RX3 57 yX3_gateOnes, .instanceMethod yX3_gateOnes, .selects RX3 yX3_gateOnes yX3_gateOnes, .code yX3_gateOnes cX3_gateOnes 8 (some .long), .fieldLink RX3 66 "FirstStates$Circuit" "firsts" "[I", .fieldLink RX3 69 "FirstStates$Circuit" "seconds" "[I", .fieldLink RX3 72 "FirstStates$Circuit" "thirds" "[I", .fieldLink RX3 75 "FirstStates$Circuit" "kinds" "[I"] ++ wsX30 ++ wsX00)
def wsX3_led : List Cond := .code yX3_led cX3_led 4 (some .int) :: ([.fieldLink RX3 18 "FirstStates$Walk" "circuit" "LFirstStates$Circuit;", .fieldLink RX3 78 "FirstStates$Circuit" "stores" "I", .fieldLink RX3 9 "FirstStates$Walk" "ones" "[J", .fieldLink RX3 81 "FirstStates$Circuit" "storeReads" "[I"] ++ wsX30 ++ wsX00)
def wsX3_prepare_r1 : List Cond := [Cond.fieldLink RX3 18 "FirstStates$Walk" "circuit" "LFirstStates$Circuit;", Cond.fieldLink RX3 15 "FirstStates$Walk" "leads" "[J", Cond.methodLink RX3 22 yX0_rowCount, Cond.instanceMethod yX0_rowCount, Cond.selects RX0 yX0_rowCount yX0_rowCount, Cond.initialized RX0, Cond.code yX0_rowCount cX0_rowCount 1 (some .int), Cond.fieldLink RX0 56 "FirstStates$Circuit" "stores" "I", Cond.methodLink RX3 30 yX0_openInputs, Cond.instanceMethod yX0_openInputs, Cond.selects RX0 yX0_openInputs yX0_openInputs, Cond.code yX0_openInputs cX0_openInputs 4 (some .int), Cond.fieldLink RX0 48 "FirstStates$Circuit" "nodes" "I", Cond.fieldLink RX0 9 "FirstStates$Circuit" "sorts" "[I", Cond.fieldLink RX0 27 "FirstStates$Circuit" "values" "[I", Cond.methodLink RX3 34 yX3_evaluate, Cond.instanceMethod yX3_evaluate, Cond.selects RX3 yX3_evaluate yX3_evaluate, Cond.initialized RX3, Cond.code yX3_evaluate cX3_evaluate 5 none, Cond.fieldLink RX3 42 "FirstStates$Circuit" "nodes" "I", Cond.fieldLink RX3 46 "FirstStates$Circuit" "sorts" "[I", Cond.fieldLink RX3 50 "FirstStates$Circuit" "values" "[I", Cond.fieldLink RX3 9 "FirstStates$Walk" "ones" "[J"]
def wsX3_prepare_r2 : List Cond := [Cond.fieldLink RX3 60 "FirstStates$Walk" "HOLDING" "[J", Cond.fieldLink RX3 63 "FirstStates$Circuit" "storeNumbers" "[I", Cond.methodLink RX3 53 yX3_everywhere, Cond.static yX3_everywhere, Cond.code yX3_everywhere cX3_everywhere 1 (some .long), Cond.constantLong RX3 28 (-1), Cond.methodLink RX3 57 yX3_gateOnes, Cond.instanceMethod yX3_gateOnes, Cond.selects RX3 yX3_gateOnes yX3_gateOnes, Cond.code yX3_gateOnes cX3_gateOnes 8 (some .long), Cond.fieldLink RX3 66 "FirstStates$Circuit" "firsts" "[I", Cond.fieldLink RX3 69 "FirstStates$Circuit" "seconds" "[I", Cond.fieldLink RX3 72 "FirstStates$Circuit" "thirds" "[I", Cond.fieldLink RX3 75 "FirstStates$Circuit" "kinds" "[I", Cond.methodLink RX3 38 yX3_led, Cond.instanceMethod yX3_led, Cond.selects RX3 yX3_led yX3_led, Cond.code yX3_led cX3_led 4 (some .int), Cond.fieldLink RX3 78 "FirstStates$Circuit" "stores" "I", Cond.fieldLink RX3 81 "FirstStates$Circuit" "storeReads" "[I"]
def wsX3_prepare : List Cond := .code yX3_prepare cX3_prepare 6 none :: ((wsX3_prepare_r1 ++ wsX3_prepare_r2) ++ wsX30 ++ wsX00)
def wsX3_begun : List Cond := .code yX3_begun cX3_begun 5 (some .long) :: ([.fieldLink RX3 18 "FirstStates$Walk" "circuit" "LFirstStates$Circuit;", .fieldLink RX3 88 "FirstStates$Circuit" "storeBegins" "[I", .fieldLink RX3 60 "FirstStates$Walk" "HOLDING" "[J", .constantLong RX3 28 (-1)] ++ wsX30 ++ wsX00)
def wsX3_after : List Cond := .code yX3_after cX3_after 7 (some .long) :: ([.fieldLink RX3 18 "FirstStates$Walk" "circuit" "LFirstStates$Circuit;", .fieldLink RX3 15 "FirstStates$Walk" "leads" "[J", .fieldLink RX3 78 "FirstStates$Circuit" "stores" "I", .methodLink RX3 22 yX0_rowCount, .instanceMethod yX0_rowCount, .selects RX0 yX0_rowCount yX0_rowCount, .initialized RX0, .code yX0_rowCount cX0_rowCount 1 (some .int), .fieldLink RX0 56 "FirstStates$Circuit" "stores" "I", .methodLink RX3 84 yX3_begun, .instanceMethod yX3_begun, .selects RX3 yX3_begun yX3_begun, .initialized RX3, .code yX3_begun cX3_begun 5 (some .long), .fieldLink RX3 88 "FirstStates$Circuit" "storeBegins" "[I", .fieldLink RX3 60 "FirstStates$Walk" "HOLDING" "[J", .constantLong RX3 28 (-1)] ++ wsX30 ++ wsX00)
def wsJ13_bitCount_95d88 : List Cond := .code yJ13_bitCount_95d88 cJ13_bitCount_95d88 2 (some .int) :: ([.constantLong RJ13 314 (6148914691236517205), .constantLong RJ13 316 (3689348814741910323), .constantLong RJ13 318 (1085102592571150095)])
def wsX3_ticksTillOne_r1 : List Cond := [Cond.methodLink RX3 91 yJ13_bitCount_95d88, Cond.static yJ13_bitCount_95d88, Cond.initialized RJ13, Cond.code yJ13_bitCount_95d88 cJ13_bitCount_95d88 2 (some .int), Cond.constantLong RJ13 314 (6148914691236517205), Cond.constantLong RJ13 316 (3689348814741910323), Cond.constantLong RJ13 318 (1085102592571150095), Cond.methodLink RX3 97 yX3_after, Cond.instanceMethod yX3_after, Cond.selects RX3 yX3_after yX3_after, Cond.initialized RX3, Cond.code yX3_after cX3_after 7 (some .long), Cond.fieldLink RX3 18 "FirstStates$Walk" "circuit" "LFirstStates$Circuit;", Cond.fieldLink RX3 15 "FirstStates$Walk" "leads" "[J", Cond.fieldLink RX3 78 "FirstStates$Circuit" "stores" "I", Cond.methodLink RX3 22 yX0_rowCount, Cond.instanceMethod yX0_rowCount, Cond.selects RX0 yX0_rowCount yX0_rowCount, Cond.initialized RX0, Cond.code yX0_rowCount cX0_rowCount 1 (some .int), Cond.fieldLink RX0 56 "FirstStates$Circuit" "stores" "I", Cond.methodLink RX3 84 yX3_begun, Cond.instanceMethod yX3_begun, Cond.selects RX3 yX3_begun yX3_begun]
def wsX3_ticksTillOne_r2 : List Cond := [Cond.code yX3_begun cX3_begun 5 (some .long), Cond.fieldLink RX3 88 "FirstStates$Circuit" "storeBegins" "[I", Cond.fieldLink RX3 60 "FirstStates$Walk" "HOLDING" "[J", Cond.constantLong RX3 28 (-1)]
def wsX3_ticksTillOne : List Cond := .code yX3_ticksTillOne cX3_ticksTillOne 7 (some .int) :: ((wsX3_ticksTillOne_r1 ++ wsX3_ticksTillOne_r2) ++ wsX30 ++ wsX00)
def wsX3_leavesOne_r1 : List Cond := [Cond.methodLink RX3 100 yX3_allRows, Cond.instanceMethod yX3_allRows, Cond.selects RX3 yX3_allRows yX3_allRows, Cond.initialized RX3, Cond.code yX3_allRows cX3_allRows 2 (some .long), Cond.fieldLink RX3 18 "FirstStates$Walk" "circuit" "LFirstStates$Circuit;", Cond.constantLong RX3 28 (-1), Cond.methodLink RX3 22 yX0_rowCount, Cond.instanceMethod yX0_rowCount, Cond.selects RX0 yX0_rowCount yX0_rowCount, Cond.initialized RX0, Cond.code yX0_rowCount cX0_rowCount 1 (some .int), Cond.fieldLink RX0 56 "FirstStates$Circuit" "stores" "I", Cond.methodLink RX3 97 yX3_after, Cond.instanceMethod yX3_after, Cond.selects RX3 yX3_after yX3_after, Cond.code yX3_after cX3_after 7 (some .long), Cond.fieldLink RX3 15 "FirstStates$Walk" "leads" "[J", Cond.fieldLink RX3 78 "FirstStates$Circuit" "stores" "I", Cond.methodLink RX3 84 yX3_begun, Cond.instanceMethod yX3_begun, Cond.selects RX3 yX3_begun yX3_begun, Cond.code yX3_begun cX3_begun 5 (some .long), Cond.fieldLink RX3 88 "FirstStates$Circuit" "storeBegins" "[I"]
def wsX3_leavesOne_r2 : List Cond := [Cond.fieldLink RX3 60 "FirstStates$Walk" "HOLDING" "[J", Cond.methodLink RX3 91 yJ13_bitCount_95d88, Cond.static yJ13_bitCount_95d88, Cond.initialized RJ13, Cond.code yJ13_bitCount_95d88 cJ13_bitCount_95d88 2 (some .int), Cond.constantLong RJ13 314 (6148914691236517205), Cond.constantLong RJ13 316 (3689348814741910323), Cond.constantLong RJ13 318 (1085102592571150095)]
def wsX3_leavesOne : List Cond := .code yX3_leavesOne cX3_leavesOne 8 (some .boolean) :: ((wsX3_leavesOne_r1 ++ wsX3_leavesOne_r2) ++ wsX30 ++ wsX00)
def wsX3_surely_r1 : List Cond := [Cond.fieldLink RX3 18 "FirstStates$Walk" "circuit" "LFirstStates$Circuit;", Cond.fieldLink RX3 9 "FirstStates$Walk" "ones" "[J", Cond.constantLong RX3 28 (-1), Cond.methodLink RX3 30 yX0_openInputs, Cond.instanceMethod yX0_openInputs, Cond.selects RX0 yX0_openInputs yX0_openInputs, Cond.initialized RX0, Cond.code yX0_openInputs cX0_openInputs 4 (some .int), Cond.fieldLink RX0 48 "FirstStates$Circuit" "nodes" "I", Cond.fieldLink RX0 9 "FirstStates$Circuit" "sorts" "[I", Cond.fieldLink RX0 27 "FirstStates$Circuit" "values" "[I", Cond.methodLink RX3 34 yX3_evaluate, Cond.instanceMethod yX3_evaluate, Cond.selects RX3 yX3_evaluate yX3_evaluate, Cond.initialized RX3, Cond.code yX3_evaluate cX3_evaluate 5 none, Cond.fieldLink RX3 42 "FirstStates$Circuit" "nodes" "I", Cond.fieldLink RX3 46 "FirstStates$Circuit" "sorts" "[I", Cond.fieldLink RX3 50 "FirstStates$Circuit" "values" "[I", Cond.fieldLink RX3 60 "FirstStates$Walk" "HOLDING" "[J", Cond.fieldLink RX3 63 "FirstStates$Circuit" "storeNumbers" "[I", Cond.methodLink RX3 53 yX3_everywhere, Cond.static yX3_everywhere, Cond.code yX3_everywhere cX3_everywhere 1 (some .long)]
def wsX3_surely_r2 : List Cond := [Cond.methodLink RX3 57 yX3_gateOnes, Cond.instanceMethod yX3_gateOnes, Cond.selects RX3 yX3_gateOnes yX3_gateOnes, Cond.code yX3_gateOnes cX3_gateOnes 8 (some .long), Cond.fieldLink RX3 66 "FirstStates$Circuit" "firsts" "[I", Cond.fieldLink RX3 69 "FirstStates$Circuit" "seconds" "[I", Cond.fieldLink RX3 72 "FirstStates$Circuit" "thirds" "[I", Cond.fieldLink RX3 75 "FirstStates$Circuit" "kinds" "[I"]
def wsX3_surely : List Cond := .code yX3_surely cX3_surely 8 (some .int) :: ((wsX3_surely_r1 ++ wsX3_surely_r2) ++ wsX30 ++ wsX00)
def wsX3_sureStores : List Cond := .code yX3_sureStores cX3_sureStores 7 (some .int) :: ([.fieldLink RX3 18 "FirstStates$Walk" "circuit" "LFirstStates$Circuit;", .fieldLink RX3 78 "FirstStates$Circuit" "stores" "I", .fieldLink RX3 60 "FirstStates$Walk" "HOLDING" "[J"] ++ wsX30 ++ wsX00)
def wsX4_init_r1 : List Cond := [Cond.methodLink RX4 1 objectInit, Cond.instanceMethod objectInit, Cond.code objectInit ⟨#[0xb1]⟩ 1 none, Cond.classLink RX4 7 RX0, Cond.instantiable RX0 15, Cond.initialized RX0, Cond.fieldLink RX4 10 "FirstStates" "circuit" "LFirstStates$Circuit;", Cond.classLink RX4 16 RX3, Cond.instantiable RX3 3, Cond.initialized RX3, Cond.fieldLink RX4 21 "FirstStates" "walk" "LFirstStates$Walk;", Cond.classLink RX4 25 RX2, Cond.instantiable RX2 3, Cond.initialized RX2, Cond.fieldLink RX4 28 "FirstStates" "parts" "LFirstStates$Parts;", Cond.classLink RX4 32 RX1, Cond.instantiable RX1 2, Cond.initialized RX1, Cond.fieldLink RX4 35 "FirstStates" "needs" "LFirstStates$Needs;", Cond.fieldLink RX4 39 "FirstStates" "rows" "J", Cond.fieldLink RX4 43 "FirstStates" "ticks" "I", Cond.fieldLink RX4 47 "FirstStates" "linesOn" "I", Cond.instanceMethod yX0_init, Cond.code yX0_init cX0_init 1 none]
def wsX4_init_r2 : List Cond := [Cond.methodLink RX0 3 objectInit, Cond.arrayClass .int, Cond.fieldLink RX0 9 "FirstStates$Circuit" "sorts" "[I", Cond.fieldLink RX0 15 "FirstStates$Circuit" "kinds" "[I", Cond.fieldLink RX0 18 "FirstStates$Circuit" "firsts" "[I", Cond.fieldLink RX0 21 "FirstStates$Circuit" "seconds" "[I", Cond.fieldLink RX0 24 "FirstStates$Circuit" "thirds" "[I", Cond.fieldLink RX0 27 "FirstStates$Circuit" "values" "[I", Cond.fieldLink RX0 30 "FirstStates$Circuit" "storeNumbers" "[I", Cond.fieldLink RX0 33 "FirstStates$Circuit" "storeNodes" "[I", Cond.fieldLink RX0 36 "FirstStates$Circuit" "storeLines" "[I", Cond.fieldLink RX0 39 "FirstStates$Circuit" "storeBegins" "[I", Cond.fieldLink RX0 42 "FirstStates$Circuit" "storeReads" "[I", Cond.fieldLink RX0 45 "FirstStates$Circuit" "sources" "[I", Cond.methodLink RX4 18 yX3_init, Cond.instanceMethod yX3_init, Cond.code yX3_init cX3_init 2 none, Cond.methodLink RX3 3 objectInit, Cond.arrayClass .long, Cond.fieldLink RX3 9 "FirstStates$Walk" "ones" "[J", Cond.fieldLink RX3 15 "FirstStates$Walk" "leads" "[J", Cond.fieldLink RX3 18 "FirstStates$Walk" "circuit" "LFirstStates$Circuit;", Cond.methodLink RX4 27 yX2_init, Cond.instanceMethod yX2_init]
def wsX4_init_r3 : List Cond := [Cond.code yX2_init cX2_init 2 none, Cond.methodLink RX2 3 objectInit, Cond.fieldLink RX2 9 "FirstStates$Parts" "tells" "[I", Cond.fieldLink RX2 15 "FirstStates$Parts" "holds" "[I", Cond.fieldLink RX2 18 "FirstStates$Parts" "circuit" "LFirstStates$Circuit;", Cond.methodLink RX4 34 yX1_init, Cond.instanceMethod yX1_init, Cond.code yX1_init cX1_init 2 none, Cond.methodLink RX1 3 objectInit, Cond.fieldLink RX1 9 "FirstStates$Needs" "waits" "[I", Cond.fieldLink RX1 15 "FirstStates$Needs" "times" "[I"]
def wsX4_init : List Cond := .code yX4_init cX4_init 1 none :: ((wsX4_init_r1 ++ (wsX4_init_r2 ++ wsX4_init_r3)) ++ wsX00 ++ wsX40 ++ wsX30 ++ wsX20 ++ wsX10)
def wsX4_beginAgain : List Cond := .code yX4_beginAgain cX4_beginAgain 1 none :: ([.fieldLink RX4 21 "FirstStates" "walk" "LFirstStates$Walk;", .fieldLink RX4 39 "FirstStates" "rows" "J", .fieldLink RX4 43 "FirstStates" "ticks" "I", .fieldLink RX4 28 "FirstStates" "parts" "LFirstStates$Parts;", .methodLink RX4 181 yX3_allRows, .instanceMethod yX3_allRows, .selects RX3 yX3_allRows yX3_allRows, .initialized RX3, .code yX3_allRows cX3_allRows 2 (some .long), .fieldLink RX3 18 "FirstStates$Walk" "circuit" "LFirstStates$Circuit;", .constantLong RX3 28 (-1), .methodLink RX3 22 yX0_rowCount, .instanceMethod yX0_rowCount, .selects RX0 yX0_rowCount yX0_rowCount, .initialized RX0, .code yX0_rowCount cX0_rowCount 1 (some .int), .fieldLink RX0 56 "FirstStates$Circuit" "stores" "I", .methodLink RX4 208 yX2_forget, .instanceMethod yX2_forget, .selects RX2 yX2_forget yX2_forget, .initialized RX2, .code yX2_forget cX2_forget 2 none, .fieldLink RX2 15 "FirstStates$Parts" "holds" "[I"] ++ wsX40 ++ wsX30 ++ wsX00 ++ wsX20)
def wsX4_input_r1 : List Cond := [Cond.fieldLink RX4 10 "FirstStates" "circuit" "LFirstStates$Circuit;", Cond.fieldLink RX4 50 "FirstStates$Circuit" "inputs" "I", Cond.methodLink RX4 53 yX0_isFull, Cond.instanceMethod yX0_isFull, Cond.selects RX0 yX0_isFull yX0_isFull, Cond.initialized RX0, Cond.code yX0_isFull cX0_isFull 1 (some .boolean), Cond.fieldLink RX0 48 "FirstStates$Circuit" "nodes" "I", Cond.methodLink RX4 57 yX0_addInput, Cond.instanceMethod yX0_addInput, Cond.selects RX0 yX0_addInput yX0_addInput, Cond.code yX0_addInput cX0_addInput 2 (some .int), Cond.fieldLink RX0 27 "FirstStates$Circuit" "values" "[I", Cond.fieldLink RX0 63 "FirstStates$Circuit" "inputs" "I", Cond.methodLink RX0 59 yX0_addNode, Cond.instanceMethod yX0_addNode, Cond.selects RX0 yX0_addNode yX0_addNode, Cond.code yX0_addNode cX0_addNode 3 (some .int), Cond.fieldLink RX0 9 "FirstStates$Circuit" "sorts" "[I", Cond.methodLink RX4 61 yX4_beginAgain, Cond.instanceMethod yX4_beginAgain, Cond.selects RX4 yX4_beginAgain yX4_beginAgain, Cond.initialized RX4, Cond.code yX4_beginAgain cX4_beginAgain 1 none]
def wsX4_input_r2 : List Cond := [Cond.fieldLink RX4 21 "FirstStates" "walk" "LFirstStates$Walk;", Cond.fieldLink RX4 39 "FirstStates" "rows" "J", Cond.fieldLink RX4 43 "FirstStates" "ticks" "I", Cond.fieldLink RX4 28 "FirstStates" "parts" "LFirstStates$Parts;", Cond.methodLink RX4 181 yX3_allRows, Cond.instanceMethod yX3_allRows, Cond.selects RX3 yX3_allRows yX3_allRows, Cond.initialized RX3, Cond.code yX3_allRows cX3_allRows 2 (some .long), Cond.fieldLink RX3 18 "FirstStates$Walk" "circuit" "LFirstStates$Circuit;", Cond.constantLong RX3 28 (-1), Cond.methodLink RX3 22 yX0_rowCount, Cond.instanceMethod yX0_rowCount, Cond.selects RX0 yX0_rowCount yX0_rowCount, Cond.code yX0_rowCount cX0_rowCount 1 (some .int), Cond.fieldLink RX0 56 "FirstStates$Circuit" "stores" "I", Cond.methodLink RX4 208 yX2_forget, Cond.instanceMethod yX2_forget, Cond.selects RX2 yX2_forget yX2_forget, Cond.initialized RX2, Cond.code yX2_forget cX2_forget 2 none, Cond.fieldLink RX2 15 "FirstStates$Parts" "holds" "[I"]
def wsX4_input : List Cond := .code yX4_input cX4_input 2 (some .int) :: ((wsX4_input_r1 ++ wsX4_input_r2) ++ wsX40 ++ wsX00 ++ wsX30 ++ wsX20)
def wsX4_isBit : List Cond := .code yX4_isBit cX4_isBit 1 (some .boolean) :: ([])
def wsX4_fixed_r1 : List Cond := [Cond.fieldLink RX4 10 "FirstStates" "circuit" "LFirstStates$Circuit;", Cond.methodLink RX4 64 yX4_isBit, Cond.static yX4_isBit, Cond.initialized RX4, Cond.code yX4_isBit cX4_isBit 1 (some .boolean), Cond.methodLink RX4 53 yX0_isFull, Cond.instanceMethod yX0_isFull, Cond.selects RX0 yX0_isFull yX0_isFull, Cond.initialized RX0, Cond.code yX0_isFull cX0_isFull 1 (some .boolean), Cond.fieldLink RX0 48 "FirstStates$Circuit" "nodes" "I", Cond.methodLink RX4 68 yX0_addFixed, Cond.instanceMethod yX0_addFixed, Cond.selects RX0 yX0_addFixed yX0_addFixed, Cond.code yX0_addFixed cX0_addFixed 3 (some .int), Cond.fieldLink RX0 27 "FirstStates$Circuit" "values" "[I", Cond.methodLink RX0 59 yX0_addNode, Cond.instanceMethod yX0_addNode, Cond.selects RX0 yX0_addNode yX0_addNode, Cond.code yX0_addNode cX0_addNode 3 (some .int), Cond.fieldLink RX0 9 "FirstStates$Circuit" "sorts" "[I", Cond.methodLink RX4 61 yX4_beginAgain, Cond.instanceMethod yX4_beginAgain, Cond.selects RX4 yX4_beginAgain yX4_beginAgain]
def wsX4_fixed_r2 : List Cond := [Cond.code yX4_beginAgain cX4_beginAgain 1 none, Cond.fieldLink RX4 21 "FirstStates" "walk" "LFirstStates$Walk;", Cond.fieldLink RX4 39 "FirstStates" "rows" "J", Cond.fieldLink RX4 43 "FirstStates" "ticks" "I", Cond.fieldLink RX4 28 "FirstStates" "parts" "LFirstStates$Parts;", Cond.methodLink RX4 181 yX3_allRows, Cond.instanceMethod yX3_allRows, Cond.selects RX3 yX3_allRows yX3_allRows, Cond.initialized RX3, Cond.code yX3_allRows cX3_allRows 2 (some .long), Cond.fieldLink RX3 18 "FirstStates$Walk" "circuit" "LFirstStates$Circuit;", Cond.constantLong RX3 28 (-1), Cond.methodLink RX3 22 yX0_rowCount, Cond.instanceMethod yX0_rowCount, Cond.selects RX0 yX0_rowCount yX0_rowCount, Cond.code yX0_rowCount cX0_rowCount 1 (some .int), Cond.fieldLink RX0 56 "FirstStates$Circuit" "stores" "I", Cond.methodLink RX4 208 yX2_forget, Cond.instanceMethod yX2_forget, Cond.selects RX2 yX2_forget yX2_forget, Cond.initialized RX2, Cond.code yX2_forget cX2_forget 2 none, Cond.fieldLink RX2 15 "FirstStates$Parts" "holds" "[I"]
def wsX4_fixed : List Cond := .code yX4_fixed cX4_fixed 3 (some .int) :: ((wsX4_fixed_r1 ++ wsX4_fixed_r2) ++ wsX40 ++ wsX00 ++ wsX30 ++ wsX20)
def wsX4_gate_r1 : List Cond := [Cond.fieldLink RX4 10 "FirstStates" "circuit" "LFirstStates$Circuit;", Cond.methodLink RX4 72 yX0_isNode, Cond.instanceMethod yX0_isNode, Cond.selects RX0 yX0_isNode yX0_isNode, Cond.initialized RX0, Cond.code yX0_isNode cX0_isNode 2 (some .boolean), Cond.fieldLink RX0 48 "FirstStates$Circuit" "nodes" "I", Cond.methodLink RX4 53 yX0_isFull, Cond.instanceMethod yX0_isFull, Cond.selects RX0 yX0_isFull yX0_isFull, Cond.code yX0_isFull cX0_isFull 1 (some .boolean), Cond.methodLink RX4 75 yX0_addGate, Cond.instanceMethod yX0_addGate, Cond.selects RX0 yX0_addGate yX0_addGate, Cond.code yX0_addGate cX0_addGate 6 (some .int), Cond.fieldLink RX0 15 "FirstStates$Circuit" "kinds" "[I", Cond.fieldLink RX0 18 "FirstStates$Circuit" "firsts" "[I", Cond.fieldLink RX0 21 "FirstStates$Circuit" "seconds" "[I", Cond.fieldLink RX0 24 "FirstStates$Circuit" "thirds" "[I", Cond.methodLink RX0 59 yX0_addNode, Cond.instanceMethod yX0_addNode, Cond.selects RX0 yX0_addNode yX0_addNode, Cond.code yX0_addNode cX0_addNode 3 (some .int), Cond.fieldLink RX0 9 "FirstStates$Circuit" "sorts" "[I"]
def wsX4_gate_r2 : List Cond := [Cond.methodLink RX4 61 yX4_beginAgain, Cond.instanceMethod yX4_beginAgain, Cond.selects RX4 yX4_beginAgain yX4_beginAgain, Cond.initialized RX4, Cond.code yX4_beginAgain cX4_beginAgain 1 none, Cond.fieldLink RX4 21 "FirstStates" "walk" "LFirstStates$Walk;", Cond.fieldLink RX4 39 "FirstStates" "rows" "J", Cond.fieldLink RX4 43 "FirstStates" "ticks" "I", Cond.fieldLink RX4 28 "FirstStates" "parts" "LFirstStates$Parts;", Cond.methodLink RX4 181 yX3_allRows, Cond.instanceMethod yX3_allRows, Cond.selects RX3 yX3_allRows yX3_allRows, Cond.initialized RX3, Cond.code yX3_allRows cX3_allRows 2 (some .long), Cond.fieldLink RX3 18 "FirstStates$Walk" "circuit" "LFirstStates$Circuit;", Cond.constantLong RX3 28 (-1), Cond.methodLink RX3 22 yX0_rowCount, Cond.instanceMethod yX0_rowCount, Cond.selects RX0 yX0_rowCount yX0_rowCount, Cond.code yX0_rowCount cX0_rowCount 1 (some .int), Cond.fieldLink RX0 56 "FirstStates$Circuit" "stores" "I", Cond.methodLink RX4 208 yX2_forget, Cond.instanceMethod yX2_forget, Cond.selects RX2 yX2_forget yX2_forget]
def wsX4_gate_r3 : List Cond := [Cond.initialized RX2, Cond.code yX2_forget cX2_forget 2 none, Cond.fieldLink RX2 15 "FirstStates$Parts" "holds" "[I"]
def wsX4_gate : List Cond := .code yX4_gate cX4_gate 8 (some .int) :: ((wsX4_gate_r1 ++ (wsX4_gate_r2 ++ wsX4_gate_r3)) ++ wsX40 ++ wsX00 ++ wsX30 ++ wsX20)
def wsX4_isLine : List Cond := .code yX4_isLine cX4_isLine 1 (some .boolean) :: ([])
def wsX4_store_r1 : List Cond := [Cond.fieldLink RX4 10 "FirstStates" "circuit" "LFirstStates$Circuit;", Cond.fieldLink RX4 82 "FirstStates$Circuit" "stores" "I", Cond.methodLink RX4 79 yX4_isLine, Cond.static yX4_isLine, Cond.initialized RX4, Cond.code yX4_isLine cX4_isLine 1 (some .boolean), Cond.methodLink RX4 64 yX4_isBit, Cond.static yX4_isBit, Cond.code yX4_isBit cX4_isBit 1 (some .boolean), Cond.methodLink RX4 53 yX0_isFull, Cond.instanceMethod yX0_isFull, Cond.selects RX0 yX0_isFull yX0_isFull, Cond.initialized RX0, Cond.code yX0_isFull cX0_isFull 1 (some .boolean), Cond.fieldLink RX0 48 "FirstStates$Circuit" "nodes" "I", Cond.methodLink RX4 85 yX0_addStore, Cond.instanceMethod yX0_addStore, Cond.selects RX0 yX0_addStore yX0_addStore, Cond.code yX0_addStore cX0_addStore 4 (some .int), Cond.fieldLink RX0 30 "FirstStates$Circuit" "storeNumbers" "[I", Cond.fieldLink RX0 56 "FirstStates$Circuit" "stores" "I", Cond.fieldLink RX0 33 "FirstStates$Circuit" "storeNodes" "[I", Cond.fieldLink RX0 36 "FirstStates$Circuit" "storeLines" "[I", Cond.fieldLink RX0 39 "FirstStates$Circuit" "storeBegins" "[I"]
def wsX4_store_r2 : List Cond := [Cond.fieldLink RX0 42 "FirstStates$Circuit" "storeReads" "[I", Cond.methodLink RX0 59 yX0_addNode, Cond.instanceMethod yX0_addNode, Cond.selects RX0 yX0_addNode yX0_addNode, Cond.code yX0_addNode cX0_addNode 3 (some .int), Cond.fieldLink RX0 9 "FirstStates$Circuit" "sorts" "[I", Cond.methodLink RX4 61 yX4_beginAgain, Cond.instanceMethod yX4_beginAgain, Cond.selects RX4 yX4_beginAgain yX4_beginAgain, Cond.code yX4_beginAgain cX4_beginAgain 1 none, Cond.fieldLink RX4 21 "FirstStates" "walk" "LFirstStates$Walk;", Cond.fieldLink RX4 39 "FirstStates" "rows" "J", Cond.fieldLink RX4 43 "FirstStates" "ticks" "I", Cond.fieldLink RX4 28 "FirstStates" "parts" "LFirstStates$Parts;", Cond.methodLink RX4 181 yX3_allRows, Cond.instanceMethod yX3_allRows, Cond.selects RX3 yX3_allRows yX3_allRows, Cond.initialized RX3, Cond.code yX3_allRows cX3_allRows 2 (some .long), Cond.fieldLink RX3 18 "FirstStates$Walk" "circuit" "LFirstStates$Circuit;", Cond.constantLong RX3 28 (-1), Cond.methodLink RX3 22 yX0_rowCount, Cond.instanceMethod yX0_rowCount, Cond.selects RX0 yX0_rowCount yX0_rowCount]
def wsX4_store_r3 : List Cond := [Cond.code yX0_rowCount cX0_rowCount 1 (some .int), Cond.methodLink RX4 208 yX2_forget, Cond.instanceMethod yX2_forget, Cond.selects RX2 yX2_forget yX2_forget, Cond.initialized RX2, Cond.code yX2_forget cX2_forget 2 none, Cond.fieldLink RX2 15 "FirstStates$Parts" "holds" "[I"]
def wsX4_store : List Cond := .code yX4_store cX4_store 4 (some .int) :: ((wsX4_store_r1 ++ (wsX4_store_r2 ++ wsX4_store_r3)) ++ wsX40 ++ wsX00 ++ wsX30 ++ wsX20)
def wsX4_reads_r1 : List Cond := [Cond.fieldLink RX4 10 "FirstStates" "circuit" "LFirstStates$Circuit;", Cond.fieldLink RX4 93 "FirstStates$Circuit" "storeNumbers" "[I", Cond.fieldLink RX4 97 "FirstStates$Circuit" "storeReads" "[I", Cond.methodLink RX4 72 yX0_isNode, Cond.instanceMethod yX0_isNode, Cond.selects RX0 yX0_isNode yX0_isNode, Cond.initialized RX0, Cond.code yX0_isNode cX0_isNode 2 (some .boolean), Cond.fieldLink RX0 48 "FirstStates$Circuit" "nodes" "I", Cond.methodLink RX4 89 yX0_isSort, Cond.instanceMethod yX0_isSort, Cond.selects RX0 yX0_isSort yX0_isSort, Cond.code yX0_isSort cX0_isSort 3 (some .boolean), Cond.fieldLink RX0 9 "FirstStates$Circuit" "sorts" "[I", Cond.methodLink RX0 52 yX0_isNode, Cond.methodLink RX4 61 yX4_beginAgain, Cond.instanceMethod yX4_beginAgain, Cond.selects RX4 yX4_beginAgain yX4_beginAgain, Cond.initialized RX4, Cond.code yX4_beginAgain cX4_beginAgain 1 none, Cond.fieldLink RX4 21 "FirstStates" "walk" "LFirstStates$Walk;", Cond.fieldLink RX4 39 "FirstStates" "rows" "J", Cond.fieldLink RX4 43 "FirstStates" "ticks" "I", Cond.fieldLink RX4 28 "FirstStates" "parts" "LFirstStates$Parts;"]
def wsX4_reads_r2 : List Cond := [Cond.methodLink RX4 181 yX3_allRows, Cond.instanceMethod yX3_allRows, Cond.selects RX3 yX3_allRows yX3_allRows, Cond.initialized RX3, Cond.code yX3_allRows cX3_allRows 2 (some .long), Cond.fieldLink RX3 18 "FirstStates$Walk" "circuit" "LFirstStates$Circuit;", Cond.constantLong RX3 28 (-1), Cond.methodLink RX3 22 yX0_rowCount, Cond.instanceMethod yX0_rowCount, Cond.selects RX0 yX0_rowCount yX0_rowCount, Cond.code yX0_rowCount cX0_rowCount 1 (some .int), Cond.fieldLink RX0 56 "FirstStates$Circuit" "stores" "I", Cond.methodLink RX4 208 yX2_forget, Cond.instanceMethod yX2_forget, Cond.selects RX2 yX2_forget yX2_forget, Cond.initialized RX2, Cond.code yX2_forget cX2_forget 2 none, Cond.fieldLink RX2 15 "FirstStates$Parts" "holds" "[I"]
def wsX4_reads : List Cond := .code yX4_reads cX4_reads 5 (some .int) :: ((wsX4_reads_r1 ++ wsX4_reads_r2) ++ wsX40 ++ wsX00 ++ wsX30 ++ wsX20)
def wsX4_about : List Cond := .code yX4_about cX4_about 3 (some .int) :: ([.fieldLink RX4 10 "FirstStates" "circuit" "LFirstStates$Circuit;", .fieldLink RX4 100 "FirstStates$Circuit" "sorts" "[I", .fieldLink RX4 103 "FirstStates$Circuit" "kinds" "[I", .fieldLink RX4 93 "FirstStates$Circuit" "storeNumbers" "[I", .methodLink RX4 72 yX0_isNode, .instanceMethod yX0_isNode, .selects RX0 yX0_isNode yX0_isNode, .initialized RX0, .code yX0_isNode cX0_isNode 2 (some .boolean), .fieldLink RX0 48 "FirstStates$Circuit" "nodes" "I", .methodLink RX4 89 yX0_isSort, .instanceMethod yX0_isSort, .selects RX0 yX0_isSort yX0_isSort, .code yX0_isSort cX0_isSort 3 (some .boolean), .fieldLink RX0 9 "FirstStates$Circuit" "sorts" "[I", .methodLink RX0 52 yX0_isNode, .methodLink RX4 106 yX0_aboutStore, .instanceMethod yX0_aboutStore, .selects RX0 yX0_aboutStore yX0_aboutStore, .code yX0_aboutStore cX0_aboutStore 3 (some .int), .fieldLink RX0 36 "FirstStates$Circuit" "storeLines" "[I", .fieldLink RX0 39 "FirstStates$Circuit" "storeBegins" "[I", .fieldLink RX0 42 "FirstStates$Circuit" "storeReads" "[I"] ++ wsX40 ++ wsX00)
def wsX4_line : List Cond := .code yX4_line cX4_line 5 (some .int) :: ([.fieldLink RX4 47 "FirstStates" "linesOn" "I", .methodLink RX4 79 yX4_isLine, .static yX4_isLine, .initialized RX4, .code yX4_isLine cX4_isLine 1 (some .boolean)] ++ wsX40)
def wsX4_set : List Cond := .code yX4_set cX4_set 4 (some .int) :: ([.fieldLink RX4 10 "FirstStates" "circuit" "LFirstStates$Circuit;", .fieldLink RX4 109 "FirstStates$Circuit" "values" "[I", .methodLink RX4 72 yX0_isNode, .instanceMethod yX0_isNode, .selects RX0 yX0_isNode yX0_isNode, .initialized RX0, .code yX0_isNode cX0_isNode 2 (some .boolean), .fieldLink RX0 48 "FirstStates$Circuit" "nodes" "I", .methodLink RX4 89 yX0_isSort, .instanceMethod yX0_isSort, .selects RX0 yX0_isSort yX0_isSort, .code yX0_isSort cX0_isSort 3 (some .boolean), .fieldLink RX0 9 "FirstStates$Circuit" "sorts" "[I", .methodLink RX0 52 yX0_isNode, .methodLink RX4 64 yX4_isBit, .static yX4_isBit, .initialized RX4, .code yX4_isBit cX4_isBit 1 (some .boolean)] ++ wsX40 ++ wsX00)
def wsX4_isTickCount : List Cond := .code yX4_isTickCount cX4_isTickCount 1 (some .boolean) :: ([])
def wsX4_tick_r1 : List Cond := [Cond.fieldLink RX4 10 "FirstStates" "circuit" "LFirstStates$Circuit;", Cond.fieldLink RX4 47 "FirstStates" "linesOn" "I", Cond.fieldLink RX4 21 "FirstStates" "walk" "LFirstStates$Walk;", Cond.fieldLink RX4 39 "FirstStates" "rows" "J", Cond.fieldLink RX4 28 "FirstStates" "parts" "LFirstStates$Parts;", Cond.fieldLink RX4 43 "FirstStates" "ticks" "I", Cond.methodLink RX4 112 yX4_isTickCount, Cond.static yX4_isTickCount, Cond.initialized RX4, Cond.code yX4_isTickCount cX4_isTickCount 1 (some .boolean), Cond.methodLink RX4 115 yX0_storesOf, Cond.instanceMethod yX0_storesOf, Cond.selects RX0 yX0_storesOf yX0_storesOf, Cond.initialized RX0, Cond.code yX0_storesOf cX0_storesOf 4 (some .int), Cond.fieldLink RX0 56 "FirstStates$Circuit" "stores" "I", Cond.fieldLink RX0 36 "FirstStates$Circuit" "storeLines" "[I", Cond.methodLink RX4 118 yX3_prepare, Cond.instanceMethod yX3_prepare, Cond.selects RX3 yX3_prepare yX3_prepare, Cond.initialized RX3, Cond.code yX3_prepare cX3_prepare 6 none, Cond.fieldLink RX3 18 "FirstStates$Walk" "circuit" "LFirstStates$Circuit;", Cond.fieldLink RX3 15 "FirstStates$Walk" "leads" "[J"]
def wsX4_tick_r2 : List Cond := [Cond.methodLink RX3 22 yX0_rowCount, Cond.instanceMethod yX0_rowCount, Cond.selects RX0 yX0_rowCount yX0_rowCount, Cond.code yX0_rowCount cX0_rowCount 1 (some .int), Cond.methodLink RX3 30 yX0_openInputs, Cond.instanceMethod yX0_openInputs, Cond.selects RX0 yX0_openInputs yX0_openInputs, Cond.code yX0_openInputs cX0_openInputs 4 (some .int), Cond.fieldLink RX0 48 "FirstStates$Circuit" "nodes" "I", Cond.fieldLink RX0 9 "FirstStates$Circuit" "sorts" "[I", Cond.fieldLink RX0 27 "FirstStates$Circuit" "values" "[I", Cond.methodLink RX3 34 yX3_evaluate, Cond.instanceMethod yX3_evaluate, Cond.selects RX3 yX3_evaluate yX3_evaluate, Cond.code yX3_evaluate cX3_evaluate 5 none, Cond.fieldLink RX3 42 "FirstStates$Circuit" "nodes" "I", Cond.fieldLink RX3 46 "FirstStates$Circuit" "sorts" "[I", Cond.fieldLink RX3 50 "FirstStates$Circuit" "values" "[I", Cond.fieldLink RX3 9 "FirstStates$Walk" "ones" "[J", Cond.fieldLink RX3 60 "FirstStates$Walk" "HOLDING" "[J", Cond.fieldLink RX3 63 "FirstStates$Circuit" "storeNumbers" "[I", Cond.methodLink RX3 53 yX3_everywhere, Cond.static yX3_everywhere, Cond.code yX3_everywhere cX3_everywhere 1 (some .long)]
def wsX4_tick_r3 : List Cond := [Cond.constantLong RX3 28 (-1), Cond.methodLink RX3 57 yX3_gateOnes, Cond.instanceMethod yX3_gateOnes, Cond.selects RX3 yX3_gateOnes yX3_gateOnes, Cond.code yX3_gateOnes cX3_gateOnes 8 (some .long), Cond.fieldLink RX3 66 "FirstStates$Circuit" "firsts" "[I", Cond.fieldLink RX3 69 "FirstStates$Circuit" "seconds" "[I", Cond.fieldLink RX3 72 "FirstStates$Circuit" "thirds" "[I", Cond.fieldLink RX3 75 "FirstStates$Circuit" "kinds" "[I", Cond.methodLink RX3 38 yX3_led, Cond.instanceMethod yX3_led, Cond.selects RX3 yX3_led yX3_led, Cond.code yX3_led cX3_led 4 (some .int), Cond.fieldLink RX3 78 "FirstStates$Circuit" "stores" "I", Cond.fieldLink RX3 81 "FirstStates$Circuit" "storeReads" "[I", Cond.methodLink RX4 122 yX3_after, Cond.instanceMethod yX3_after, Cond.selects RX3 yX3_after yX3_after, Cond.code yX3_after cX3_after 7 (some .long), Cond.methodLink RX3 84 yX3_begun, Cond.instanceMethod yX3_begun, Cond.selects RX3 yX3_begun yX3_begun, Cond.code yX3_begun cX3_begun 5 (some .long), Cond.fieldLink RX3 88 "FirstStates$Circuit" "storeBegins" "[I"]
def wsX4_tick_r4 : List Cond := [Cond.methodLink RX4 126 yX2_pass, Cond.instanceMethod yX2_pass, Cond.selects RX2 yX2_pass yX2_pass, Cond.initialized RX2, Cond.code yX2_pass cX2_pass 4 none, Cond.fieldLink RX2 18 "FirstStates$Parts" "circuit" "LFirstStates$Circuit;", Cond.fieldLink RX2 66 "FirstStates$Circuit" "stores" "I", Cond.fieldLink RX2 15 "FirstStates$Parts" "holds" "[I", Cond.fieldLink RX2 69 "FirstStates$Circuit" "storeBegins" "[I", Cond.fieldLink RX2 9 "FirstStates$Parts" "tells" "[I", Cond.fieldLink RX2 72 "FirstStates$Circuit" "storeReads" "[I", Cond.methodLink RX2 63 yX2_tellAll, Cond.instanceMethod yX2_tellAll, Cond.selects RX2 yX2_tellAll yX2_tellAll, Cond.code yX2_tellAll cX2_tellAll 2 none, Cond.fieldLink RX2 22 "FirstStates$Circuit" "nodes" "I", Cond.fieldLink RX2 28 "FirstStates$Circuit" "sorts" "[I", Cond.fieldLink RX2 35 "FirstStates$Circuit" "storeNumbers" "[I", Cond.fieldLink RX2 38 "FirstStates$Circuit" "values" "[I", Cond.methodLink RX2 31 yX2_gateTells, Cond.instanceMethod yX2_gateTells, Cond.selects RX2 yX2_gateTells yX2_gateTells, Cond.code yX2_gateTells cX2_gateTells 5 (some .int), Cond.fieldLink RX2 41 "FirstStates$Circuit" "firsts" "[I"]
def wsX4_tick_r5 : List Cond := [Cond.fieldLink RX2 44 "FirstStates$Circuit" "seconds" "[I", Cond.fieldLink RX2 47 "FirstStates$Circuit" "thirds" "[I", Cond.fieldLink RX2 50 "FirstStates$Circuit" "kinds" "[I", Cond.methodLink RX2 53 Lib.Math.max.name, Cond.static Lib.Math.max.name, Cond.initialized "java/lang/Math", Cond.code Lib.Math.max.name Lib.Math.max.code 2 (some .int), Cond.methodLink RX2 59 yX2_choiceTells, Cond.static yX2_choiceTells, Cond.code yX2_choiceTells cX2_choiceTells 3 (some .int), Cond.methodLink RX4 130 yJ13_bitCount_95d88, Cond.static yJ13_bitCount_95d88, Cond.initialized RJ13, Cond.code yJ13_bitCount_95d88 cJ13_bitCount_95d88 2 (some .int), Cond.constantLong RJ13 314 (6148914691236517205), Cond.constantLong RJ13 316 (3689348814741910323), Cond.constantLong RJ13 318 (1085102592571150095)]
def wsX4_tick : List Cond := .code yX4_tick cX4_tick 4 (some .int) :: ((wsX4_tick_r1 ++ (wsX4_tick_r2 ++ (wsX4_tick_r3 ++ (wsX4_tick_r4 ++ wsX4_tick_r5)))) ++ wsX40 ++ wsX00 ++ wsX30 ++ wsX20)
def wsX4_fresh_r1 : List Cond := [Cond.fieldLink RX4 43 "FirstStates" "ticks" "I", Cond.methodLink RX4 61 yX4_beginAgain, Cond.instanceMethod yX4_beginAgain, Cond.selects RX4 yX4_beginAgain yX4_beginAgain, Cond.initialized RX4, Cond.code yX4_beginAgain cX4_beginAgain 1 none, Cond.fieldLink RX4 21 "FirstStates" "walk" "LFirstStates$Walk;", Cond.fieldLink RX4 39 "FirstStates" "rows" "J", Cond.fieldLink RX4 28 "FirstStates" "parts" "LFirstStates$Parts;", Cond.methodLink RX4 181 yX3_allRows, Cond.instanceMethod yX3_allRows, Cond.selects RX3 yX3_allRows yX3_allRows, Cond.initialized RX3, Cond.code yX3_allRows cX3_allRows 2 (some .long), Cond.fieldLink RX3 18 "FirstStates$Walk" "circuit" "LFirstStates$Circuit;", Cond.constantLong RX3 28 (-1), Cond.methodLink RX3 22 yX0_rowCount, Cond.instanceMethod yX0_rowCount, Cond.selects RX0 yX0_rowCount yX0_rowCount, Cond.initialized RX0, Cond.code yX0_rowCount cX0_rowCount 1 (some .int), Cond.fieldLink RX0 56 "FirstStates$Circuit" "stores" "I", Cond.methodLink RX4 208 yX2_forget, Cond.instanceMethod yX2_forget]
def wsX4_fresh_r2 : List Cond := [Cond.selects RX2 yX2_forget yX2_forget, Cond.initialized RX2, Cond.code yX2_forget cX2_forget 2 none, Cond.fieldLink RX2 15 "FirstStates$Parts" "holds" "[I"]
def wsX4_fresh : List Cond := .code yX4_fresh cX4_fresh 2 (some .int) :: ((wsX4_fresh_r1 ++ wsX4_fresh_r2) ++ wsX40 ++ wsX30 ++ wsX00 ++ wsX20)
def wsX4_possible : List Cond := .code yX4_possible cX4_possible 1 (some .int) :: ([.fieldLink RX4 39 "FirstStates" "rows" "J", .methodLink RX4 130 yJ13_bitCount_95d88, .static yJ13_bitCount_95d88, .initialized RJ13, .code yJ13_bitCount_95d88 cJ13_bitCount_95d88 2 (some .int), .constantLong RJ13 314 (6148914691236517205), .constantLong RJ13 316 (3689348814741910323), .constantLong RJ13 318 (1085102592571150095)] ++ wsX40)
def wsX4_row : List Cond := .code yX4_row cX4_row 4 (some .int) :: ([.fieldLink RX4 39 "FirstStates" "rows" "J"] ++ wsX40)
def wsX4_sure_r1 : List Cond := [Cond.fieldLink RX4 10 "FirstStates" "circuit" "LFirstStates$Circuit;", Cond.fieldLink RX4 21 "FirstStates" "walk" "LFirstStates$Walk;", Cond.fieldLink RX4 39 "FirstStates" "rows" "J", Cond.methodLink RX4 72 yX0_isNode, Cond.instanceMethod yX0_isNode, Cond.selects RX0 yX0_isNode yX0_isNode, Cond.initialized RX0, Cond.code yX0_isNode cX0_isNode 2 (some .boolean), Cond.fieldLink RX0 48 "FirstStates$Circuit" "nodes" "I", Cond.methodLink RX4 136 yX3_surely, Cond.instanceMethod yX3_surely, Cond.selects RX3 yX3_surely yX3_surely, Cond.initialized RX3, Cond.code yX3_surely cX3_surely 8 (some .int), Cond.fieldLink RX3 18 "FirstStates$Walk" "circuit" "LFirstStates$Circuit;", Cond.fieldLink RX3 9 "FirstStates$Walk" "ones" "[J", Cond.constantLong RX3 28 (-1), Cond.methodLink RX3 30 yX0_openInputs, Cond.instanceMethod yX0_openInputs, Cond.selects RX0 yX0_openInputs yX0_openInputs, Cond.code yX0_openInputs cX0_openInputs 4 (some .int), Cond.fieldLink RX0 9 "FirstStates$Circuit" "sorts" "[I", Cond.fieldLink RX0 27 "FirstStates$Circuit" "values" "[I", Cond.methodLink RX3 34 yX3_evaluate]
def wsX4_sure_r2 : List Cond := [Cond.instanceMethod yX3_evaluate, Cond.selects RX3 yX3_evaluate yX3_evaluate, Cond.code yX3_evaluate cX3_evaluate 5 none, Cond.fieldLink RX3 42 "FirstStates$Circuit" "nodes" "I", Cond.fieldLink RX3 46 "FirstStates$Circuit" "sorts" "[I", Cond.fieldLink RX3 50 "FirstStates$Circuit" "values" "[I", Cond.fieldLink RX3 60 "FirstStates$Walk" "HOLDING" "[J", Cond.fieldLink RX3 63 "FirstStates$Circuit" "storeNumbers" "[I", Cond.methodLink RX3 53 yX3_everywhere, Cond.static yX3_everywhere, Cond.code yX3_everywhere cX3_everywhere 1 (some .long), Cond.methodLink RX3 57 yX3_gateOnes, Cond.instanceMethod yX3_gateOnes, Cond.selects RX3 yX3_gateOnes yX3_gateOnes, Cond.code yX3_gateOnes cX3_gateOnes 8 (some .long), Cond.fieldLink RX3 66 "FirstStates$Circuit" "firsts" "[I", Cond.fieldLink RX3 69 "FirstStates$Circuit" "seconds" "[I", Cond.fieldLink RX3 72 "FirstStates$Circuit" "thirds" "[I", Cond.fieldLink RX3 75 "FirstStates$Circuit" "kinds" "[I"]
def wsX4_sure : List Cond := .code yX4_sure cX4_sure 2 (some .int) :: ((wsX4_sure_r1 ++ wsX4_sure_r2) ++ wsX40 ++ wsX00 ++ wsX30)
def wsX4_told_r1 : List Cond := [Cond.fieldLink RX4 10 "FirstStates" "circuit" "LFirstStates$Circuit;", Cond.fieldLink RX4 28 "FirstStates" "parts" "LFirstStates$Parts;", Cond.fieldLink RX4 143 "FirstStates$Parts" "tells" "[I", Cond.methodLink RX4 72 yX0_isNode, Cond.instanceMethod yX0_isNode, Cond.selects RX0 yX0_isNode yX0_isNode, Cond.initialized RX0, Cond.code yX0_isNode cX0_isNode 2 (some .boolean), Cond.fieldLink RX0 48 "FirstStates$Circuit" "nodes" "I", Cond.methodLink RX4 140 yX2_tellAll, Cond.instanceMethod yX2_tellAll, Cond.selects RX2 yX2_tellAll yX2_tellAll, Cond.initialized RX2, Cond.code yX2_tellAll cX2_tellAll 2 none, Cond.fieldLink RX2 18 "FirstStates$Parts" "circuit" "LFirstStates$Circuit;", Cond.fieldLink RX2 22 "FirstStates$Circuit" "nodes" "I", Cond.fieldLink RX2 28 "FirstStates$Circuit" "sorts" "[I", Cond.fieldLink RX2 9 "FirstStates$Parts" "tells" "[I", Cond.fieldLink RX2 15 "FirstStates$Parts" "holds" "[I", Cond.fieldLink RX2 35 "FirstStates$Circuit" "storeNumbers" "[I", Cond.fieldLink RX2 38 "FirstStates$Circuit" "values" "[I", Cond.methodLink RX2 31 yX2_gateTells, Cond.instanceMethod yX2_gateTells, Cond.selects RX2 yX2_gateTells yX2_gateTells]
def wsX4_told_r2 : List Cond := [Cond.code yX2_gateTells cX2_gateTells 5 (some .int), Cond.fieldLink RX2 41 "FirstStates$Circuit" "firsts" "[I", Cond.fieldLink RX2 44 "FirstStates$Circuit" "seconds" "[I", Cond.fieldLink RX2 47 "FirstStates$Circuit" "thirds" "[I", Cond.fieldLink RX2 50 "FirstStates$Circuit" "kinds" "[I", Cond.methodLink RX2 53 Lib.Math.max.name, Cond.static Lib.Math.max.name, Cond.initialized "java/lang/Math", Cond.code Lib.Math.max.name Lib.Math.max.code 2 (some .int), Cond.methodLink RX2 59 yX2_choiceTells, Cond.static yX2_choiceTells, Cond.code yX2_choiceTells cX2_choiceTells 3 (some .int)]
def wsX4_told : List Cond := .code yX4_told cX4_told 2 (some .int) :: ((wsX4_told_r1 ++ wsX4_told_r2) ++ wsX40 ++ wsX20 ++ wsX00)
def wsX4_known : List Cond := .code yX4_known cX4_known 2 (some .int) :: ([.fieldLink RX4 28 "FirstStates" "parts" "LFirstStates$Parts;", .fieldLink RX4 21 "FirstStates" "walk" "LFirstStates$Walk;", .fieldLink RX4 39 "FirstStates" "rows" "J", .methodLink RX4 146 yX2_knownStores, .instanceMethod yX2_knownStores, .selects RX2 yX2_knownStores yX2_knownStores, .initialized RX2, .code yX2_knownStores cX2_knownStores 3 (some .int), .fieldLink RX2 18 "FirstStates$Parts" "circuit" "LFirstStates$Circuit;", .fieldLink RX2 66 "FirstStates$Circuit" "stores" "I", .fieldLink RX2 15 "FirstStates$Parts" "holds" "[I", .methodLink RX4 149 yX3_sureStores, .instanceMethod yX3_sureStores, .selects RX3 yX3_sureStores yX3_sureStores, .initialized RX3, .code yX3_sureStores cX3_sureStores 7 (some .int), .fieldLink RX3 18 "FirstStates$Walk" "circuit" "LFirstStates$Circuit;", .fieldLink RX3 78 "FirstStates$Circuit" "stores" "I", .fieldLink RX3 60 "FirstStates$Walk" "HOLDING" "[J"] ++ wsX40 ++ wsX20 ++ wsX00 ++ wsX30)
def wsX4_settles_r1 : List Cond := [Cond.fieldLink RX4 21 "FirstStates" "walk" "LFirstStates$Walk;", Cond.fieldLink RX4 39 "FirstStates" "rows" "J", Cond.fieldLink RX4 10 "FirstStates" "circuit" "LFirstStates$Circuit;", Cond.fieldLink RX4 47 "FirstStates" "linesOn" "I", Cond.methodLink RX4 118 yX3_prepare, Cond.instanceMethod yX3_prepare, Cond.selects RX3 yX3_prepare yX3_prepare, Cond.initialized RX3, Cond.code yX3_prepare cX3_prepare 6 none, Cond.fieldLink RX3 18 "FirstStates$Walk" "circuit" "LFirstStates$Circuit;", Cond.fieldLink RX3 15 "FirstStates$Walk" "leads" "[J", Cond.methodLink RX3 22 yX0_rowCount, Cond.instanceMethod yX0_rowCount, Cond.selects RX0 yX0_rowCount yX0_rowCount, Cond.initialized RX0, Cond.code yX0_rowCount cX0_rowCount 1 (some .int), Cond.fieldLink RX0 56 "FirstStates$Circuit" "stores" "I", Cond.methodLink RX3 30 yX0_openInputs, Cond.instanceMethod yX0_openInputs, Cond.selects RX0 yX0_openInputs yX0_openInputs, Cond.code yX0_openInputs cX0_openInputs 4 (some .int), Cond.fieldLink RX0 48 "FirstStates$Circuit" "nodes" "I", Cond.fieldLink RX0 9 "FirstStates$Circuit" "sorts" "[I", Cond.fieldLink RX0 27 "FirstStates$Circuit" "values" "[I"]
def wsX4_settles_r2 : List Cond := [Cond.methodLink RX3 34 yX3_evaluate, Cond.instanceMethod yX3_evaluate, Cond.selects RX3 yX3_evaluate yX3_evaluate, Cond.code yX3_evaluate cX3_evaluate 5 none, Cond.fieldLink RX3 42 "FirstStates$Circuit" "nodes" "I", Cond.fieldLink RX3 46 "FirstStates$Circuit" "sorts" "[I", Cond.fieldLink RX3 50 "FirstStates$Circuit" "values" "[I", Cond.fieldLink RX3 9 "FirstStates$Walk" "ones" "[J", Cond.fieldLink RX3 60 "FirstStates$Walk" "HOLDING" "[J", Cond.fieldLink RX3 63 "FirstStates$Circuit" "storeNumbers" "[I", Cond.methodLink RX3 53 yX3_everywhere, Cond.static yX3_everywhere, Cond.code yX3_everywhere cX3_everywhere 1 (some .long), Cond.constantLong RX3 28 (-1), Cond.methodLink RX3 57 yX3_gateOnes, Cond.instanceMethod yX3_gateOnes, Cond.selects RX3 yX3_gateOnes yX3_gateOnes, Cond.code yX3_gateOnes cX3_gateOnes 8 (some .long), Cond.fieldLink RX3 66 "FirstStates$Circuit" "firsts" "[I", Cond.fieldLink RX3 69 "FirstStates$Circuit" "seconds" "[I", Cond.fieldLink RX3 72 "FirstStates$Circuit" "thirds" "[I", Cond.fieldLink RX3 75 "FirstStates$Circuit" "kinds" "[I", Cond.methodLink RX3 38 yX3_led, Cond.instanceMethod yX3_led]
def wsX4_settles_r3 : List Cond := [Cond.selects RX3 yX3_led yX3_led, Cond.code yX3_led cX3_led 4 (some .int), Cond.fieldLink RX3 78 "FirstStates$Circuit" "stores" "I", Cond.fieldLink RX3 81 "FirstStates$Circuit" "storeReads" "[I", Cond.methodLink RX4 115 yX0_storesOf, Cond.instanceMethod yX0_storesOf, Cond.selects RX0 yX0_storesOf yX0_storesOf, Cond.code yX0_storesOf cX0_storesOf 4 (some .int), Cond.fieldLink RX0 36 "FirstStates$Circuit" "storeLines" "[I", Cond.methodLink RX4 152 yX3_ticksTillOne, Cond.instanceMethod yX3_ticksTillOne, Cond.selects RX3 yX3_ticksTillOne yX3_ticksTillOne, Cond.code yX3_ticksTillOne cX3_ticksTillOne 7 (some .int), Cond.methodLink RX3 91 yJ13_bitCount_95d88, Cond.static yJ13_bitCount_95d88, Cond.initialized RJ13, Cond.code yJ13_bitCount_95d88 cJ13_bitCount_95d88 2 (some .int), Cond.constantLong RJ13 314 (6148914691236517205), Cond.constantLong RJ13 316 (3689348814741910323), Cond.constantLong RJ13 318 (1085102592571150095), Cond.methodLink RX3 97 yX3_after, Cond.instanceMethod yX3_after, Cond.selects RX3 yX3_after yX3_after, Cond.code yX3_after cX3_after 7 (some .long)]
def wsX4_settles_r4 : List Cond := [Cond.methodLink RX3 84 yX3_begun, Cond.instanceMethod yX3_begun, Cond.selects RX3 yX3_begun yX3_begun, Cond.code yX3_begun cX3_begun 5 (some .long), Cond.fieldLink RX3 88 "FirstStates$Circuit" "storeBegins" "[I"]
def wsX4_settles : List Cond := .code yX4_settles cX4_settles 1 (some .int) :: ((wsX4_settles_r1 ++ (wsX4_settles_r2 ++ (wsX4_settles_r3 ++ wsX4_settles_r4))) ++ wsX40 ++ wsX30 ++ wsX00)
def wsX4_next_r1 : List Cond := [Cond.fieldLink RX4 10 "FirstStates" "circuit" "LFirstStates$Circuit;", Cond.fieldLink RX4 21 "FirstStates" "walk" "LFirstStates$Walk;", Cond.fieldLink RX4 47 "FirstStates" "linesOn" "I", Cond.methodLink RX4 156 yX0_rowCount, Cond.instanceMethod yX0_rowCount, Cond.selects RX0 yX0_rowCount yX0_rowCount, Cond.initialized RX0, Cond.code yX0_rowCount cX0_rowCount 1 (some .int), Cond.fieldLink RX0 56 "FirstStates$Circuit" "stores" "I", Cond.methodLink RX4 159 yX3_evaluate, Cond.instanceMethod yX3_evaluate, Cond.selects RX3 yX3_evaluate yX3_evaluate, Cond.initialized RX3, Cond.code yX3_evaluate cX3_evaluate 5 none, Cond.fieldLink RX3 18 "FirstStates$Walk" "circuit" "LFirstStates$Circuit;", Cond.fieldLink RX3 42 "FirstStates$Circuit" "nodes" "I", Cond.fieldLink RX3 46 "FirstStates$Circuit" "sorts" "[I", Cond.fieldLink RX3 50 "FirstStates$Circuit" "values" "[I", Cond.fieldLink RX3 9 "FirstStates$Walk" "ones" "[J", Cond.fieldLink RX3 60 "FirstStates$Walk" "HOLDING" "[J", Cond.fieldLink RX3 63 "FirstStates$Circuit" "storeNumbers" "[I", Cond.methodLink RX3 53 yX3_everywhere, Cond.static yX3_everywhere, Cond.code yX3_everywhere cX3_everywhere 1 (some .long)]
def wsX4_next_r2 : List Cond := [Cond.constantLong RX3 28 (-1), Cond.methodLink RX3 57 yX3_gateOnes, Cond.instanceMethod yX3_gateOnes, Cond.selects RX3 yX3_gateOnes yX3_gateOnes, Cond.code yX3_gateOnes cX3_gateOnes 8 (some .long), Cond.fieldLink RX3 66 "FirstStates$Circuit" "firsts" "[I", Cond.fieldLink RX3 69 "FirstStates$Circuit" "seconds" "[I", Cond.fieldLink RX3 72 "FirstStates$Circuit" "thirds" "[I", Cond.fieldLink RX3 75 "FirstStates$Circuit" "kinds" "[I", Cond.methodLink RX4 115 yX0_storesOf, Cond.instanceMethod yX0_storesOf, Cond.selects RX0 yX0_storesOf yX0_storesOf, Cond.code yX0_storesOf cX0_storesOf 4 (some .int), Cond.fieldLink RX0 36 "FirstStates$Circuit" "storeLines" "[I", Cond.methodLink RX4 163 yX3_led, Cond.instanceMethod yX3_led, Cond.selects RX3 yX3_led yX3_led, Cond.code yX3_led cX3_led 4 (some .int), Cond.fieldLink RX3 78 "FirstStates$Circuit" "stores" "I", Cond.fieldLink RX3 81 "FirstStates$Circuit" "storeReads" "[I", Cond.methodLink RX4 166 yX0_beginBits, Cond.instanceMethod yX0_beginBits, Cond.selects RX0 yX0_beginBits yX0_beginBits, Cond.code yX0_beginBits cX0_beginBits 3 (some .int)]
def wsX4_next_r3 : List Cond := [Cond.fieldLink RX0 39 "FirstStates$Circuit" "storeBegins" "[I"]
def wsX4_next : List Cond := .code yX4_next cX4_next 3 (some .int) :: ((wsX4_next_r1 ++ (wsX4_next_r2 ++ wsX4_next_r3)) ++ wsX40 ++ wsX00 ++ wsX30)
def wsX4_depends_r1 : List Cond := [Cond.fieldLink RX4 10 "FirstStates" "circuit" "LFirstStates$Circuit;", Cond.fieldLink RX4 93 "FirstStates$Circuit" "storeNumbers" "[I", Cond.methodLink RX4 72 yX0_isNode, Cond.instanceMethod yX0_isNode, Cond.selects RX0 yX0_isNode yX0_isNode, Cond.initialized RX0, Cond.code yX0_isNode cX0_isNode 2 (some .boolean), Cond.fieldLink RX0 48 "FirstStates$Circuit" "nodes" "I", Cond.methodLink RX4 89 yX0_isSort, Cond.instanceMethod yX0_isSort, Cond.selects RX0 yX0_isSort yX0_isSort, Cond.code yX0_isSort cX0_isSort 3 (some .boolean), Cond.fieldLink RX0 9 "FirstStates$Circuit" "sorts" "[I", Cond.methodLink RX0 52 yX0_isNode, Cond.methodLink RX4 169 yX0_traceSources, Cond.instanceMethod yX0_traceSources, Cond.selects RX0 yX0_traceSources yX0_traceSources, Cond.code yX0_traceSources cX0_traceSources 2 none, Cond.fieldLink RX0 45 "FirstStates$Circuit" "sources" "[I", Cond.fieldLink RX0 30 "FirstStates$Circuit" "storeNumbers" "[I", Cond.fieldLink RX0 18 "FirstStates$Circuit" "firsts" "[I", Cond.fieldLink RX0 21 "FirstStates$Circuit" "seconds" "[I", Cond.fieldLink RX0 24 "FirstStates$Circuit" "thirds" "[I", Cond.methodLink RX4 172 yX0_leans]
def wsX4_depends_r2 : List Cond := [Cond.instanceMethod yX0_leans, Cond.selects RX0 yX0_leans yX0_leans, Cond.code yX0_leans cX0_leans 3 (some .boolean), Cond.fieldLink RX0 42 "FirstStates$Circuit" "storeReads" "[I"]
def wsX4_depends : List Cond := .code yX4_depends cX4_depends 3 (some .int) :: ((wsX4_depends_r1 ++ wsX4_depends_r2) ++ wsX40 ++ wsX00)
def wsX4_crossings : List Cond := .code yX4_crossings cX4_crossings 4 (some .int) :: ([.fieldLink RX4 10 "FirstStates" "circuit" "LFirstStates$Circuit;", .fieldLink RX4 82 "FirstStates$Circuit" "stores" "I", .methodLink RX4 169 yX0_traceSources, .instanceMethod yX0_traceSources, .selects RX0 yX0_traceSources yX0_traceSources, .initialized RX0, .code yX0_traceSources cX0_traceSources 2 none, .fieldLink RX0 48 "FirstStates$Circuit" "nodes" "I", .fieldLink RX0 9 "FirstStates$Circuit" "sorts" "[I", .fieldLink RX0 45 "FirstStates$Circuit" "sources" "[I", .fieldLink RX0 30 "FirstStates$Circuit" "storeNumbers" "[I", .fieldLink RX0 18 "FirstStates$Circuit" "firsts" "[I", .fieldLink RX0 21 "FirstStates$Circuit" "seconds" "[I", .fieldLink RX0 24 "FirstStates$Circuit" "thirds" "[I", .methodLink RX4 175 yX0_crosses, .instanceMethod yX0_crosses, .selects RX0 yX0_crosses yX0_crosses, .code yX0_crosses cX0_crosses 3 (some .boolean), .fieldLink RX0 36 "FirstStates$Circuit" "storeLines" "[I", .methodLink RX0 66 yX0_leans, .instanceMethod yX0_leans, .selects RX0 yX0_leans yX0_leans, .code yX0_leans cX0_leans 3 (some .boolean), .fieldLink RX0 42 "FirstStates$Circuit" "storeReads" "[I"] ++ wsX40 ++ wsX00)
def wsX4_crossing_r1 : List Cond := [Cond.fieldLink RX4 10 "FirstStates" "circuit" "LFirstStates$Circuit;", Cond.fieldLink RX4 82 "FirstStates$Circuit" "stores" "I", Cond.fieldLink RX4 178 "FirstStates$Circuit" "storeNodes" "[I", Cond.methodLink RX4 169 yX0_traceSources, Cond.instanceMethod yX0_traceSources, Cond.selects RX0 yX0_traceSources yX0_traceSources, Cond.initialized RX0, Cond.code yX0_traceSources cX0_traceSources 2 none, Cond.fieldLink RX0 48 "FirstStates$Circuit" "nodes" "I", Cond.fieldLink RX0 9 "FirstStates$Circuit" "sorts" "[I", Cond.fieldLink RX0 45 "FirstStates$Circuit" "sources" "[I", Cond.fieldLink RX0 30 "FirstStates$Circuit" "storeNumbers" "[I", Cond.fieldLink RX0 18 "FirstStates$Circuit" "firsts" "[I", Cond.fieldLink RX0 21 "FirstStates$Circuit" "seconds" "[I", Cond.fieldLink RX0 24 "FirstStates$Circuit" "thirds" "[I", Cond.methodLink RX4 175 yX0_crosses, Cond.instanceMethod yX0_crosses, Cond.selects RX0 yX0_crosses yX0_crosses, Cond.code yX0_crosses cX0_crosses 3 (some .boolean), Cond.fieldLink RX0 36 "FirstStates$Circuit" "storeLines" "[I", Cond.methodLink RX0 66 yX0_leans, Cond.instanceMethod yX0_leans, Cond.selects RX0 yX0_leans yX0_leans, Cond.code yX0_leans cX0_leans 3 (some .boolean)]
def wsX4_crossing_r2 : List Cond := [Cond.fieldLink RX0 42 "FirstStates$Circuit" "storeReads" "[I"]
def wsX4_crossing : List Cond := .code yX4_crossing cX4_crossing 5 (some .int) :: ((wsX4_crossing_r1 ++ wsX4_crossing_r2) ++ wsX40 ++ wsX00)
def wsX4_alone_r1 : List Cond := [Cond.fieldLink RX4 21 "FirstStates" "walk" "LFirstStates$Walk;", Cond.fieldLink RX4 10 "FirstStates" "circuit" "LFirstStates$Circuit;", Cond.methodLink RX4 79 yX4_isLine, Cond.static yX4_isLine, Cond.initialized RX4, Cond.code yX4_isLine cX4_isLine 1 (some .boolean), Cond.methodLink RX4 118 yX3_prepare, Cond.instanceMethod yX3_prepare, Cond.selects RX3 yX3_prepare yX3_prepare, Cond.initialized RX3, Cond.code yX3_prepare cX3_prepare 6 none, Cond.fieldLink RX3 18 "FirstStates$Walk" "circuit" "LFirstStates$Circuit;", Cond.fieldLink RX3 15 "FirstStates$Walk" "leads" "[J", Cond.methodLink RX3 22 yX0_rowCount, Cond.instanceMethod yX0_rowCount, Cond.selects RX0 yX0_rowCount yX0_rowCount, Cond.initialized RX0, Cond.code yX0_rowCount cX0_rowCount 1 (some .int), Cond.fieldLink RX0 56 "FirstStates$Circuit" "stores" "I", Cond.methodLink RX3 30 yX0_openInputs, Cond.instanceMethod yX0_openInputs, Cond.selects RX0 yX0_openInputs yX0_openInputs, Cond.code yX0_openInputs cX0_openInputs 4 (some .int), Cond.fieldLink RX0 48 "FirstStates$Circuit" "nodes" "I"]
def wsX4_alone_r2 : List Cond := [Cond.fieldLink RX0 9 "FirstStates$Circuit" "sorts" "[I", Cond.fieldLink RX0 27 "FirstStates$Circuit" "values" "[I", Cond.methodLink RX3 34 yX3_evaluate, Cond.instanceMethod yX3_evaluate, Cond.selects RX3 yX3_evaluate yX3_evaluate, Cond.code yX3_evaluate cX3_evaluate 5 none, Cond.fieldLink RX3 42 "FirstStates$Circuit" "nodes" "I", Cond.fieldLink RX3 46 "FirstStates$Circuit" "sorts" "[I", Cond.fieldLink RX3 50 "FirstStates$Circuit" "values" "[I", Cond.fieldLink RX3 9 "FirstStates$Walk" "ones" "[J", Cond.fieldLink RX3 60 "FirstStates$Walk" "HOLDING" "[J", Cond.fieldLink RX3 63 "FirstStates$Circuit" "storeNumbers" "[I", Cond.methodLink RX3 53 yX3_everywhere, Cond.static yX3_everywhere, Cond.code yX3_everywhere cX3_everywhere 1 (some .long), Cond.constantLong RX3 28 (-1), Cond.methodLink RX3 57 yX3_gateOnes, Cond.instanceMethod yX3_gateOnes, Cond.selects RX3 yX3_gateOnes yX3_gateOnes, Cond.code yX3_gateOnes cX3_gateOnes 8 (some .long), Cond.fieldLink RX3 66 "FirstStates$Circuit" "firsts" "[I", Cond.fieldLink RX3 69 "FirstStates$Circuit" "seconds" "[I", Cond.fieldLink RX3 72 "FirstStates$Circuit" "thirds" "[I", Cond.fieldLink RX3 75 "FirstStates$Circuit" "kinds" "[I"]
def wsX4_alone_r3 : List Cond := [Cond.methodLink RX3 38 yX3_led, Cond.instanceMethod yX3_led, Cond.selects RX3 yX3_led yX3_led, Cond.code yX3_led cX3_led 4 (some .int), Cond.fieldLink RX3 78 "FirstStates$Circuit" "stores" "I", Cond.fieldLink RX3 81 "FirstStates$Circuit" "storeReads" "[I", Cond.methodLink RX4 181 yX3_allRows, Cond.instanceMethod yX3_allRows, Cond.selects RX3 yX3_allRows yX3_allRows, Cond.code yX3_allRows cX3_allRows 2 (some .long), Cond.methodLink RX4 115 yX0_storesOf, Cond.instanceMethod yX0_storesOf, Cond.selects RX0 yX0_storesOf yX0_storesOf, Cond.code yX0_storesOf cX0_storesOf 4 (some .int), Cond.fieldLink RX0 36 "FirstStates$Circuit" "storeLines" "[I", Cond.methodLink RX4 152 yX3_ticksTillOne, Cond.instanceMethod yX3_ticksTillOne, Cond.selects RX3 yX3_ticksTillOne yX3_ticksTillOne, Cond.code yX3_ticksTillOne cX3_ticksTillOne 7 (some .int), Cond.methodLink RX3 91 yJ13_bitCount_95d88, Cond.static yJ13_bitCount_95d88, Cond.initialized RJ13, Cond.code yJ13_bitCount_95d88 cJ13_bitCount_95d88 2 (some .int), Cond.constantLong RJ13 314 (6148914691236517205)]
def wsX4_alone_r4 : List Cond := [Cond.constantLong RJ13 316 (3689348814741910323), Cond.constantLong RJ13 318 (1085102592571150095), Cond.methodLink RX3 97 yX3_after, Cond.instanceMethod yX3_after, Cond.selects RX3 yX3_after yX3_after, Cond.code yX3_after cX3_after 7 (some .long), Cond.methodLink RX3 84 yX3_begun, Cond.instanceMethod yX3_begun, Cond.selects RX3 yX3_begun yX3_begun, Cond.code yX3_begun cX3_begun 5 (some .long), Cond.fieldLink RX3 88 "FirstStates$Circuit" "storeBegins" "[I"]
def wsX4_alone : List Cond := .code yX4_alone cX4_alone 2 (some .int) :: ((wsX4_alone_r1 ++ (wsX4_alone_r2 ++ (wsX4_alone_r3 ++ wsX4_alone_r4))) ++ wsX40 ++ wsX30 ++ wsX00)
def wsJ6_bitCount_0f7a4 : List Cond := .code yJ6_bitCount_0f7a4 cJ6_bitCount_0f7a4 1 (some .int) :: ([.constant RJ6 265 (1431655765), .constant RJ6 266 (858993459), .constant RJ6 267 (252645135)])
def wsX4_mend_r1 : List Cond := [Cond.fieldLink RX4 21 "FirstStates" "walk" "LFirstStates$Walk;", Cond.fieldLink RX4 10 "FirstStates" "circuit" "LFirstStates$Circuit;", Cond.fieldLink RX4 82 "FirstStates$Circuit" "stores" "I", Cond.methodLink RX4 112 yX4_isTickCount, Cond.static yX4_isTickCount, Cond.initialized RX4, Cond.code yX4_isTickCount cX4_isTickCount 1 (some .boolean), Cond.methodLink RX4 118 yX3_prepare, Cond.instanceMethod yX3_prepare, Cond.selects RX3 yX3_prepare yX3_prepare, Cond.initialized RX3, Cond.code yX3_prepare cX3_prepare 6 none, Cond.fieldLink RX3 18 "FirstStates$Walk" "circuit" "LFirstStates$Circuit;", Cond.fieldLink RX3 15 "FirstStates$Walk" "leads" "[J", Cond.methodLink RX3 22 yX0_rowCount, Cond.instanceMethod yX0_rowCount, Cond.selects RX0 yX0_rowCount yX0_rowCount, Cond.initialized RX0, Cond.code yX0_rowCount cX0_rowCount 1 (some .int), Cond.fieldLink RX0 56 "FirstStates$Circuit" "stores" "I", Cond.methodLink RX3 30 yX0_openInputs, Cond.instanceMethod yX0_openInputs, Cond.selects RX0 yX0_openInputs yX0_openInputs, Cond.code yX0_openInputs cX0_openInputs 4 (some .int)]
def wsX4_mend_r2 : List Cond := [Cond.fieldLink RX0 48 "FirstStates$Circuit" "nodes" "I", Cond.fieldLink RX0 9 "FirstStates$Circuit" "sorts" "[I", Cond.fieldLink RX0 27 "FirstStates$Circuit" "values" "[I", Cond.methodLink RX3 34 yX3_evaluate, Cond.instanceMethod yX3_evaluate, Cond.selects RX3 yX3_evaluate yX3_evaluate, Cond.code yX3_evaluate cX3_evaluate 5 none, Cond.fieldLink RX3 42 "FirstStates$Circuit" "nodes" "I", Cond.fieldLink RX3 46 "FirstStates$Circuit" "sorts" "[I", Cond.fieldLink RX3 50 "FirstStates$Circuit" "values" "[I", Cond.fieldLink RX3 9 "FirstStates$Walk" "ones" "[J", Cond.fieldLink RX3 60 "FirstStates$Walk" "HOLDING" "[J", Cond.fieldLink RX3 63 "FirstStates$Circuit" "storeNumbers" "[I", Cond.methodLink RX3 53 yX3_everywhere, Cond.static yX3_everywhere, Cond.code yX3_everywhere cX3_everywhere 1 (some .long), Cond.constantLong RX3 28 (-1), Cond.methodLink RX3 57 yX3_gateOnes, Cond.instanceMethod yX3_gateOnes, Cond.selects RX3 yX3_gateOnes yX3_gateOnes, Cond.code yX3_gateOnes cX3_gateOnes 8 (some .long), Cond.fieldLink RX3 66 "FirstStates$Circuit" "firsts" "[I", Cond.fieldLink RX3 69 "FirstStates$Circuit" "seconds" "[I", Cond.fieldLink RX3 72 "FirstStates$Circuit" "thirds" "[I"]
def wsX4_mend_r3 : List Cond := [Cond.fieldLink RX3 75 "FirstStates$Circuit" "kinds" "[I", Cond.methodLink RX3 38 yX3_led, Cond.instanceMethod yX3_led, Cond.selects RX3 yX3_led yX3_led, Cond.code yX3_led cX3_led 4 (some .int), Cond.fieldLink RX3 78 "FirstStates$Circuit" "stores" "I", Cond.fieldLink RX3 81 "FirstStates$Circuit" "storeReads" "[I", Cond.methodLink RX4 115 yX0_storesOf, Cond.instanceMethod yX0_storesOf, Cond.selects RX0 yX0_storesOf yX0_storesOf, Cond.code yX0_storesOf cX0_storesOf 4 (some .int), Cond.fieldLink RX0 36 "FirstStates$Circuit" "storeLines" "[I", Cond.methodLink RX4 156 yX0_rowCount, Cond.methodLink RX4 185 yJ6_bitCount_0f7a4, Cond.static yJ6_bitCount_0f7a4, Cond.initialized RJ6, Cond.code yJ6_bitCount_0f7a4 cJ6_bitCount_0f7a4 1 (some .int), Cond.constant RJ6 265 (1431655765), Cond.constant RJ6 266 (858993459), Cond.constant RJ6 267 (252645135), Cond.methodLink RX4 189 yX3_leavesOne, Cond.instanceMethod yX3_leavesOne, Cond.selects RX3 yX3_leavesOne yX3_leavesOne, Cond.code yX3_leavesOne cX3_leavesOne 8 (some .boolean)]
def wsX4_mend_r4 : List Cond := [Cond.methodLink RX3 100 yX3_allRows, Cond.instanceMethod yX3_allRows, Cond.selects RX3 yX3_allRows yX3_allRows, Cond.code yX3_allRows cX3_allRows 2 (some .long), Cond.methodLink RX3 97 yX3_after, Cond.instanceMethod yX3_after, Cond.selects RX3 yX3_after yX3_after, Cond.code yX3_after cX3_after 7 (some .long), Cond.methodLink RX3 84 yX3_begun, Cond.instanceMethod yX3_begun, Cond.selects RX3 yX3_begun yX3_begun, Cond.code yX3_begun cX3_begun 5 (some .long), Cond.fieldLink RX3 88 "FirstStates$Circuit" "storeBegins" "[I", Cond.methodLink RX3 91 yJ13_bitCount_95d88, Cond.static yJ13_bitCount_95d88, Cond.initialized RJ13, Cond.code yJ13_bitCount_95d88 cJ13_bitCount_95d88 2 (some .int), Cond.constantLong RJ13 314 (6148914691236517205), Cond.constantLong RJ13 316 (3689348814741910323), Cond.constantLong RJ13 318 (1085102592571150095)]
def wsX4_mend : List Cond := .code yX4_mend cX4_mend 5 (some .int) :: ((wsX4_mend_r1 ++ (wsX4_mend_r2 ++ (wsX4_mend_r3 ++ wsX4_mend_r4))) ++ wsX40 ++ wsX00 ++ wsX30)
def wsX4_need : List Cond := .code yX4_need cX4_need 4 (some .int) :: ([.fieldLink RX4 35 "FirstStates" "needs" "LFirstStates$Needs;", .methodLink RX4 79 yX4_isLine, .static yX4_isLine, .initialized RX4, .code yX4_isLine cX4_isLine 1 (some .boolean), .methodLink RX4 192 yX1_change, .instanceMethod yX1_change, .selects RX1 yX1_change yX1_change, .initialized RX1, .code yX1_change cX1_change 5 (some .int), .fieldLink RX1 9 "FirstStates$Needs" "waits" "[I"] ++ wsX40 ++ wsX10)
def wsX4_go : List Cond := .code yX4_go cX4_go 2 (some .int) :: ([.fieldLink RX4 35 "FirstStates" "needs" "LFirstStates$Needs;", .fieldLink RX4 199 "FirstStates$Needs" "times" "[I", .methodLink RX4 79 yX4_isLine, .static yX4_isLine, .initialized RX4, .code yX4_isLine cX4_isLine 1 (some .boolean), .methodLink RX4 196 yX1_reckon, .instanceMethod yX1_reckon, .selects RX1 yX1_reckon yX1_reckon, .initialized RX1, .code yX1_reckon cX1_reckon 2 none, .fieldLink RX1 15 "FirstStates$Needs" "times" "[I", .methodLink RX1 18 yX1_delayAll, .instanceMethod yX1_delayAll, .selects RX1 yX1_delayAll yX1_delayAll, .code yX1_delayAll cX1_delayAll 5 none, .fieldLink RX1 9 "FirstStates$Needs" "waits" "[I"] ++ wsX40 ++ wsX10)
def wsX4_gone : List Cond := .code yX4_gone cX4_gone 4 (some .int) :: ([.fieldLink RX4 35 "FirstStates" "needs" "LFirstStates$Needs;", .fieldLink RX4 199 "FirstStates$Needs" "times" "[I", .methodLink RX4 196 yX1_reckon, .instanceMethod yX1_reckon, .selects RX1 yX1_reckon yX1_reckon, .initialized RX1, .code yX1_reckon cX1_reckon 2 none, .fieldLink RX1 15 "FirstStates$Needs" "times" "[I", .methodLink RX1 18 yX1_delayAll, .instanceMethod yX1_delayAll, .selects RX1 yX1_delayAll yX1_delayAll, .code yX1_delayAll cX1_delayAll 5 none, .fieldLink RX1 9 "FirstStates$Needs" "waits" "[I"] ++ wsX40 ++ wsX10)
def wsX4_count : List Cond := .code yX4_count cX4_count 2 (some .int) :: ([.fieldLink RX4 10 "FirstStates" "circuit" "LFirstStates$Circuit;", .fieldLink RX4 202 "FirstStates$Circuit" "nodes" "I", .fieldLink RX4 82 "FirstStates$Circuit" "stores" "I", .fieldLink RX4 50 "FirstStates$Circuit" "inputs" "I", .fieldLink RX4 43 "FirstStates" "ticks" "I", .fieldLink RX4 47 "FirstStates" "linesOn" "I", .fieldLink RX4 35 "FirstStates" "needs" "LFirstStates$Needs;", .methodLink RX4 185 yJ6_bitCount_0f7a4, .static yJ6_bitCount_0f7a4, .initialized RJ6, .code yJ6_bitCount_0f7a4 cJ6_bitCount_0f7a4 1 (some .int), .constant RJ6 265 (1431655765), .constant RJ6 266 (858993459), .constant RJ6 267 (252645135), .methodLink RX4 205 yX1_standing, .instanceMethod yX1_standing, .selects RX1 yX1_standing yX1_standing, .initialized RX1, .code yX1_standing cX1_standing 3 (some .int), .fieldLink RX1 9 "FirstStates$Needs" "waits" "[I"] ++ wsX40 ++ wsX00 ++ wsX10)
def wsX5_begin : List Cond := .code yX5_begin cX5_begin 2 none :: ([.fieldLink RX5 82 "FirstStatesModel" "ticks" "I", .fieldLink RX5 44 "FirstStatesModel" "can" "[Z", .fieldLink RX5 85 "FirstStatesModel" "stores" "I", .fieldLink RX5 47 "FirstStatesModel" "parts" "[I"] ++ wsX50)
def wsX5_init_r1 : List Cond := [Cond.methodLink RX5 1 objectInit, Cond.instanceMethod objectInit, Cond.code objectInit ⟨#[0xb1]⟩ 1 none, Cond.arrayClass .int, Cond.fieldLink RX5 7 "FirstStatesModel" "sort" "[I", Cond.fieldLink RX5 13 "FirstStatesModel" "which" "[I", Cond.fieldLink RX5 16 "FirstStatesModel" "first" "[I", Cond.fieldLink RX5 19 "FirstStatesModel" "second" "[I", Cond.fieldLink RX5 22 "FirstStatesModel" "third" "[I", Cond.fieldLink RX5 25 "FirstStatesModel" "put" "[I", Cond.fieldLink RX5 28 "FirstStatesModel" "node" "[I", Cond.fieldLink RX5 31 "FirstStatesModel" "lineOf" "[I", Cond.fieldLink RX5 34 "FirstStatesModel" "begins" "[I", Cond.fieldLink RX5 37 "FirstStatesModel" "read" "[I", Cond.arrayClass .boolean, Cond.fieldLink RX5 40 "FirstStatesModel" "isOn" "[Z", Cond.fieldLink RX5 44 "FirstStatesModel" "can" "[Z", Cond.fieldLink RX5 47 "FirstStatesModel" "parts" "[I", Cond.fieldLink RX5 50 "FirstStatesModel" "value" "[I", Cond.fieldLink RX5 53 "FirstStatesModel" "leads" "[I", Cond.fieldLink RX5 56 "FirstStatesModel" "set" "[Z", Cond.fieldLink RX5 59 "FirstStatesModel" "then" "[Z", Cond.fieldLink RX5 62 "FirstStatesModel" "leans" "[I", Cond.fieldLink RX5 65 "FirstStatesModel" "needs" "[I"]
def wsX5_init_r2 : List Cond := [Cond.fieldLink RX5 68 "FirstStatesModel" "goes" "[I", Cond.methodLink RX5 71 yX5_begin, Cond.instanceMethod yX5_begin, Cond.selects RX5 yX5_begin yX5_begin, Cond.initialized RX5, Cond.code yX5_begin cX5_begin 2 none, Cond.fieldLink RX5 82 "FirstStatesModel" "ticks" "I", Cond.fieldLink RX5 85 "FirstStatesModel" "stores" "I"]
def wsX5_init : List Cond := .code yX5_init cX5_init 2 none :: ((wsX5_init_r1 ++ wsX5_init_r2) ++ wsX50)
def wsX5_in : List Cond := .code yX5_in cX5_in 3 (some .boolean) :: ([])
def wsX5_isNode : List Cond := .code yX5_isNode cX5_isNode 2 (some .boolean) :: ([.fieldLink RX5 74 "FirstStatesModel" "nodes" "I", .methodLink RX5 78 yX5_in, .static yX5_in, .initialized RX5, .code yX5_in cX5_in 3 (some .boolean)] ++ wsX50)
def wsX5_add : List Cond := .code yX5_add cX5_add 6 (some .int) :: ([.fieldLink RX5 7 "FirstStatesModel" "sort" "[I", .fieldLink RX5 74 "FirstStatesModel" "nodes" "I", .fieldLink RX5 13 "FirstStatesModel" "which" "[I", .fieldLink RX5 16 "FirstStatesModel" "first" "[I", .fieldLink RX5 19 "FirstStatesModel" "second" "[I", .fieldLink RX5 22 "FirstStatesModel" "third" "[I", .methodLink RX5 71 yX5_begin, .instanceMethod yX5_begin, .selects RX5 yX5_begin yX5_begin, .initialized RX5, .code yX5_begin cX5_begin 2 none, .fieldLink RX5 82 "FirstStatesModel" "ticks" "I", .fieldLink RX5 44 "FirstStatesModel" "can" "[Z", .fieldLink RX5 85 "FirstStatesModel" "stores" "I", .fieldLink RX5 47 "FirstStatesModel" "parts" "[I"] ++ wsX50)
def wsX5_input : List Cond := .code yX5_input cX5_input 1 (some .int) :: ([.fieldLink RX5 88 "FirstStatesModel" "inputs" "I", .fieldLink RX5 74 "FirstStatesModel" "nodes" "I", .fieldLink RX5 25 "FirstStatesModel" "put" "[I", .methodLink RX5 91 yX5_add, .instanceMethod yX5_add, .selects RX5 yX5_add yX5_add, .initialized RX5, .code yX5_add cX5_add 6 (some .int), .fieldLink RX5 7 "FirstStatesModel" "sort" "[I", .fieldLink RX5 13 "FirstStatesModel" "which" "[I", .fieldLink RX5 16 "FirstStatesModel" "first" "[I", .fieldLink RX5 19 "FirstStatesModel" "second" "[I", .fieldLink RX5 22 "FirstStatesModel" "third" "[I", .methodLink RX5 71 yX5_begin, .instanceMethod yX5_begin, .selects RX5 yX5_begin yX5_begin, .code yX5_begin cX5_begin 2 none, .fieldLink RX5 82 "FirstStatesModel" "ticks" "I", .fieldLink RX5 44 "FirstStatesModel" "can" "[Z", .fieldLink RX5 85 "FirstStatesModel" "stores" "I", .fieldLink RX5 47 "FirstStatesModel" "parts" "[I"] ++ wsX50)
def wsX5_fixed : List Cond := .code yX5_fixed cX5_fixed 2 (some .int) :: ([.fieldLink RX5 74 "FirstStatesModel" "nodes" "I", .methodLink RX5 78 yX5_in, .static yX5_in, .initialized RX5, .code yX5_in cX5_in 3 (some .boolean), .methodLink RX5 91 yX5_add, .instanceMethod yX5_add, .selects RX5 yX5_add yX5_add, .code yX5_add cX5_add 6 (some .int), .fieldLink RX5 7 "FirstStatesModel" "sort" "[I", .fieldLink RX5 13 "FirstStatesModel" "which" "[I", .fieldLink RX5 16 "FirstStatesModel" "first" "[I", .fieldLink RX5 19 "FirstStatesModel" "second" "[I", .fieldLink RX5 22 "FirstStatesModel" "third" "[I", .methodLink RX5 71 yX5_begin, .instanceMethod yX5_begin, .selects RX5 yX5_begin yX5_begin, .code yX5_begin cX5_begin 2 none, .fieldLink RX5 82 "FirstStatesModel" "ticks" "I", .fieldLink RX5 44 "FirstStatesModel" "can" "[Z", .fieldLink RX5 85 "FirstStatesModel" "stores" "I", .fieldLink RX5 47 "FirstStatesModel" "parts" "[I"] ++ wsX50)
def wsX5_gate_r1 : List Cond := [Cond.fieldLink RX5 74 "FirstStatesModel" "nodes" "I", Cond.methodLink RX5 78 yX5_in, Cond.static yX5_in, Cond.initialized RX5, Cond.code yX5_in cX5_in 3 (some .boolean), Cond.methodLink RX5 95 yX5_isNode, Cond.instanceMethod yX5_isNode, Cond.selects RX5 yX5_isNode yX5_isNode, Cond.code yX5_isNode cX5_isNode 2 (some .boolean), Cond.methodLink RX5 91 yX5_add, Cond.instanceMethod yX5_add, Cond.selects RX5 yX5_add yX5_add, Cond.code yX5_add cX5_add 6 (some .int), Cond.fieldLink RX5 7 "FirstStatesModel" "sort" "[I", Cond.fieldLink RX5 13 "FirstStatesModel" "which" "[I", Cond.fieldLink RX5 16 "FirstStatesModel" "first" "[I", Cond.fieldLink RX5 19 "FirstStatesModel" "second" "[I", Cond.fieldLink RX5 22 "FirstStatesModel" "third" "[I", Cond.methodLink RX5 71 yX5_begin, Cond.instanceMethod yX5_begin, Cond.selects RX5 yX5_begin yX5_begin, Cond.code yX5_begin cX5_begin 2 none, Cond.fieldLink RX5 82 "FirstStatesModel" "ticks" "I", Cond.fieldLink RX5 44 "FirstStatesModel" "can" "[Z"]
def wsX5_gate_r2 : List Cond := [Cond.fieldLink RX5 85 "FirstStatesModel" "stores" "I", Cond.fieldLink RX5 47 "FirstStatesModel" "parts" "[I"]
def wsX5_gate : List Cond := .code yX5_gate cX5_gate 5 (some .int) :: ((wsX5_gate_r1 ++ wsX5_gate_r2) ++ wsX50)
def wsX5_store_r1 : List Cond := [Cond.fieldLink RX5 85 "FirstStatesModel" "stores" "I", Cond.fieldLink RX5 74 "FirstStatesModel" "nodes" "I", Cond.fieldLink RX5 28 "FirstStatesModel" "node" "[I", Cond.fieldLink RX5 31 "FirstStatesModel" "lineOf" "[I", Cond.fieldLink RX5 34 "FirstStatesModel" "begins" "[I", Cond.fieldLink RX5 37 "FirstStatesModel" "read" "[I", Cond.methodLink RX5 78 yX5_in, Cond.static yX5_in, Cond.initialized RX5, Cond.code yX5_in cX5_in 3 (some .boolean), Cond.methodLink RX5 91 yX5_add, Cond.instanceMethod yX5_add, Cond.selects RX5 yX5_add yX5_add, Cond.code yX5_add cX5_add 6 (some .int), Cond.fieldLink RX5 7 "FirstStatesModel" "sort" "[I", Cond.fieldLink RX5 13 "FirstStatesModel" "which" "[I", Cond.fieldLink RX5 16 "FirstStatesModel" "first" "[I", Cond.fieldLink RX5 19 "FirstStatesModel" "second" "[I", Cond.fieldLink RX5 22 "FirstStatesModel" "third" "[I", Cond.methodLink RX5 71 yX5_begin, Cond.instanceMethod yX5_begin, Cond.selects RX5 yX5_begin yX5_begin, Cond.code yX5_begin cX5_begin 2 none, Cond.fieldLink RX5 82 "FirstStatesModel" "ticks" "I"]
def wsX5_store_r2 : List Cond := [Cond.fieldLink RX5 44 "FirstStatesModel" "can" "[Z", Cond.fieldLink RX5 47 "FirstStatesModel" "parts" "[I"]
def wsX5_store : List Cond := .code yX5_store cX5_store 3 (some .int) :: ((wsX5_store_r1 ++ wsX5_store_r2) ++ wsX50)
def wsX5_reads : List Cond := .code yX5_reads cX5_reads 4 (some .int) :: ([.fieldLink RX5 7 "FirstStatesModel" "sort" "[I", .fieldLink RX5 37 "FirstStatesModel" "read" "[I", .fieldLink RX5 13 "FirstStatesModel" "which" "[I", .methodLink RX5 95 yX5_isNode, .instanceMethod yX5_isNode, .selects RX5 yX5_isNode yX5_isNode, .initialized RX5, .code yX5_isNode cX5_isNode 2 (some .boolean), .fieldLink RX5 74 "FirstStatesModel" "nodes" "I", .methodLink RX5 78 yX5_in, .static yX5_in, .code yX5_in cX5_in 3 (some .boolean), .methodLink RX5 71 yX5_begin, .instanceMethod yX5_begin, .selects RX5 yX5_begin yX5_begin, .code yX5_begin cX5_begin 2 none, .fieldLink RX5 82 "FirstStatesModel" "ticks" "I", .fieldLink RX5 44 "FirstStatesModel" "can" "[Z", .fieldLink RX5 85 "FirstStatesModel" "stores" "I", .fieldLink RX5 47 "FirstStatesModel" "parts" "[I"] ++ wsX50)
def wsX5_about : List Cond := .code yX5_about cX5_about 4 (some .int) :: ([.fieldLink RX5 7 "FirstStatesModel" "sort" "[I", .fieldLink RX5 13 "FirstStatesModel" "which" "[I", .fieldLink RX5 31 "FirstStatesModel" "lineOf" "[I", .fieldLink RX5 34 "FirstStatesModel" "begins" "[I", .fieldLink RX5 37 "FirstStatesModel" "read" "[I", .methodLink RX5 95 yX5_isNode, .instanceMethod yX5_isNode, .selects RX5 yX5_isNode yX5_isNode, .initialized RX5, .code yX5_isNode cX5_isNode 2 (some .boolean), .fieldLink RX5 74 "FirstStatesModel" "nodes" "I", .methodLink RX5 78 yX5_in, .static yX5_in, .code yX5_in cX5_in 3 (some .boolean)] ++ wsX50)
def wsX5_gateOf : List Cond := .code yX5_gateOf cX5_gateOf 4 (some .int) :: ([])
def wsX5_work : List Cond := .code yX5_work cX5_work 4 none :: ([.fieldLink RX5 74 "FirstStatesModel" "nodes" "I", .fieldLink RX5 7 "FirstStatesModel" "sort" "[I", .fieldLink RX5 50 "FirstStatesModel" "value" "[I", .fieldLink RX5 13 "FirstStatesModel" "which" "[I", .fieldLink RX5 16 "FirstStatesModel" "first" "[I", .fieldLink RX5 19 "FirstStatesModel" "second" "[I", .fieldLink RX5 22 "FirstStatesModel" "third" "[I", .methodLink RX5 99 yX5_gateOf, .static yX5_gateOf, .initialized RX5, .code yX5_gateOf cX5_gateOf 4 (some .int)] ++ wsX50)
def wsX5_isPut : List Cond := .code yX5_isPut cX5_isPut 5 (some .boolean) :: ([.fieldLink RX5 88 "FirstStatesModel" "inputs" "I", .fieldLink RX5 25 "FirstStatesModel" "put" "[I"] ++ wsX50)
def wsX5_layLeads : List Cond := .code yX5_layLeads cX5_layLeads 5 none :: ([.fieldLink RX5 85 "FirstStatesModel" "stores" "I", .fieldLink RX5 88 "FirstStatesModel" "inputs" "I", .fieldLink RX5 50 "FirstStatesModel" "value" "[I", .fieldLink RX5 37 "FirstStatesModel" "read" "[I", .fieldLink RX5 53 "FirstStatesModel" "leads" "[I", .methodLink RX5 103 yX5_work, .instanceMethod yX5_work, .selects RX5 yX5_work yX5_work, .initialized RX5, .code yX5_work cX5_work 4 none, .fieldLink RX5 74 "FirstStatesModel" "nodes" "I", .fieldLink RX5 7 "FirstStatesModel" "sort" "[I", .fieldLink RX5 13 "FirstStatesModel" "which" "[I", .fieldLink RX5 16 "FirstStatesModel" "first" "[I", .fieldLink RX5 19 "FirstStatesModel" "second" "[I", .fieldLink RX5 22 "FirstStatesModel" "third" "[I", .methodLink RX5 99 yX5_gateOf, .static yX5_gateOf, .code yX5_gateOf cX5_gateOf 4 (some .int)] ++ wsX50)
def wsX5_step : List Cond := .code yX5_step cX5_step 6 none :: ([.fieldLink RX5 85 "FirstStatesModel" "stores" "I", .fieldLink RX5 34 "FirstStatesModel" "begins" "[I", .fieldLink RX5 59 "FirstStatesModel" "then" "[Z", .fieldLink RX5 88 "FirstStatesModel" "inputs" "I", .fieldLink RX5 56 "FirstStatesModel" "set" "[Z", .fieldLink RX5 53 "FirstStatesModel" "leads" "[I", .methodLink RX5 107 yX5_isPut, .instanceMethod yX5_isPut, .selects RX5 yX5_isPut yX5_isPut, .initialized RX5, .code yX5_isPut cX5_isPut 5 (some .boolean), .fieldLink RX5 25 "FirstStatesModel" "put" "[I"] ++ wsX50)
def wsX5_many : List Cond := .code yX5_many cX5_many 3 (some .int) :: ([.fieldLink RX5 56 "FirstStatesModel" "set" "[Z"] ++ wsX50)
def wsX5_resets : List Cond := .code yX5_resets cX5_resets 3 (some .int) :: ([.fieldLink RX5 85 "FirstStatesModel" "stores" "I", .fieldLink RX5 31 "FirstStatesModel" "lineOf" "[I", .fieldLink RX5 40 "FirstStatesModel" "isOn" "[Z"] ++ wsX50)
def wsX5_load : List Cond := .code yX5_load cX5_load 3 none :: ([.fieldLink RX5 56 "FirstStatesModel" "set" "[Z", .fieldLink RX5 85 "FirstStatesModel" "stores" "I", .fieldLink RX5 44 "FirstStatesModel" "can" "[Z"] ++ wsX50)
def wsX5_line : List Cond := .code yX5_line cX5_line 4 (some .int) :: ([.fieldLink RX5 40 "FirstStatesModel" "isOn" "[Z", .methodLink RX5 78 yX5_in, .static yX5_in, .initialized RX5, .code yX5_in cX5_in 3 (some .boolean)] ++ wsX50)
def wsX5_set : List Cond := .code yX5_set cX5_set 4 (some .int) :: ([.fieldLink RX5 7 "FirstStatesModel" "sort" "[I", .fieldLink RX5 25 "FirstStatesModel" "put" "[I", .fieldLink RX5 13 "FirstStatesModel" "which" "[I", .methodLink RX5 95 yX5_isNode, .instanceMethod yX5_isNode, .selects RX5 yX5_isNode yX5_isNode, .initialized RX5, .code yX5_isNode cX5_isNode 2 (some .boolean), .fieldLink RX5 74 "FirstStatesModel" "nodes" "I", .methodLink RX5 78 yX5_in, .static yX5_in, .code yX5_in cX5_in 3 (some .boolean)] ++ wsX50)
def wsX5_partGate : List Cond := .code yX5_partGate cX5_partGate 4 (some .int) :: ([])
def wsX5_workParts : List Cond := .code yX5_workParts cX5_workParts 3 none :: ([.fieldLink RX5 74 "FirstStatesModel" "nodes" "I", .fieldLink RX5 13 "FirstStatesModel" "which" "[I", .fieldLink RX5 7 "FirstStatesModel" "sort" "[I", .fieldLink RX5 50 "FirstStatesModel" "value" "[I", .fieldLink RX5 16 "FirstStatesModel" "first" "[I", .fieldLink RX5 19 "FirstStatesModel" "second" "[I", .fieldLink RX5 22 "FirstStatesModel" "third" "[I", .fieldLink RX5 25 "FirstStatesModel" "put" "[I", .fieldLink RX5 47 "FirstStatesModel" "parts" "[I", .methodLink RX5 111 yX5_partGate, .static yX5_partGate, .initialized RX5, .code yX5_partGate cX5_partGate 4 (some .int)] ++ wsX50)
def wsX5_tick_r1 : List Cond := [Cond.fieldLink RX5 85 "FirstStatesModel" "stores" "I", Cond.fieldLink RX5 47 "FirstStatesModel" "parts" "[I", Cond.fieldLink RX5 34 "FirstStatesModel" "begins" "[I", Cond.fieldLink RX5 50 "FirstStatesModel" "value" "[I", Cond.fieldLink RX5 37 "FirstStatesModel" "read" "[I", Cond.fieldLink RX5 82 "FirstStatesModel" "ticks" "I", Cond.fieldLink RX5 44 "FirstStatesModel" "can" "[Z", Cond.fieldLink RX5 56 "FirstStatesModel" "set" "[Z", Cond.methodLink RX5 78 yX5_in, Cond.static yX5_in, Cond.initialized RX5, Cond.code yX5_in cX5_in 3 (some .boolean), Cond.methodLink RX5 114 yX5_layLeads, Cond.instanceMethod yX5_layLeads, Cond.selects RX5 yX5_layLeads yX5_layLeads, Cond.code yX5_layLeads cX5_layLeads 5 none, Cond.fieldLink RX5 88 "FirstStatesModel" "inputs" "I", Cond.fieldLink RX5 53 "FirstStatesModel" "leads" "[I", Cond.methodLink RX5 103 yX5_work, Cond.instanceMethod yX5_work, Cond.selects RX5 yX5_work yX5_work, Cond.code yX5_work cX5_work 4 none, Cond.fieldLink RX5 74 "FirstStatesModel" "nodes" "I", Cond.fieldLink RX5 7 "FirstStatesModel" "sort" "[I"]
def wsX5_tick_r2 : List Cond := [Cond.fieldLink RX5 13 "FirstStatesModel" "which" "[I", Cond.fieldLink RX5 16 "FirstStatesModel" "first" "[I", Cond.fieldLink RX5 19 "FirstStatesModel" "second" "[I", Cond.fieldLink RX5 22 "FirstStatesModel" "third" "[I", Cond.methodLink RX5 99 yX5_gateOf, Cond.static yX5_gateOf, Cond.code yX5_gateOf cX5_gateOf 4 (some .int), Cond.methodLink RX5 117 yX5_load, Cond.instanceMethod yX5_load, Cond.selects RX5 yX5_load yX5_load, Cond.code yX5_load cX5_load 3 none, Cond.methodLink RX5 121 yX5_resets, Cond.instanceMethod yX5_resets, Cond.selects RX5 yX5_resets yX5_resets, Cond.code yX5_resets cX5_resets 3 (some .int), Cond.fieldLink RX5 31 "FirstStatesModel" "lineOf" "[I", Cond.fieldLink RX5 40 "FirstStatesModel" "isOn" "[Z", Cond.methodLink RX5 125 yX5_step, Cond.instanceMethod yX5_step, Cond.selects RX5 yX5_step yX5_step, Cond.code yX5_step cX5_step 6 none, Cond.fieldLink RX5 59 "FirstStatesModel" "then" "[Z", Cond.methodLink RX5 107 yX5_isPut, Cond.instanceMethod yX5_isPut]
def wsX5_tick_r3 : List Cond := [Cond.selects RX5 yX5_isPut yX5_isPut, Cond.code yX5_isPut cX5_isPut 5 (some .boolean), Cond.fieldLink RX5 25 "FirstStatesModel" "put" "[I", Cond.methodLink RX5 129 yX5_workParts, Cond.instanceMethod yX5_workParts, Cond.selects RX5 yX5_workParts yX5_workParts, Cond.code yX5_workParts cX5_workParts 3 none, Cond.methodLink RX5 111 yX5_partGate, Cond.static yX5_partGate, Cond.code yX5_partGate cX5_partGate 4 (some .int), Cond.methodLink RX5 132 yX5_many, Cond.instanceMethod yX5_many, Cond.selects RX5 yX5_many yX5_many, Cond.code yX5_many cX5_many 3 (some .int)]
def wsX5_tick : List Cond := .code yX5_tick cX5_tick 5 (some .int) :: ((wsX5_tick_r1 ++ (wsX5_tick_r2 ++ wsX5_tick_r3)) ++ wsX50)
def wsX5_fresh : List Cond := .code yX5_fresh cX5_fresh 2 (some .int) :: ([.fieldLink RX5 82 "FirstStatesModel" "ticks" "I", .methodLink RX5 71 yX5_begin, .instanceMethod yX5_begin, .selects RX5 yX5_begin yX5_begin, .initialized RX5, .code yX5_begin cX5_begin 2 none, .fieldLink RX5 44 "FirstStatesModel" "can" "[Z", .fieldLink RX5 85 "FirstStatesModel" "stores" "I", .fieldLink RX5 47 "FirstStatesModel" "parts" "[I"] ++ wsX50)
def wsX5_possible : List Cond := .code yX5_possible cX5_possible 1 (some .int) :: ([.methodLink RX5 117 yX5_load, .instanceMethod yX5_load, .selects RX5 yX5_load yX5_load, .initialized RX5, .code yX5_load cX5_load 3 none, .fieldLink RX5 56 "FirstStatesModel" "set" "[Z", .fieldLink RX5 85 "FirstStatesModel" "stores" "I", .fieldLink RX5 44 "FirstStatesModel" "can" "[Z", .methodLink RX5 132 yX5_many, .instanceMethod yX5_many, .selects RX5 yX5_many yX5_many, .code yX5_many cX5_many 3 (some .int)] ++ wsX50)
def wsX5_row : List Cond := .code yX5_row cX5_row 4 (some .int) :: ([.fieldLink RX5 44 "FirstStatesModel" "can" "[Z"] ++ wsX50)
def wsX5_sureOf : List Cond := .code yX5_sureOf cX5_sureOf 6 (some .int) :: ([.fieldLink RX5 85 "FirstStatesModel" "stores" "I", .fieldLink RX5 88 "FirstStatesModel" "inputs" "I", .fieldLink RX5 44 "FirstStatesModel" "can" "[Z", .fieldLink RX5 50 "FirstStatesModel" "value" "[I", .methodLink RX5 107 yX5_isPut, .instanceMethod yX5_isPut, .selects RX5 yX5_isPut yX5_isPut, .initialized RX5, .code yX5_isPut cX5_isPut 5 (some .boolean), .fieldLink RX5 25 "FirstStatesModel" "put" "[I", .methodLink RX5 103 yX5_work, .instanceMethod yX5_work, .selects RX5 yX5_work yX5_work, .code yX5_work cX5_work 4 none, .fieldLink RX5 74 "FirstStatesModel" "nodes" "I", .fieldLink RX5 7 "FirstStatesModel" "sort" "[I", .fieldLink RX5 13 "FirstStatesModel" "which" "[I", .fieldLink RX5 16 "FirstStatesModel" "first" "[I", .fieldLink RX5 19 "FirstStatesModel" "second" "[I", .fieldLink RX5 22 "FirstStatesModel" "third" "[I", .methodLink RX5 99 yX5_gateOf, .static yX5_gateOf, .code yX5_gateOf cX5_gateOf 4 (some .int)] ++ wsX50)
def wsX5_sure_r1 : List Cond := [Cond.methodLink RX5 95 yX5_isNode, Cond.instanceMethod yX5_isNode, Cond.selects RX5 yX5_isNode yX5_isNode, Cond.initialized RX5, Cond.code yX5_isNode cX5_isNode 2 (some .boolean), Cond.fieldLink RX5 74 "FirstStatesModel" "nodes" "I", Cond.methodLink RX5 78 yX5_in, Cond.static yX5_in, Cond.code yX5_in cX5_in 3 (some .boolean), Cond.methodLink RX5 135 yX5_sureOf, Cond.instanceMethod yX5_sureOf, Cond.selects RX5 yX5_sureOf yX5_sureOf, Cond.code yX5_sureOf cX5_sureOf 6 (some .int), Cond.fieldLink RX5 85 "FirstStatesModel" "stores" "I", Cond.fieldLink RX5 88 "FirstStatesModel" "inputs" "I", Cond.fieldLink RX5 44 "FirstStatesModel" "can" "[Z", Cond.fieldLink RX5 50 "FirstStatesModel" "value" "[I", Cond.methodLink RX5 107 yX5_isPut, Cond.instanceMethod yX5_isPut, Cond.selects RX5 yX5_isPut yX5_isPut, Cond.code yX5_isPut cX5_isPut 5 (some .boolean), Cond.fieldLink RX5 25 "FirstStatesModel" "put" "[I", Cond.methodLink RX5 103 yX5_work, Cond.instanceMethod yX5_work]
def wsX5_sure_r2 : List Cond := [Cond.selects RX5 yX5_work yX5_work, Cond.code yX5_work cX5_work 4 none, Cond.fieldLink RX5 7 "FirstStatesModel" "sort" "[I", Cond.fieldLink RX5 13 "FirstStatesModel" "which" "[I", Cond.fieldLink RX5 16 "FirstStatesModel" "first" "[I", Cond.fieldLink RX5 19 "FirstStatesModel" "second" "[I", Cond.fieldLink RX5 22 "FirstStatesModel" "third" "[I", Cond.methodLink RX5 99 yX5_gateOf, Cond.static yX5_gateOf, Cond.code yX5_gateOf cX5_gateOf 4 (some .int)]
def wsX5_sure : List Cond := .code yX5_sure cX5_sure 2 (some .int) :: ((wsX5_sure_r1 ++ wsX5_sure_r2) ++ wsX50)
def wsX5_told : List Cond := .code yX5_told cX5_told 2 (some .int) :: ([.fieldLink RX5 50 "FirstStatesModel" "value" "[I", .methodLink RX5 95 yX5_isNode, .instanceMethod yX5_isNode, .selects RX5 yX5_isNode yX5_isNode, .initialized RX5, .code yX5_isNode cX5_isNode 2 (some .boolean), .fieldLink RX5 74 "FirstStatesModel" "nodes" "I", .methodLink RX5 78 yX5_in, .static yX5_in, .code yX5_in cX5_in 3 (some .boolean), .methodLink RX5 129 yX5_workParts, .instanceMethod yX5_workParts, .selects RX5 yX5_workParts yX5_workParts, .code yX5_workParts cX5_workParts 3 none, .fieldLink RX5 13 "FirstStatesModel" "which" "[I", .fieldLink RX5 7 "FirstStatesModel" "sort" "[I", .fieldLink RX5 16 "FirstStatesModel" "first" "[I", .fieldLink RX5 19 "FirstStatesModel" "second" "[I", .fieldLink RX5 22 "FirstStatesModel" "third" "[I", .fieldLink RX5 25 "FirstStatesModel" "put" "[I", .fieldLink RX5 47 "FirstStatesModel" "parts" "[I", .methodLink RX5 111 yX5_partGate, .static yX5_partGate, .code yX5_partGate cX5_partGate 4 (some .int)] ++ wsX50)
def wsX5_known_r1 : List Cond := [Cond.fieldLink RX5 85 "FirstStatesModel" "stores" "I", Cond.fieldLink RX5 47 "FirstStatesModel" "parts" "[I", Cond.fieldLink RX5 28 "FirstStatesModel" "node" "[I", Cond.methodLink RX5 135 yX5_sureOf, Cond.instanceMethod yX5_sureOf, Cond.selects RX5 yX5_sureOf yX5_sureOf, Cond.initialized RX5, Cond.code yX5_sureOf cX5_sureOf 6 (some .int), Cond.fieldLink RX5 88 "FirstStatesModel" "inputs" "I", Cond.fieldLink RX5 44 "FirstStatesModel" "can" "[Z", Cond.fieldLink RX5 50 "FirstStatesModel" "value" "[I", Cond.methodLink RX5 107 yX5_isPut, Cond.instanceMethod yX5_isPut, Cond.selects RX5 yX5_isPut yX5_isPut, Cond.code yX5_isPut cX5_isPut 5 (some .boolean), Cond.fieldLink RX5 25 "FirstStatesModel" "put" "[I", Cond.methodLink RX5 103 yX5_work, Cond.instanceMethod yX5_work, Cond.selects RX5 yX5_work yX5_work, Cond.code yX5_work cX5_work 4 none, Cond.fieldLink RX5 74 "FirstStatesModel" "nodes" "I", Cond.fieldLink RX5 7 "FirstStatesModel" "sort" "[I", Cond.fieldLink RX5 13 "FirstStatesModel" "which" "[I", Cond.fieldLink RX5 16 "FirstStatesModel" "first" "[I"]
def wsX5_known_r2 : List Cond := [Cond.fieldLink RX5 19 "FirstStatesModel" "second" "[I", Cond.fieldLink RX5 22 "FirstStatesModel" "third" "[I", Cond.methodLink RX5 99 yX5_gateOf, Cond.static yX5_gateOf, Cond.code yX5_gateOf cX5_gateOf 4 (some .int)]
def wsX5_known : List Cond := .code yX5_known cX5_known 4 (some .int) :: ((wsX5_known_r1 ++ wsX5_known_r2) ++ wsX50)
def wsX5_settle : List Cond := .code yX5_settle cX5_settle 4 (some .int) :: ([.methodLink RX5 132 yX5_many, .instanceMethod yX5_many, .selects RX5 yX5_many yX5_many, .initialized RX5, .code yX5_many cX5_many 3 (some .int), .fieldLink RX5 56 "FirstStatesModel" "set" "[Z", .methodLink RX5 125 yX5_step, .instanceMethod yX5_step, .selects RX5 yX5_step yX5_step, .code yX5_step cX5_step 6 none, .fieldLink RX5 85 "FirstStatesModel" "stores" "I", .fieldLink RX5 34 "FirstStatesModel" "begins" "[I", .fieldLink RX5 59 "FirstStatesModel" "then" "[Z", .fieldLink RX5 88 "FirstStatesModel" "inputs" "I", .fieldLink RX5 53 "FirstStatesModel" "leads" "[I", .methodLink RX5 107 yX5_isPut, .instanceMethod yX5_isPut, .selects RX5 yX5_isPut yX5_isPut, .code yX5_isPut cX5_isPut 5 (some .boolean), .fieldLink RX5 25 "FirstStatesModel" "put" "[I"] ++ wsX50)
def wsX5_settles_r1 : List Cond := [Cond.methodLink RX5 114 yX5_layLeads, Cond.instanceMethod yX5_layLeads, Cond.selects RX5 yX5_layLeads yX5_layLeads, Cond.initialized RX5, Cond.code yX5_layLeads cX5_layLeads 5 none, Cond.fieldLink RX5 85 "FirstStatesModel" "stores" "I", Cond.fieldLink RX5 88 "FirstStatesModel" "inputs" "I", Cond.fieldLink RX5 50 "FirstStatesModel" "value" "[I", Cond.fieldLink RX5 37 "FirstStatesModel" "read" "[I", Cond.fieldLink RX5 53 "FirstStatesModel" "leads" "[I", Cond.methodLink RX5 103 yX5_work, Cond.instanceMethod yX5_work, Cond.selects RX5 yX5_work yX5_work, Cond.code yX5_work cX5_work 4 none, Cond.fieldLink RX5 74 "FirstStatesModel" "nodes" "I", Cond.fieldLink RX5 7 "FirstStatesModel" "sort" "[I", Cond.fieldLink RX5 13 "FirstStatesModel" "which" "[I", Cond.fieldLink RX5 16 "FirstStatesModel" "first" "[I", Cond.fieldLink RX5 19 "FirstStatesModel" "second" "[I", Cond.fieldLink RX5 22 "FirstStatesModel" "third" "[I", Cond.methodLink RX5 99 yX5_gateOf, Cond.static yX5_gateOf, Cond.code yX5_gateOf cX5_gateOf 4 (some .int), Cond.methodLink RX5 117 yX5_load]
def wsX5_settles_r2 : List Cond := [Cond.instanceMethod yX5_load, Cond.selects RX5 yX5_load yX5_load, Cond.code yX5_load cX5_load 3 none, Cond.fieldLink RX5 56 "FirstStatesModel" "set" "[Z", Cond.fieldLink RX5 44 "FirstStatesModel" "can" "[Z", Cond.methodLink RX5 121 yX5_resets, Cond.instanceMethod yX5_resets, Cond.selects RX5 yX5_resets yX5_resets, Cond.code yX5_resets cX5_resets 3 (some .int), Cond.fieldLink RX5 31 "FirstStatesModel" "lineOf" "[I", Cond.fieldLink RX5 40 "FirstStatesModel" "isOn" "[Z", Cond.methodLink RX5 139 yX5_settle, Cond.instanceMethod yX5_settle, Cond.selects RX5 yX5_settle yX5_settle, Cond.code yX5_settle cX5_settle 4 (some .int), Cond.methodLink RX5 132 yX5_many, Cond.instanceMethod yX5_many, Cond.selects RX5 yX5_many yX5_many, Cond.code yX5_many cX5_many 3 (some .int), Cond.methodLink RX5 125 yX5_step, Cond.instanceMethod yX5_step, Cond.selects RX5 yX5_step yX5_step, Cond.code yX5_step cX5_step 6 none, Cond.fieldLink RX5 34 "FirstStatesModel" "begins" "[I"]
def wsX5_settles_r3 : List Cond := [Cond.fieldLink RX5 59 "FirstStatesModel" "then" "[Z", Cond.methodLink RX5 107 yX5_isPut, Cond.instanceMethod yX5_isPut, Cond.selects RX5 yX5_isPut yX5_isPut, Cond.code yX5_isPut cX5_isPut 5 (some .boolean), Cond.fieldLink RX5 25 "FirstStatesModel" "put" "[I"]
def wsX5_settles : List Cond := .code yX5_settles cX5_settles 1 (some .int) :: ((wsX5_settles_r1 ++ (wsX5_settles_r2 ++ wsX5_settles_r3)) ++ wsX50)
def wsX5_next_r1 : List Cond := [Cond.fieldLink RX5 85 "FirstStatesModel" "stores" "I", Cond.fieldLink RX5 88 "FirstStatesModel" "inputs" "I", Cond.fieldLink RX5 25 "FirstStatesModel" "put" "[I", Cond.fieldLink RX5 53 "FirstStatesModel" "leads" "[I", Cond.fieldLink RX5 34 "FirstStatesModel" "begins" "[I", Cond.methodLink RX5 78 yX5_in, Cond.static yX5_in, Cond.initialized RX5, Cond.code yX5_in cX5_in 3 (some .boolean), Cond.methodLink RX5 114 yX5_layLeads, Cond.instanceMethod yX5_layLeads, Cond.selects RX5 yX5_layLeads yX5_layLeads, Cond.code yX5_layLeads cX5_layLeads 5 none, Cond.fieldLink RX5 50 "FirstStatesModel" "value" "[I", Cond.fieldLink RX5 37 "FirstStatesModel" "read" "[I", Cond.methodLink RX5 103 yX5_work, Cond.instanceMethod yX5_work, Cond.selects RX5 yX5_work yX5_work, Cond.code yX5_work cX5_work 4 none, Cond.fieldLink RX5 74 "FirstStatesModel" "nodes" "I", Cond.fieldLink RX5 7 "FirstStatesModel" "sort" "[I", Cond.fieldLink RX5 13 "FirstStatesModel" "which" "[I", Cond.fieldLink RX5 16 "FirstStatesModel" "first" "[I", Cond.fieldLink RX5 19 "FirstStatesModel" "second" "[I"]
def wsX5_next_r2 : List Cond := [Cond.fieldLink RX5 22 "FirstStatesModel" "third" "[I", Cond.methodLink RX5 99 yX5_gateOf, Cond.static yX5_gateOf, Cond.code yX5_gateOf cX5_gateOf 4 (some .int), Cond.methodLink RX5 121 yX5_resets, Cond.instanceMethod yX5_resets, Cond.selects RX5 yX5_resets yX5_resets, Cond.code yX5_resets cX5_resets 3 (some .int), Cond.fieldLink RX5 31 "FirstStatesModel" "lineOf" "[I", Cond.fieldLink RX5 40 "FirstStatesModel" "isOn" "[Z"]
def wsX5_next : List Cond := .code yX5_next cX5_next 6 (some .int) :: ((wsX5_next_r1 ++ wsX5_next_r2) ++ wsX50)
def wsX5_layLeans : List Cond := .code yX5_layLeans cX5_layLeans 2 none :: ([.fieldLink RX5 74 "FirstStatesModel" "nodes" "I", .fieldLink RX5 62 "FirstStatesModel" "leans" "[I", .fieldLink RX5 7 "FirstStatesModel" "sort" "[I", .fieldLink RX5 13 "FirstStatesModel" "which" "[I", .fieldLink RX5 16 "FirstStatesModel" "first" "[I", .fieldLink RX5 19 "FirstStatesModel" "second" "[I", .fieldLink RX5 22 "FirstStatesModel" "third" "[I"] ++ wsX50)
def wsX5_depends : List Cond := .code yX5_depends cX5_depends 3 (some .int) :: ([.fieldLink RX5 7 "FirstStatesModel" "sort" "[I", .fieldLink RX5 62 "FirstStatesModel" "leans" "[I", .fieldLink RX5 37 "FirstStatesModel" "read" "[I", .fieldLink RX5 13 "FirstStatesModel" "which" "[I", .methodLink RX5 95 yX5_isNode, .instanceMethod yX5_isNode, .selects RX5 yX5_isNode yX5_isNode, .initialized RX5, .code yX5_isNode cX5_isNode 2 (some .boolean), .fieldLink RX5 74 "FirstStatesModel" "nodes" "I", .methodLink RX5 78 yX5_in, .static yX5_in, .code yX5_in cX5_in 3 (some .boolean), .methodLink RX5 143 yX5_layLeans, .instanceMethod yX5_layLeans, .selects RX5 yX5_layLeans yX5_layLeans, .code yX5_layLeans cX5_layLeans 2 none, .fieldLink RX5 16 "FirstStatesModel" "first" "[I", .fieldLink RX5 19 "FirstStatesModel" "second" "[I", .fieldLink RX5 22 "FirstStatesModel" "third" "[I"] ++ wsX50)
def wsX5_cross : List Cond := .code yX5_cross cX5_cross 5 (some .int) :: ([.fieldLink RX5 85 "FirstStatesModel" "stores" "I", .fieldLink RX5 31 "FirstStatesModel" "lineOf" "[I", .fieldLink RX5 62 "FirstStatesModel" "leans" "[I", .fieldLink RX5 37 "FirstStatesModel" "read" "[I", .fieldLink RX5 28 "FirstStatesModel" "node" "[I", .methodLink RX5 143 yX5_layLeans, .instanceMethod yX5_layLeans, .selects RX5 yX5_layLeans yX5_layLeans, .initialized RX5, .code yX5_layLeans cX5_layLeans 2 none, .fieldLink RX5 74 "FirstStatesModel" "nodes" "I", .fieldLink RX5 7 "FirstStatesModel" "sort" "[I", .fieldLink RX5 13 "FirstStatesModel" "which" "[I", .fieldLink RX5 16 "FirstStatesModel" "first" "[I", .fieldLink RX5 19 "FirstStatesModel" "second" "[I", .fieldLink RX5 22 "FirstStatesModel" "third" "[I"] ++ wsX50)
def wsX5_crossings : List Cond := .code yX5_crossings cX5_crossings 1 (some .int) :: ([.methodLink RX5 146 yX5_cross, .instanceMethod yX5_cross, .selects RX5 yX5_cross yX5_cross, .initialized RX5, .code yX5_cross cX5_cross 5 (some .int), .fieldLink RX5 85 "FirstStatesModel" "stores" "I", .fieldLink RX5 31 "FirstStatesModel" "lineOf" "[I", .fieldLink RX5 62 "FirstStatesModel" "leans" "[I", .fieldLink RX5 37 "FirstStatesModel" "read" "[I", .fieldLink RX5 28 "FirstStatesModel" "node" "[I", .methodLink RX5 143 yX5_layLeans, .instanceMethod yX5_layLeans, .selects RX5 yX5_layLeans yX5_layLeans, .code yX5_layLeans cX5_layLeans 2 none, .fieldLink RX5 74 "FirstStatesModel" "nodes" "I", .fieldLink RX5 7 "FirstStatesModel" "sort" "[I", .fieldLink RX5 13 "FirstStatesModel" "which" "[I", .fieldLink RX5 16 "FirstStatesModel" "first" "[I", .fieldLink RX5 19 "FirstStatesModel" "second" "[I", .fieldLink RX5 22 "FirstStatesModel" "third" "[I"] ++ wsX50)
def wsX5_crossing : List Cond := .code yX5_crossing cX5_crossing 2 (some .int) :: ([.methodLink RX5 146 yX5_cross, .instanceMethod yX5_cross, .selects RX5 yX5_cross yX5_cross, .initialized RX5, .code yX5_cross cX5_cross 5 (some .int), .fieldLink RX5 85 "FirstStatesModel" "stores" "I", .fieldLink RX5 31 "FirstStatesModel" "lineOf" "[I", .fieldLink RX5 62 "FirstStatesModel" "leans" "[I", .fieldLink RX5 37 "FirstStatesModel" "read" "[I", .fieldLink RX5 28 "FirstStatesModel" "node" "[I", .methodLink RX5 143 yX5_layLeans, .instanceMethod yX5_layLeans, .selects RX5 yX5_layLeans yX5_layLeans, .code yX5_layLeans cX5_layLeans 2 none, .fieldLink RX5 74 "FirstStatesModel" "nodes" "I", .fieldLink RX5 7 "FirstStatesModel" "sort" "[I", .fieldLink RX5 13 "FirstStatesModel" "which" "[I", .fieldLink RX5 16 "FirstStatesModel" "first" "[I", .fieldLink RX5 19 "FirstStatesModel" "second" "[I", .fieldLink RX5 22 "FirstStatesModel" "third" "[I"] ++ wsX50)
def wsX5_alone_r1 : List Cond := [Cond.fieldLink RX5 85 "FirstStatesModel" "stores" "I", Cond.fieldLink RX5 31 "FirstStatesModel" "lineOf" "[I", Cond.methodLink RX5 78 yX5_in, Cond.static yX5_in, Cond.initialized RX5, Cond.code yX5_in cX5_in 3 (some .boolean), Cond.methodLink RX5 114 yX5_layLeads, Cond.instanceMethod yX5_layLeads, Cond.selects RX5 yX5_layLeads yX5_layLeads, Cond.code yX5_layLeads cX5_layLeads 5 none, Cond.fieldLink RX5 88 "FirstStatesModel" "inputs" "I", Cond.fieldLink RX5 50 "FirstStatesModel" "value" "[I", Cond.fieldLink RX5 37 "FirstStatesModel" "read" "[I", Cond.fieldLink RX5 53 "FirstStatesModel" "leads" "[I", Cond.methodLink RX5 103 yX5_work, Cond.instanceMethod yX5_work, Cond.selects RX5 yX5_work yX5_work, Cond.code yX5_work cX5_work 4 none, Cond.fieldLink RX5 74 "FirstStatesModel" "nodes" "I", Cond.fieldLink RX5 7 "FirstStatesModel" "sort" "[I", Cond.fieldLink RX5 13 "FirstStatesModel" "which" "[I", Cond.fieldLink RX5 16 "FirstStatesModel" "first" "[I", Cond.fieldLink RX5 19 "FirstStatesModel" "second" "[I", Cond.fieldLink RX5 22 "FirstStatesModel" "third" "[I"]
def wsX5_alone_r2 : List Cond := [Cond.methodLink RX5 99 yX5_gateOf, Cond.static yX5_gateOf, Cond.code yX5_gateOf cX5_gateOf 4 (some .int), Cond.methodLink RX5 117 yX5_load, Cond.instanceMethod yX5_load, Cond.selects RX5 yX5_load yX5_load, Cond.code yX5_load cX5_load 3 none, Cond.fieldLink RX5 56 "FirstStatesModel" "set" "[Z", Cond.fieldLink RX5 44 "FirstStatesModel" "can" "[Z", Cond.methodLink RX5 139 yX5_settle, Cond.instanceMethod yX5_settle, Cond.selects RX5 yX5_settle yX5_settle, Cond.code yX5_settle cX5_settle 4 (some .int), Cond.methodLink RX5 132 yX5_many, Cond.instanceMethod yX5_many, Cond.selects RX5 yX5_many yX5_many, Cond.code yX5_many cX5_many 3 (some .int), Cond.methodLink RX5 125 yX5_step, Cond.instanceMethod yX5_step, Cond.selects RX5 yX5_step yX5_step, Cond.code yX5_step cX5_step 6 none, Cond.fieldLink RX5 34 "FirstStatesModel" "begins" "[I", Cond.fieldLink RX5 59 "FirstStatesModel" "then" "[Z", Cond.methodLink RX5 107 yX5_isPut]
def wsX5_alone_r3 : List Cond := [Cond.instanceMethod yX5_isPut, Cond.selects RX5 yX5_isPut yX5_isPut, Cond.code yX5_isPut cX5_isPut 5 (some .boolean), Cond.fieldLink RX5 25 "FirstStatesModel" "put" "[I"]
def wsX5_alone : List Cond := .code yX5_alone cX5_alone 4 (some .int) :: ((wsX5_alone_r1 ++ (wsX5_alone_r2 ++ wsX5_alone_r3)) ++ wsX50)
def wsX5_ones : List Cond := .code yX5_ones cX5_ones 3 (some .int) :: ([])
def wsX5_mend_r1 : List Cond := [Cond.fieldLink RX5 85 "FirstStatesModel" "stores" "I", Cond.fieldLink RX5 31 "FirstStatesModel" "lineOf" "[I", Cond.methodLink RX5 78 yX5_in, Cond.static yX5_in, Cond.initialized RX5, Cond.code yX5_in cX5_in 3 (some .boolean), Cond.methodLink RX5 114 yX5_layLeads, Cond.instanceMethod yX5_layLeads, Cond.selects RX5 yX5_layLeads yX5_layLeads, Cond.code yX5_layLeads cX5_layLeads 5 none, Cond.fieldLink RX5 88 "FirstStatesModel" "inputs" "I", Cond.fieldLink RX5 50 "FirstStatesModel" "value" "[I", Cond.fieldLink RX5 37 "FirstStatesModel" "read" "[I", Cond.fieldLink RX5 53 "FirstStatesModel" "leads" "[I", Cond.methodLink RX5 103 yX5_work, Cond.instanceMethod yX5_work, Cond.selects RX5 yX5_work yX5_work, Cond.code yX5_work cX5_work 4 none, Cond.fieldLink RX5 74 "FirstStatesModel" "nodes" "I", Cond.fieldLink RX5 7 "FirstStatesModel" "sort" "[I", Cond.fieldLink RX5 13 "FirstStatesModel" "which" "[I", Cond.fieldLink RX5 16 "FirstStatesModel" "first" "[I", Cond.fieldLink RX5 19 "FirstStatesModel" "second" "[I", Cond.fieldLink RX5 22 "FirstStatesModel" "third" "[I"]
def wsX5_mend_r2 : List Cond := [Cond.methodLink RX5 99 yX5_gateOf, Cond.static yX5_gateOf, Cond.code yX5_gateOf cX5_gateOf 4 (some .int), Cond.methodLink RX5 149 yX5_ones, Cond.static yX5_ones, Cond.code yX5_ones cX5_ones 3 (some .int), Cond.methodLink RX5 117 yX5_load, Cond.instanceMethod yX5_load, Cond.selects RX5 yX5_load yX5_load, Cond.code yX5_load cX5_load 3 none, Cond.fieldLink RX5 56 "FirstStatesModel" "set" "[Z", Cond.fieldLink RX5 44 "FirstStatesModel" "can" "[Z", Cond.methodLink RX5 125 yX5_step, Cond.instanceMethod yX5_step, Cond.selects RX5 yX5_step yX5_step, Cond.code yX5_step cX5_step 6 none, Cond.fieldLink RX5 34 "FirstStatesModel" "begins" "[I", Cond.fieldLink RX5 59 "FirstStatesModel" "then" "[Z", Cond.methodLink RX5 107 yX5_isPut, Cond.instanceMethod yX5_isPut, Cond.selects RX5 yX5_isPut yX5_isPut, Cond.code yX5_isPut cX5_isPut 5 (some .boolean), Cond.fieldLink RX5 25 "FirstStatesModel" "put" "[I", Cond.methodLink RX5 132 yX5_many]
def wsX5_mend_r3 : List Cond := [Cond.instanceMethod yX5_many, Cond.selects RX5 yX5_many yX5_many, Cond.code yX5_many cX5_many 3 (some .int)]
def wsX5_mend : List Cond := .code yX5_mend cX5_mend 6 (some .int) :: ((wsX5_mend_r1 ++ (wsX5_mend_r2 ++ wsX5_mend_r3)) ++ wsX50)
def wsX5_need : List Cond := .code yX5_need cX5_need 5 (some .int) :: ([.fieldLink RX5 65 "FirstStatesModel" "needs" "[I", .methodLink RX5 78 yX5_in, .static yX5_in, .initialized RX5, .code yX5_in cX5_in 3 (some .boolean)] ++ wsX50)
def wsX5_layGoes : List Cond := .code yX5_layGoes cX5_layGoes 4 none :: ([.fieldLink RX5 68 "FirstStatesModel" "goes" "[I", .fieldLink RX5 65 "FirstStatesModel" "needs" "[I"] ++ wsX50)
def wsX5_go : List Cond := .code yX5_go cX5_go 2 (some .int) :: ([.fieldLink RX5 68 "FirstStatesModel" "goes" "[I", .methodLink RX5 78 yX5_in, .static yX5_in, .initialized RX5, .code yX5_in cX5_in 3 (some .boolean), .methodLink RX5 152 yX5_layGoes, .instanceMethod yX5_layGoes, .selects RX5 yX5_layGoes yX5_layGoes, .code yX5_layGoes cX5_layGoes 4 none, .fieldLink RX5 65 "FirstStatesModel" "needs" "[I"] ++ wsX50)
def wsX5_gone : List Cond := .code yX5_gone cX5_gone 4 (some .int) :: ([.fieldLink RX5 68 "FirstStatesModel" "goes" "[I", .methodLink RX5 152 yX5_layGoes, .instanceMethod yX5_layGoes, .selects RX5 yX5_layGoes yX5_layGoes, .initialized RX5, .code yX5_layGoes cX5_layGoes 4 none, .fieldLink RX5 65 "FirstStatesModel" "needs" "[I"] ++ wsX50)
def wsX5_count : List Cond := .code yX5_count cX5_count 4 (some .int) :: ([.fieldLink RX5 74 "FirstStatesModel" "nodes" "I", .fieldLink RX5 85 "FirstStatesModel" "stores" "I", .fieldLink RX5 88 "FirstStatesModel" "inputs" "I", .fieldLink RX5 82 "FirstStatesModel" "ticks" "I", .fieldLink RX5 40 "FirstStatesModel" "isOn" "[Z", .fieldLink RX5 65 "FirstStatesModel" "needs" "[I"] ++ wsX50)
def wsJ9_max_7cf53 : List Cond := .code yJ9_max_7cf53 cJ9_max_7cf53 2 (some .int) :: ([])
def wsL_law_r1 : List Cond := [Cond.classLink RL 7 RX4, Cond.instantiable RX4 7, Cond.initialized RX4, Cond.classLink RL 10 RX5, Cond.instantiable RX5 24, Cond.initialized RX5, Cond.methodLink RL 9 yX4_init, Cond.instanceMethod yX4_init, Cond.code yX4_init cX4_init 1 none, Cond.methodLink RX4 1 objectInit, Cond.instanceMethod objectInit, Cond.code objectInit ⟨#[0xb1]⟩ 1 none, Cond.classLink RX4 7 RX0, Cond.instantiable RX0 15, Cond.initialized RX0, Cond.fieldLink RX4 10 "FirstStates" "circuit" "LFirstStates$Circuit;", Cond.classLink RX4 16 RX3, Cond.instantiable RX3 3, Cond.initialized RX3, Cond.fieldLink RX4 21 "FirstStates" "walk" "LFirstStates$Walk;", Cond.classLink RX4 25 RX2, Cond.instantiable RX2 3, Cond.initialized RX2, Cond.fieldLink RX4 28 "FirstStates" "parts" "LFirstStates$Parts;"]
def wsL_law_r2 : List Cond := [Cond.classLink RX4 32 RX1, Cond.instantiable RX1 2, Cond.initialized RX1, Cond.fieldLink RX4 35 "FirstStates" "needs" "LFirstStates$Needs;", Cond.fieldLink RX4 39 "FirstStates" "rows" "J", Cond.fieldLink RX4 43 "FirstStates" "ticks" "I", Cond.fieldLink RX4 47 "FirstStates" "linesOn" "I", Cond.instanceMethod yX0_init, Cond.code yX0_init cX0_init 1 none, Cond.methodLink RX0 3 objectInit, Cond.arrayClass .int, Cond.fieldLink RX0 9 "FirstStates$Circuit" "sorts" "[I", Cond.fieldLink RX0 15 "FirstStates$Circuit" "kinds" "[I", Cond.fieldLink RX0 18 "FirstStates$Circuit" "firsts" "[I", Cond.fieldLink RX0 21 "FirstStates$Circuit" "seconds" "[I", Cond.fieldLink RX0 24 "FirstStates$Circuit" "thirds" "[I", Cond.fieldLink RX0 27 "FirstStates$Circuit" "values" "[I", Cond.fieldLink RX0 30 "FirstStates$Circuit" "storeNumbers" "[I", Cond.fieldLink RX0 33 "FirstStates$Circuit" "storeNodes" "[I", Cond.fieldLink RX0 36 "FirstStates$Circuit" "storeLines" "[I", Cond.fieldLink RX0 39 "FirstStates$Circuit" "storeBegins" "[I", Cond.fieldLink RX0 42 "FirstStates$Circuit" "storeReads" "[I", Cond.fieldLink RX0 45 "FirstStates$Circuit" "sources" "[I", Cond.methodLink RX4 18 yX3_init]
def wsL_law_r3 : List Cond := [Cond.instanceMethod yX3_init, Cond.code yX3_init cX3_init 2 none, Cond.methodLink RX3 3 objectInit, Cond.arrayClass .long, Cond.fieldLink RX3 9 "FirstStates$Walk" "ones" "[J", Cond.fieldLink RX3 15 "FirstStates$Walk" "leads" "[J", Cond.fieldLink RX3 18 "FirstStates$Walk" "circuit" "LFirstStates$Circuit;", Cond.methodLink RX4 27 yX2_init, Cond.instanceMethod yX2_init, Cond.code yX2_init cX2_init 2 none, Cond.methodLink RX2 3 objectInit, Cond.fieldLink RX2 9 "FirstStates$Parts" "tells" "[I", Cond.fieldLink RX2 15 "FirstStates$Parts" "holds" "[I", Cond.fieldLink RX2 18 "FirstStates$Parts" "circuit" "LFirstStates$Circuit;", Cond.methodLink RX4 34 yX1_init, Cond.instanceMethod yX1_init, Cond.code yX1_init cX1_init 2 none, Cond.methodLink RX1 3 objectInit, Cond.fieldLink RX1 9 "FirstStates$Needs" "waits" "[I", Cond.fieldLink RX1 15 "FirstStates$Needs" "times" "[I", Cond.methodLink RL 12 yX5_init, Cond.instanceMethod yX5_init, Cond.code yX5_init cX5_init 2 none, Cond.methodLink RX5 1 objectInit]
def wsL_law_r4 : List Cond := [Cond.fieldLink RX5 7 "FirstStatesModel" "sort" "[I", Cond.fieldLink RX5 13 "FirstStatesModel" "which" "[I", Cond.fieldLink RX5 16 "FirstStatesModel" "first" "[I", Cond.fieldLink RX5 19 "FirstStatesModel" "second" "[I", Cond.fieldLink RX5 22 "FirstStatesModel" "third" "[I", Cond.fieldLink RX5 25 "FirstStatesModel" "put" "[I", Cond.fieldLink RX5 28 "FirstStatesModel" "node" "[I", Cond.fieldLink RX5 31 "FirstStatesModel" "lineOf" "[I", Cond.fieldLink RX5 34 "FirstStatesModel" "begins" "[I", Cond.fieldLink RX5 37 "FirstStatesModel" "read" "[I", Cond.arrayClass .boolean, Cond.fieldLink RX5 40 "FirstStatesModel" "isOn" "[Z", Cond.fieldLink RX5 44 "FirstStatesModel" "can" "[Z", Cond.fieldLink RX5 47 "FirstStatesModel" "parts" "[I", Cond.fieldLink RX5 50 "FirstStatesModel" "value" "[I", Cond.fieldLink RX5 53 "FirstStatesModel" "leads" "[I", Cond.fieldLink RX5 56 "FirstStatesModel" "set" "[Z", Cond.fieldLink RX5 59 "FirstStatesModel" "then" "[Z", Cond.fieldLink RX5 62 "FirstStatesModel" "leans" "[I", Cond.fieldLink RX5 65 "FirstStatesModel" "needs" "[I", Cond.fieldLink RX5 68 "FirstStatesModel" "goes" "[I", Cond.methodLink RX5 71 yX5_begin, Cond.instanceMethod yX5_begin, Cond.selects RX5 yX5_begin yX5_begin]
def wsL_law_r5 : List Cond := [Cond.code yX5_begin cX5_begin 2 none, Cond.fieldLink RX5 82 "FirstStatesModel" "ticks" "I", Cond.fieldLink RX5 85 "FirstStatesModel" "stores" "I", Cond.methodLink RL 13 yX4_input, Cond.instanceMethod yX4_input, Cond.selects RX4 yX4_input yX4_input, Cond.code yX4_input cX4_input 2 (some .int), Cond.fieldLink RX4 50 "FirstStates$Circuit" "inputs" "I", Cond.methodLink RX4 53 yX0_isFull, Cond.instanceMethod yX0_isFull, Cond.selects RX0 yX0_isFull yX0_isFull, Cond.code yX0_isFull cX0_isFull 1 (some .boolean), Cond.fieldLink RX0 48 "FirstStates$Circuit" "nodes" "I", Cond.methodLink RX4 57 yX0_addInput, Cond.instanceMethod yX0_addInput, Cond.selects RX0 yX0_addInput yX0_addInput, Cond.code yX0_addInput cX0_addInput 2 (some .int), Cond.fieldLink RX0 63 "FirstStates$Circuit" "inputs" "I", Cond.methodLink RX0 59 yX0_addNode, Cond.instanceMethod yX0_addNode, Cond.selects RX0 yX0_addNode yX0_addNode, Cond.code yX0_addNode cX0_addNode 3 (some .int), Cond.methodLink RX4 61 yX4_beginAgain, Cond.instanceMethod yX4_beginAgain]
def wsL_law_r6 : List Cond := [Cond.selects RX4 yX4_beginAgain yX4_beginAgain, Cond.code yX4_beginAgain cX4_beginAgain 1 none, Cond.methodLink RX4 181 yX3_allRows, Cond.instanceMethod yX3_allRows, Cond.selects RX3 yX3_allRows yX3_allRows, Cond.code yX3_allRows cX3_allRows 2 (some .long), Cond.constantLong RX3 28 (-1), Cond.methodLink RX3 22 yX0_rowCount, Cond.instanceMethod yX0_rowCount, Cond.selects RX0 yX0_rowCount yX0_rowCount, Cond.code yX0_rowCount cX0_rowCount 1 (some .int), Cond.fieldLink RX0 56 "FirstStates$Circuit" "stores" "I", Cond.methodLink RX4 208 yX2_forget, Cond.instanceMethod yX2_forget, Cond.selects RX2 yX2_forget yX2_forget, Cond.code yX2_forget cX2_forget 2 none, Cond.methodLink RL 17 yX5_input, Cond.instanceMethod yX5_input, Cond.selects RX5 yX5_input yX5_input, Cond.code yX5_input cX5_input 1 (some .int), Cond.fieldLink RX5 88 "FirstStatesModel" "inputs" "I", Cond.fieldLink RX5 74 "FirstStatesModel" "nodes" "I", Cond.methodLink RX5 91 yX5_add, Cond.instanceMethod yX5_add]
def wsL_law_r7 : List Cond := [Cond.selects RX5 yX5_add yX5_add, Cond.code yX5_add cX5_add 6 (some .int), Cond.methodLink RL 18 yX4_fixed, Cond.instanceMethod yX4_fixed, Cond.selects RX4 yX4_fixed yX4_fixed, Cond.code yX4_fixed cX4_fixed 3 (some .int), Cond.methodLink RX4 64 yX4_isBit, Cond.static yX4_isBit, Cond.code yX4_isBit cX4_isBit 1 (some .boolean), Cond.methodLink RX4 68 yX0_addFixed, Cond.instanceMethod yX0_addFixed, Cond.selects RX0 yX0_addFixed yX0_addFixed, Cond.code yX0_addFixed cX0_addFixed 3 (some .int), Cond.methodLink RL 22 yX5_fixed, Cond.instanceMethod yX5_fixed, Cond.selects RX5 yX5_fixed yX5_fixed, Cond.code yX5_fixed cX5_fixed 2 (some .int), Cond.methodLink RX5 78 yX5_in, Cond.static yX5_in, Cond.code yX5_in cX5_in 3 (some .boolean), Cond.methodLink RL 23 yX4_gate, Cond.instanceMethod yX4_gate, Cond.selects RX4 yX4_gate yX4_gate, Cond.code yX4_gate cX4_gate 8 (some .int)]
def wsL_law_r8 : List Cond := [Cond.methodLink RX4 72 yX0_isNode, Cond.instanceMethod yX0_isNode, Cond.selects RX0 yX0_isNode yX0_isNode, Cond.code yX0_isNode cX0_isNode 2 (some .boolean), Cond.methodLink RX4 75 yX0_addGate, Cond.instanceMethod yX0_addGate, Cond.selects RX0 yX0_addGate yX0_addGate, Cond.code yX0_addGate cX0_addGate 6 (some .int), Cond.methodLink RL 27 yX5_gate, Cond.instanceMethod yX5_gate, Cond.selects RX5 yX5_gate yX5_gate, Cond.code yX5_gate cX5_gate 5 (some .int), Cond.methodLink RX5 95 yX5_isNode, Cond.instanceMethod yX5_isNode, Cond.selects RX5 yX5_isNode yX5_isNode, Cond.code yX5_isNode cX5_isNode 2 (some .boolean), Cond.methodLink RL 28 yX4_store, Cond.instanceMethod yX4_store, Cond.selects RX4 yX4_store yX4_store, Cond.code yX4_store cX4_store 4 (some .int), Cond.fieldLink RX4 82 "FirstStates$Circuit" "stores" "I", Cond.methodLink RX4 79 yX4_isLine, Cond.static yX4_isLine, Cond.code yX4_isLine cX4_isLine 1 (some .boolean)]
def wsL_law_r9 : List Cond := [Cond.methodLink RX4 85 yX0_addStore, Cond.instanceMethod yX0_addStore, Cond.selects RX0 yX0_addStore yX0_addStore, Cond.code yX0_addStore cX0_addStore 4 (some .int), Cond.methodLink RL 32 yX5_store, Cond.instanceMethod yX5_store, Cond.selects RX5 yX5_store yX5_store, Cond.code yX5_store cX5_store 3 (some .int), Cond.methodLink RL 33 yX4_reads, Cond.instanceMethod yX4_reads, Cond.selects RX4 yX4_reads yX4_reads, Cond.code yX4_reads cX4_reads 5 (some .int), Cond.fieldLink RX4 93 "FirstStates$Circuit" "storeNumbers" "[I", Cond.fieldLink RX4 97 "FirstStates$Circuit" "storeReads" "[I", Cond.methodLink RX4 89 yX0_isSort, Cond.instanceMethod yX0_isSort, Cond.selects RX0 yX0_isSort yX0_isSort, Cond.code yX0_isSort cX0_isSort 3 (some .boolean), Cond.methodLink RX0 52 yX0_isNode, Cond.methodLink RL 36 yX5_reads, Cond.instanceMethod yX5_reads, Cond.selects RX5 yX5_reads yX5_reads, Cond.code yX5_reads cX5_reads 4 (some .int), Cond.methodLink RL 37 yX4_about]
def wsL_law_r10 : List Cond := [Cond.instanceMethod yX4_about, Cond.selects RX4 yX4_about yX4_about, Cond.code yX4_about cX4_about 3 (some .int), Cond.fieldLink RX4 100 "FirstStates$Circuit" "sorts" "[I", Cond.fieldLink RX4 103 "FirstStates$Circuit" "kinds" "[I", Cond.methodLink RX4 106 yX0_aboutStore, Cond.instanceMethod yX0_aboutStore, Cond.selects RX0 yX0_aboutStore yX0_aboutStore, Cond.code yX0_aboutStore cX0_aboutStore 3 (some .int), Cond.methodLink RL 40 yX5_about, Cond.instanceMethod yX5_about, Cond.selects RX5 yX5_about yX5_about, Cond.code yX5_about cX5_about 4 (some .int), Cond.methodLink RL 41 yX4_line, Cond.instanceMethod yX4_line, Cond.selects RX4 yX4_line yX4_line, Cond.code yX4_line cX4_line 5 (some .int), Cond.methodLink RL 45 yX5_line, Cond.instanceMethod yX5_line, Cond.selects RX5 yX5_line yX5_line, Cond.code yX5_line cX5_line 4 (some .int), Cond.methodLink RL 46 yX4_set, Cond.instanceMethod yX4_set, Cond.selects RX4 yX4_set yX4_set]
def wsL_law_r11 : List Cond := [Cond.code yX4_set cX4_set 4 (some .int), Cond.fieldLink RX4 109 "FirstStates$Circuit" "values" "[I", Cond.methodLink RL 49 yX5_set, Cond.instanceMethod yX5_set, Cond.selects RX5 yX5_set yX5_set, Cond.code yX5_set cX5_set 4 (some .int), Cond.methodLink RL 50 yX4_tick, Cond.instanceMethod yX4_tick, Cond.selects RX4 yX4_tick yX4_tick, Cond.code yX4_tick cX4_tick 4 (some .int), Cond.methodLink RX4 112 yX4_isTickCount, Cond.static yX4_isTickCount, Cond.code yX4_isTickCount cX4_isTickCount 1 (some .boolean), Cond.methodLink RX4 115 yX0_storesOf, Cond.instanceMethod yX0_storesOf, Cond.selects RX0 yX0_storesOf yX0_storesOf, Cond.code yX0_storesOf cX0_storesOf 4 (some .int), Cond.methodLink RX4 118 yX3_prepare, Cond.instanceMethod yX3_prepare, Cond.selects RX3 yX3_prepare yX3_prepare, Cond.code yX3_prepare cX3_prepare 6 none, Cond.methodLink RX3 30 yX0_openInputs, Cond.instanceMethod yX0_openInputs, Cond.selects RX0 yX0_openInputs yX0_openInputs]
def wsL_law_r12 : List Cond := [Cond.code yX0_openInputs cX0_openInputs 4 (some .int), Cond.methodLink RX3 34 yX3_evaluate, Cond.instanceMethod yX3_evaluate, Cond.selects RX3 yX3_evaluate yX3_evaluate, Cond.code yX3_evaluate cX3_evaluate 5 none, Cond.fieldLink RX3 42 "FirstStates$Circuit" "nodes" "I", Cond.fieldLink RX3 46 "FirstStates$Circuit" "sorts" "[I", Cond.fieldLink RX3 50 "FirstStates$Circuit" "values" "[I", Cond.fieldLink RX3 60 "FirstStates$Walk" "HOLDING" "[J", Cond.fieldLink RX3 63 "FirstStates$Circuit" "storeNumbers" "[I", Cond.methodLink RX3 53 yX3_everywhere, Cond.static yX3_everywhere, Cond.code yX3_everywhere cX3_everywhere 1 (some .long), Cond.methodLink RX3 57 yX3_gateOnes, Cond.instanceMethod yX3_gateOnes, Cond.selects RX3 yX3_gateOnes yX3_gateOnes, Cond.code yX3_gateOnes cX3_gateOnes 8 (some .long), Cond.fieldLink RX3 66 "FirstStates$Circuit" "firsts" "[I", Cond.fieldLink RX3 69 "FirstStates$Circuit" "seconds" "[I", Cond.fieldLink RX3 72 "FirstStates$Circuit" "thirds" "[I", Cond.fieldLink RX3 75 "FirstStates$Circuit" "kinds" "[I", Cond.methodLink RX3 38 yX3_led, Cond.instanceMethod yX3_led, Cond.selects RX3 yX3_led yX3_led]
def wsL_law_r13 : List Cond := [Cond.code yX3_led cX3_led 4 (some .int), Cond.fieldLink RX3 78 "FirstStates$Circuit" "stores" "I", Cond.fieldLink RX3 81 "FirstStates$Circuit" "storeReads" "[I", Cond.methodLink RX4 122 yX3_after, Cond.instanceMethod yX3_after, Cond.selects RX3 yX3_after yX3_after, Cond.code yX3_after cX3_after 7 (some .long), Cond.methodLink RX3 84 yX3_begun, Cond.instanceMethod yX3_begun, Cond.selects RX3 yX3_begun yX3_begun, Cond.code yX3_begun cX3_begun 5 (some .long), Cond.fieldLink RX3 88 "FirstStates$Circuit" "storeBegins" "[I", Cond.methodLink RX4 126 yX2_pass, Cond.instanceMethod yX2_pass, Cond.selects RX2 yX2_pass yX2_pass, Cond.code yX2_pass cX2_pass 4 none, Cond.fieldLink RX2 66 "FirstStates$Circuit" "stores" "I", Cond.fieldLink RX2 69 "FirstStates$Circuit" "storeBegins" "[I", Cond.fieldLink RX2 72 "FirstStates$Circuit" "storeReads" "[I", Cond.methodLink RX2 63 yX2_tellAll, Cond.instanceMethod yX2_tellAll, Cond.selects RX2 yX2_tellAll yX2_tellAll, Cond.code yX2_tellAll cX2_tellAll 2 none, Cond.fieldLink RX2 22 "FirstStates$Circuit" "nodes" "I"]
def wsL_law_r14 : List Cond := [Cond.fieldLink RX2 28 "FirstStates$Circuit" "sorts" "[I", Cond.fieldLink RX2 35 "FirstStates$Circuit" "storeNumbers" "[I", Cond.fieldLink RX2 38 "FirstStates$Circuit" "values" "[I", Cond.methodLink RX2 31 yX2_gateTells, Cond.instanceMethod yX2_gateTells, Cond.selects RX2 yX2_gateTells yX2_gateTells, Cond.code yX2_gateTells cX2_gateTells 5 (some .int), Cond.fieldLink RX2 41 "FirstStates$Circuit" "firsts" "[I", Cond.fieldLink RX2 44 "FirstStates$Circuit" "seconds" "[I", Cond.fieldLink RX2 47 "FirstStates$Circuit" "thirds" "[I", Cond.fieldLink RX2 50 "FirstStates$Circuit" "kinds" "[I", Cond.methodLink RX2 53 Lib.Math.max.name, Cond.static Lib.Math.max.name, Cond.initialized "java/lang/Math", Cond.code Lib.Math.max.name Lib.Math.max.code 2 (some .int), Cond.methodLink RX2 59 yX2_choiceTells, Cond.static yX2_choiceTells, Cond.code yX2_choiceTells cX2_choiceTells 3 (some .int), Cond.methodLink RX4 130 yJ13_bitCount_95d88, Cond.static yJ13_bitCount_95d88, Cond.initialized RJ13, Cond.code yJ13_bitCount_95d88 cJ13_bitCount_95d88 2 (some .int), Cond.constantLong RJ13 314 (6148914691236517205), Cond.constantLong RJ13 316 (3689348814741910323)]
def wsL_law_r15 : List Cond := [Cond.constantLong RJ13 318 (1085102592571150095), Cond.methodLink RL 53 yX5_tick, Cond.instanceMethod yX5_tick, Cond.selects RX5 yX5_tick yX5_tick, Cond.code yX5_tick cX5_tick 5 (some .int), Cond.methodLink RX5 114 yX5_layLeads, Cond.instanceMethod yX5_layLeads, Cond.selects RX5 yX5_layLeads yX5_layLeads, Cond.code yX5_layLeads cX5_layLeads 5 none, Cond.methodLink RX5 103 yX5_work, Cond.instanceMethod yX5_work, Cond.selects RX5 yX5_work yX5_work, Cond.code yX5_work cX5_work 4 none, Cond.methodLink RX5 99 yX5_gateOf, Cond.static yX5_gateOf, Cond.code yX5_gateOf cX5_gateOf 4 (some .int), Cond.methodLink RX5 117 yX5_load, Cond.instanceMethod yX5_load, Cond.selects RX5 yX5_load yX5_load, Cond.code yX5_load cX5_load 3 none, Cond.methodLink RX5 121 yX5_resets, Cond.instanceMethod yX5_resets, Cond.selects RX5 yX5_resets yX5_resets, Cond.code yX5_resets cX5_resets 3 (some .int)]
def wsL_law_r16 : List Cond := [Cond.methodLink RX5 125 yX5_step, Cond.instanceMethod yX5_step, Cond.selects RX5 yX5_step yX5_step, Cond.code yX5_step cX5_step 6 none, Cond.methodLink RX5 107 yX5_isPut, Cond.instanceMethod yX5_isPut, Cond.selects RX5 yX5_isPut yX5_isPut, Cond.code yX5_isPut cX5_isPut 5 (some .boolean), Cond.methodLink RX5 129 yX5_workParts, Cond.instanceMethod yX5_workParts, Cond.selects RX5 yX5_workParts yX5_workParts, Cond.code yX5_workParts cX5_workParts 3 none, Cond.methodLink RX5 111 yX5_partGate, Cond.static yX5_partGate, Cond.code yX5_partGate cX5_partGate 4 (some .int), Cond.methodLink RX5 132 yX5_many, Cond.instanceMethod yX5_many, Cond.selects RX5 yX5_many yX5_many, Cond.code yX5_many cX5_many 3 (some .int), Cond.methodLink RL 54 yX4_fresh, Cond.instanceMethod yX4_fresh, Cond.selects RX4 yX4_fresh yX4_fresh, Cond.code yX4_fresh cX4_fresh 2 (some .int), Cond.methodLink RL 57 yX5_fresh]
def wsL_law_r17 : List Cond := [Cond.instanceMethod yX5_fresh, Cond.selects RX5 yX5_fresh yX5_fresh, Cond.code yX5_fresh cX5_fresh 2 (some .int), Cond.methodLink RL 58 yX4_possible, Cond.instanceMethod yX4_possible, Cond.selects RX4 yX4_possible yX4_possible, Cond.code yX4_possible cX4_possible 1 (some .int), Cond.methodLink RL 61 yX5_possible, Cond.instanceMethod yX5_possible, Cond.selects RX5 yX5_possible yX5_possible, Cond.code yX5_possible cX5_possible 1 (some .int), Cond.methodLink RL 62 yX4_row, Cond.instanceMethod yX4_row, Cond.selects RX4 yX4_row yX4_row, Cond.code yX4_row cX4_row 4 (some .int), Cond.methodLink RL 65 yX5_row, Cond.instanceMethod yX5_row, Cond.selects RX5 yX5_row yX5_row, Cond.code yX5_row cX5_row 4 (some .int), Cond.methodLink RL 66 yX4_sure, Cond.instanceMethod yX4_sure, Cond.selects RX4 yX4_sure yX4_sure, Cond.code yX4_sure cX4_sure 2 (some .int), Cond.methodLink RX4 136 yX3_surely]
def wsL_law_r18 : List Cond := [Cond.instanceMethod yX3_surely, Cond.selects RX3 yX3_surely yX3_surely, Cond.code yX3_surely cX3_surely 8 (some .int), Cond.methodLink RL 69 yX5_sure, Cond.instanceMethod yX5_sure, Cond.selects RX5 yX5_sure yX5_sure, Cond.code yX5_sure cX5_sure 2 (some .int), Cond.methodLink RX5 135 yX5_sureOf, Cond.instanceMethod yX5_sureOf, Cond.selects RX5 yX5_sureOf yX5_sureOf, Cond.code yX5_sureOf cX5_sureOf 6 (some .int), Cond.methodLink RL 70 yX4_told, Cond.instanceMethod yX4_told, Cond.selects RX4 yX4_told yX4_told, Cond.code yX4_told cX4_told 2 (some .int), Cond.fieldLink RX4 143 "FirstStates$Parts" "tells" "[I", Cond.methodLink RX4 140 yX2_tellAll, Cond.methodLink RL 73 yX5_told, Cond.instanceMethod yX5_told, Cond.selects RX5 yX5_told yX5_told, Cond.code yX5_told cX5_told 2 (some .int), Cond.methodLink RL 74 yX4_known, Cond.instanceMethod yX4_known, Cond.selects RX4 yX4_known yX4_known]
def wsL_law_r19 : List Cond := [Cond.code yX4_known cX4_known 2 (some .int), Cond.methodLink RX4 146 yX2_knownStores, Cond.instanceMethod yX2_knownStores, Cond.selects RX2 yX2_knownStores yX2_knownStores, Cond.code yX2_knownStores cX2_knownStores 3 (some .int), Cond.methodLink RX4 149 yX3_sureStores, Cond.instanceMethod yX3_sureStores, Cond.selects RX3 yX3_sureStores yX3_sureStores, Cond.code yX3_sureStores cX3_sureStores 7 (some .int), Cond.methodLink RL 78 yX5_known, Cond.instanceMethod yX5_known, Cond.selects RX5 yX5_known yX5_known, Cond.code yX5_known cX5_known 4 (some .int), Cond.methodLink RL 79 yX4_settles, Cond.instanceMethod yX4_settles, Cond.selects RX4 yX4_settles yX4_settles, Cond.code yX4_settles cX4_settles 1 (some .int), Cond.methodLink RX4 152 yX3_ticksTillOne, Cond.instanceMethod yX3_ticksTillOne, Cond.selects RX3 yX3_ticksTillOne yX3_ticksTillOne, Cond.code yX3_ticksTillOne cX3_ticksTillOne 7 (some .int), Cond.methodLink RX3 91 yJ13_bitCount_95d88, Cond.methodLink RX3 97 yX3_after, Cond.methodLink RL 82 yX5_settles]
def wsL_law_r20 : List Cond := [Cond.instanceMethod yX5_settles, Cond.selects RX5 yX5_settles yX5_settles, Cond.code yX5_settles cX5_settles 1 (some .int), Cond.methodLink RX5 139 yX5_settle, Cond.instanceMethod yX5_settle, Cond.selects RX5 yX5_settle yX5_settle, Cond.code yX5_settle cX5_settle 4 (some .int), Cond.methodLink RL 83 yX4_next, Cond.instanceMethod yX4_next, Cond.selects RX4 yX4_next yX4_next, Cond.code yX4_next cX4_next 3 (some .int), Cond.methodLink RX4 156 yX0_rowCount, Cond.methodLink RX4 159 yX3_evaluate, Cond.methodLink RX4 163 yX3_led, Cond.methodLink RX4 166 yX0_beginBits, Cond.instanceMethod yX0_beginBits, Cond.selects RX0 yX0_beginBits yX0_beginBits, Cond.code yX0_beginBits cX0_beginBits 3 (some .int), Cond.methodLink RL 86 yX5_next, Cond.instanceMethod yX5_next, Cond.selects RX5 yX5_next yX5_next, Cond.code yX5_next cX5_next 6 (some .int), Cond.methodLink RL 87 yX4_depends, Cond.instanceMethod yX4_depends]
def wsL_law_r21 : List Cond := [Cond.selects RX4 yX4_depends yX4_depends, Cond.code yX4_depends cX4_depends 3 (some .int), Cond.methodLink RX4 169 yX0_traceSources, Cond.instanceMethod yX0_traceSources, Cond.selects RX0 yX0_traceSources yX0_traceSources, Cond.code yX0_traceSources cX0_traceSources 2 none, Cond.methodLink RX4 172 yX0_leans, Cond.instanceMethod yX0_leans, Cond.selects RX0 yX0_leans yX0_leans, Cond.code yX0_leans cX0_leans 3 (some .boolean), Cond.methodLink RL 90 yX5_depends, Cond.instanceMethod yX5_depends, Cond.selects RX5 yX5_depends yX5_depends, Cond.code yX5_depends cX5_depends 3 (some .int), Cond.methodLink RX5 143 yX5_layLeans, Cond.instanceMethod yX5_layLeans, Cond.selects RX5 yX5_layLeans yX5_layLeans, Cond.code yX5_layLeans cX5_layLeans 2 none, Cond.methodLink RL 91 yX4_crossings, Cond.instanceMethod yX4_crossings, Cond.selects RX4 yX4_crossings yX4_crossings, Cond.code yX4_crossings cX4_crossings 4 (some .int), Cond.methodLink RX4 175 yX0_crosses, Cond.instanceMethod yX0_crosses]
def wsL_law_r22 : List Cond := [Cond.selects RX0 yX0_crosses yX0_crosses, Cond.code yX0_crosses cX0_crosses 3 (some .boolean), Cond.methodLink RX0 66 yX0_leans, Cond.methodLink RL 94 yX5_crossings, Cond.instanceMethod yX5_crossings, Cond.selects RX5 yX5_crossings yX5_crossings, Cond.code yX5_crossings cX5_crossings 1 (some .int), Cond.methodLink RX5 146 yX5_cross, Cond.instanceMethod yX5_cross, Cond.selects RX5 yX5_cross yX5_cross, Cond.code yX5_cross cX5_cross 5 (some .int), Cond.methodLink RL 95 yX4_crossing, Cond.instanceMethod yX4_crossing, Cond.selects RX4 yX4_crossing yX4_crossing, Cond.code yX4_crossing cX4_crossing 5 (some .int), Cond.fieldLink RX4 178 "FirstStates$Circuit" "storeNodes" "[I", Cond.methodLink RL 98 yX5_crossing, Cond.instanceMethod yX5_crossing, Cond.selects RX5 yX5_crossing yX5_crossing, Cond.code yX5_crossing cX5_crossing 2 (some .int), Cond.methodLink RL 99 yX4_alone, Cond.instanceMethod yX4_alone, Cond.selects RX4 yX4_alone yX4_alone, Cond.code yX4_alone cX4_alone 2 (some .int)]
def wsL_law_r23 : List Cond := [Cond.methodLink RL 102 yX5_alone, Cond.instanceMethod yX5_alone, Cond.selects RX5 yX5_alone yX5_alone, Cond.code yX5_alone cX5_alone 4 (some .int), Cond.methodLink RL 103 yX4_mend, Cond.instanceMethod yX4_mend, Cond.selects RX4 yX4_mend yX4_mend, Cond.code yX4_mend cX4_mend 5 (some .int), Cond.methodLink RX4 185 yJ6_bitCount_0f7a4, Cond.static yJ6_bitCount_0f7a4, Cond.initialized RJ6, Cond.code yJ6_bitCount_0f7a4 cJ6_bitCount_0f7a4 1 (some .int), Cond.constant RJ6 265 (1431655765), Cond.constant RJ6 266 (858993459), Cond.constant RJ6 267 (252645135), Cond.methodLink RX4 189 yX3_leavesOne, Cond.instanceMethod yX3_leavesOne, Cond.selects RX3 yX3_leavesOne yX3_leavesOne, Cond.code yX3_leavesOne cX3_leavesOne 8 (some .boolean), Cond.methodLink RX3 100 yX3_allRows, Cond.methodLink RL 106 yX5_mend, Cond.instanceMethod yX5_mend, Cond.selects RX5 yX5_mend yX5_mend, Cond.code yX5_mend cX5_mend 6 (some .int)]
def wsL_law_r24 : List Cond := [Cond.methodLink RX5 149 yX5_ones, Cond.static yX5_ones, Cond.code yX5_ones cX5_ones 3 (some .int), Cond.methodLink RL 107 yX4_need, Cond.instanceMethod yX4_need, Cond.selects RX4 yX4_need yX4_need, Cond.code yX4_need cX4_need 4 (some .int), Cond.methodLink RX4 192 yX1_change, Cond.instanceMethod yX1_change, Cond.selects RX1 yX1_change yX1_change, Cond.code yX1_change cX1_change 5 (some .int), Cond.methodLink RL 111 yX5_need, Cond.instanceMethod yX5_need, Cond.selects RX5 yX5_need yX5_need, Cond.code yX5_need cX5_need 5 (some .int), Cond.methodLink RL 112 yX4_go, Cond.instanceMethod yX4_go, Cond.selects RX4 yX4_go yX4_go, Cond.code yX4_go cX4_go 2 (some .int), Cond.fieldLink RX4 199 "FirstStates$Needs" "times" "[I", Cond.methodLink RX4 196 yX1_reckon, Cond.instanceMethod yX1_reckon, Cond.selects RX1 yX1_reckon yX1_reckon, Cond.code yX1_reckon cX1_reckon 2 none]
def wsL_law_r25 : List Cond := [Cond.methodLink RX1 18 yX1_delayAll, Cond.instanceMethod yX1_delayAll, Cond.selects RX1 yX1_delayAll yX1_delayAll, Cond.code yX1_delayAll cX1_delayAll 5 none, Cond.methodLink RL 115 yX5_go, Cond.instanceMethod yX5_go, Cond.selects RX5 yX5_go yX5_go, Cond.code yX5_go cX5_go 2 (some .int), Cond.methodLink RX5 152 yX5_layGoes, Cond.instanceMethod yX5_layGoes, Cond.selects RX5 yX5_layGoes yX5_layGoes, Cond.code yX5_layGoes cX5_layGoes 4 none, Cond.methodLink RL 116 yX4_gone, Cond.instanceMethod yX4_gone, Cond.selects RX4 yX4_gone yX4_gone, Cond.code yX4_gone cX4_gone 4 (some .int), Cond.methodLink RL 119 yX5_gone, Cond.instanceMethod yX5_gone, Cond.selects RX5 yX5_gone yX5_gone, Cond.code yX5_gone cX5_gone 4 (some .int), Cond.methodLink RL 120 yX4_count, Cond.instanceMethod yX4_count, Cond.selects RX4 yX4_count yX4_count, Cond.code yX4_count cX4_count 2 (some .int)]
def wsL_law_r26 : List Cond := [Cond.fieldLink RX4 202 "FirstStates$Circuit" "nodes" "I", Cond.methodLink RX4 205 yX1_standing, Cond.instanceMethod yX1_standing, Cond.selects RX1 yX1_standing yX1_standing, Cond.code yX1_standing cX1_standing 3 (some .int), Cond.methodLink RL 123 yX5_count, Cond.instanceMethod yX5_count, Cond.selects RX5 yX5_count yX5_count, Cond.code yX5_count cX5_count 4 (some .int)]
def wsL_law : List Cond := (wsL_law_r1 ++ (wsL_law_r2 ++ (wsL_law_r3 ++ (wsL_law_r4 ++ (wsL_law_r5 ++ (wsL_law_r6 ++ (wsL_law_r7 ++ (wsL_law_r8 ++ (wsL_law_r9 ++ (wsL_law_r10 ++ (wsL_law_r11 ++ (wsL_law_r12 ++ (wsL_law_r13 ++ (wsL_law_r14 ++ (wsL_law_r15 ++ (wsL_law_r16 ++ (wsL_law_r17 ++ (wsL_law_r18 ++ (wsL_law_r19 ++ (wsL_law_r20 ++ (wsL_law_r21 ++ (wsL_law_r22 ++ (wsL_law_r23 ++ (wsL_law_r24 ++ (wsL_law_r25 ++ wsL_law_r26))))))))))))))))))))))))) ++ wsX40 ++ wsX50 ++ wsX00 ++ wsX30 ++ wsX20 ++ wsX10 ++ ([] : List Cond)
end
section
theorem mem_app_all {a b T : List Cond} (ha : ∀ w ∈ a, w ∈ T) (hb : ∀ w ∈ b, w ∈ T) : ∀ w ∈ a ++ b, w ∈ T := fun w h => (List.mem_append.mp h).elim (ha w) (hb w)
set_option maxRecDepth 20000 in
theorem wsL_in_1 : ∀ w ∈ wsL_law_r1, w ∈ lw_tbl := fun w h => (goodIn_p wsL_law_r1 [36, 39] (by decide +kernel) (by decide +kernel) w h).1
set_option maxRecDepth 20000 in
theorem wsL_in_2 : ∀ w ∈ wsL_law_r2, w ∈ lw_tbl := fun w h => (goodIn_p wsL_law_r2 [44] (by decide +kernel) (by decide +kernel) w h).1
set_option maxRecDepth 20000 in
theorem wsL_in_3 : ∀ w ∈ wsL_law_r3, w ∈ lw_tbl := fun w h => (goodIn_p wsL_law_r3 [128, 145, 162, 492] (by decide +kernel) (by decide +kernel) w h).1
set_option maxRecDepth 20000 in
theorem wsL_in_4 : ∀ w ∈ wsL_law_r4, w ∈ lw_tbl := fun w h => (goodIn_p wsL_law_r4 [] (by decide +kernel) (by decide +kernel) w h).1
set_option maxRecDepth 20000 in
theorem wsL_in_5 : ∀ w ∈ wsL_law_r5, w ∈ lw_tbl := fun w h => (goodIn_p wsL_law_r5 [497, 197, 201, 205, 209] (by decide +kernel) (by decide +kernel) w h).1
set_option maxRecDepth 20000 in
theorem wsL_in_6 : ∀ w ∈ wsL_law_r6, w ∈ lw_tbl := fun w h => (goodIn_p wsL_law_r6 [213, 217, 221, 226, 575] (by decide +kernel) (by decide +kernel) w h).1
set_option maxRecDepth 20000 in
theorem wsL_in_7 : ∀ w ∈ wsL_law_r7, w ∈ lw_tbl := fun w h => (goodIn_p wsL_law_r7 [579, 230, 233, 237, 583, 586, 241] (by decide +kernel) (by decide +kernel) w h).1
set_option maxRecDepth 20000 in
theorem wsL_in_8 : ∀ w ∈ wsL_law_r8, w ∈ lw_tbl := fun w h => (goodIn_p wsL_law_r8 [245, 249, 590, 594, 253, 256] (by decide +kernel) (by decide +kernel) w h).1
set_option maxRecDepth 20000 in
theorem wsL_in_9 : ∀ w ∈ wsL_law_r9, w ∈ lw_tbl := fun w h => (goodIn_p wsL_law_r9 [260, 598, 264, 268, 602] (by decide +kernel) (by decide +kernel) w h).1
set_option maxRecDepth 20000 in
theorem wsL_in_10 : ∀ w ∈ wsL_law_r10, w ∈ lw_tbl := fun w h => (goodIn_p wsL_law_r10 [273, 277, 606, 281, 610] (by decide +kernel) (by decide +kernel) w h).1
set_option maxRecDepth 20000 in
theorem wsL_in_11 : ∀ w ∈ wsL_law_r11, w ∈ lw_tbl := fun w h => (goodIn_p wsL_law_r11 [285, 614, 289, 292, 296, 300] (by decide +kernel) (by decide +kernel) w h).1
set_option maxRecDepth 20000 in
theorem wsL_in_12 : ∀ w ∈ wsL_law_r12, w ∈ lw_tbl := fun w h => (goodIn_p wsL_law_r12 [304, 308, 311, 315] (by decide +kernel) (by decide +kernel) w h).1
set_option maxRecDepth 20000 in
theorem wsL_in_13 : ∀ w ∈ wsL_law_r13, w ∈ lw_tbl := fun w h => (goodIn_p wsL_law_r13 [321, 325, 329, 333, 337] (by decide +kernel) (by decide +kernel) w h).1
set_option maxRecDepth 20000 in
theorem wsL_in_14 : ∀ w ∈ wsL_law_r14, w ∈ lw_tbl := fun w h => (goodIn_p wsL_law_r14 [341, 344, 347, 350] (by decide +kernel) (by decide +kernel) w h).1
set_option maxRecDepth 20000 in
theorem wsL_in_15 : ∀ w ∈ wsL_law_r15, w ∈ lw_tbl := fun w h => (goodIn_p wsL_law_r15 [618, 622, 626, 629, 633, 637] (by decide +kernel) (by decide +kernel) w h).1
set_option maxRecDepth 20000 in
theorem wsL_in_16 : ∀ w ∈ wsL_law_r16, w ∈ lw_tbl := fun w h => (goodIn_p wsL_law_r16 [641, 645, 649, 652, 656, 357] (by decide +kernel) (by decide +kernel) w h).1
set_option maxRecDepth 20000 in
theorem wsL_in_17 : ∀ w ∈ wsL_law_r17, w ∈ lw_tbl := fun w h => (goodIn_p wsL_law_r17 [660, 361, 664, 365, 668, 369] (by decide +kernel) (by decide +kernel) w h).1
set_option maxRecDepth 20000 in
theorem wsL_in_18 : ∀ w ∈ wsL_law_r18, w ∈ lw_tbl := fun w h => (goodIn_p wsL_law_r18 [373, 672, 676, 377, 680] (by decide +kernel) (by decide +kernel) w h).1
set_option maxRecDepth 20000 in
theorem wsL_in_19 : ∀ w ∈ wsL_law_r19, w ∈ lw_tbl := fun w h => (goodIn_p wsL_law_r19 [382, 386, 390, 684, 394, 398] (by decide +kernel) (by decide +kernel) w h).1
set_option maxRecDepth 20000 in
theorem wsL_in_20 : ∀ w ∈ wsL_law_r20, w ∈ lw_tbl := fun w h => (goodIn_p wsL_law_r20 [688, 692, 404, 411, 696] (by decide +kernel) (by decide +kernel) w h).1
set_option maxRecDepth 20000 in
theorem wsL_in_21 : ∀ w ∈ wsL_law_r21, w ∈ lw_tbl := fun w h => (goodIn_p wsL_law_r21 [415, 419, 423, 700, 704, 427] (by decide +kernel) (by decide +kernel) w h).1
set_option maxRecDepth 20000 in
theorem wsL_in_22 : ∀ w ∈ wsL_law_r22, w ∈ lw_tbl := fun w h => (goodIn_p wsL_law_r22 [431, 708, 712, 436, 716, 440] (by decide +kernel) (by decide +kernel) w h).1
set_option maxRecDepth 20000 in
theorem wsL_in_23 : ∀ w ∈ wsL_law_r23, w ∈ lw_tbl := fun w h => (goodIn_p wsL_law_r23 [720, 444, 447, 454, 724] (by decide +kernel) (by decide +kernel) w h).1
set_option maxRecDepth 20000 in
theorem wsL_in_24 : ∀ w ∈ wsL_law_r24, w ∈ lw_tbl := fun w h => (goodIn_p wsL_law_r24 [727, 459, 463, 731, 467, 471] (by decide +kernel) (by decide +kernel) w h).1
set_option maxRecDepth 20000 in
theorem wsL_in_25 : ∀ w ∈ wsL_law_r25, w ∈ lw_tbl := fun w h => (goodIn_p wsL_law_r25 [475, 735, 739, 479, 743, 483] (by decide +kernel) (by decide +kernel) w h).1
set_option maxRecDepth 20000 in
theorem wsL_in_26 : ∀ w ∈ wsL_law_r26, w ∈ lw_tbl := fun w h => (goodIn_p wsL_law_r26 [487, 747] (by decide +kernel) (by decide +kernel) w h).1
set_option maxRecDepth 20000 in
theorem wsL_in_X40 : ∀ w ∈ wsX40, w ∈ lw_tbl := fun w h => (goodIn_p wsX40 [] (by decide +kernel) (by decide +kernel) w h).1
set_option maxRecDepth 20000 in
theorem wsL_in_X50 : ∀ w ∈ wsX50, w ∈ lw_tbl := fun w h => (goodIn_p wsX50 [] (by decide +kernel) (by decide +kernel) w h).1
set_option maxRecDepth 20000 in
theorem wsL_in_X00 : ∀ w ∈ wsX00, w ∈ lw_tbl := fun w h => (goodIn_p wsX00 [] (by decide +kernel) (by decide +kernel) w h).1
set_option maxRecDepth 20000 in
theorem wsL_in_X30 : ∀ w ∈ wsX30, w ∈ lw_tbl := fun w h => (goodIn_p wsX30 [] (by decide +kernel) (by decide +kernel) w h).1
set_option maxRecDepth 20000 in
theorem wsL_in_X20 : ∀ w ∈ wsX20, w ∈ lw_tbl := fun w h => (goodIn_p wsX20 [] (by decide +kernel) (by decide +kernel) w h).1
set_option maxRecDepth 20000 in
theorem wsL_in_X10 : ∀ w ∈ wsX10, w ∈ lw_tbl := fun w h => (goodIn_p wsX10 [] (by decide +kernel) (by decide +kernel) w h).1
theorem wsL_law_in : ∀ w ∈ wsL_law, w ∈ lw_tbl := mem_app_all (mem_app_all (mem_app_all (mem_app_all (mem_app_all (mem_app_all (mem_app_all (mem_app_all wsL_in_1 (mem_app_all wsL_in_2 (mem_app_all wsL_in_3 (mem_app_all wsL_in_4 (mem_app_all wsL_in_5 (mem_app_all wsL_in_6 (mem_app_all wsL_in_7 (mem_app_all wsL_in_8 (mem_app_all wsL_in_9 (mem_app_all wsL_in_10 (mem_app_all wsL_in_11 (mem_app_all wsL_in_12 (mem_app_all wsL_in_13 (mem_app_all wsL_in_14 (mem_app_all wsL_in_15 (mem_app_all wsL_in_16 (mem_app_all wsL_in_17 (mem_app_all wsL_in_18 (mem_app_all wsL_in_19 (mem_app_all wsL_in_20 (mem_app_all wsL_in_21 (mem_app_all wsL_in_22 (mem_app_all wsL_in_23 (mem_app_all wsL_in_24 (mem_app_all wsL_in_25 wsL_in_26))))))))))))))))))))))))) wsL_in_X40) wsL_in_X50) wsL_in_X00) wsL_in_X30) wsL_in_X20) wsL_in_X10) (fun _ h => absurd h List.not_mem_nil)
theorem inlX0 : ∀ w ∈ wsX00, w ∈ wsL_law := fun _ h => List.mem_append_left _ (List.mem_append_left _ (List.mem_append_left _ (List.mem_append_left _ (List.mem_append_right _ h))))
theorem inX0 : ∀ w ∈ wsX00, w ∈ lw_tbl := fun w h => wsL_law_in w (inlX0 w h)
theorem inlX1 : ∀ w ∈ wsX10, w ∈ wsL_law := fun _ h => List.mem_append_left _ (List.mem_append_right _ h)
theorem inX1 : ∀ w ∈ wsX10, w ∈ lw_tbl := fun w h => wsL_law_in w (inlX1 w h)
theorem inlX2 : ∀ w ∈ wsX20, w ∈ wsL_law := fun _ h => List.mem_append_left _ (List.mem_append_left _ (List.mem_append_right _ h))
theorem inX2 : ∀ w ∈ wsX20, w ∈ lw_tbl := fun w h => wsL_law_in w (inlX2 w h)
theorem inlX3 : ∀ w ∈ wsX30, w ∈ wsL_law := fun _ h => List.mem_append_left _ (List.mem_append_left _ (List.mem_append_left _ (List.mem_append_right _ h)))
theorem inX3 : ∀ w ∈ wsX30, w ∈ lw_tbl := fun w h => wsL_law_in w (inlX3 w h)
theorem inlX4 : ∀ w ∈ wsX40, w ∈ wsL_law := fun _ h => List.mem_append_left _ (List.mem_append_left _ (List.mem_append_left _ (List.mem_append_left _ (List.mem_append_left _ (List.mem_append_left _ (List.mem_append_right _ h))))))
theorem inX4 : ∀ w ∈ wsX40, w ∈ lw_tbl := fun w h => wsL_law_in w (inlX4 w h)
theorem inlX5 : ∀ w ∈ wsX50, w ∈ wsL_law := fun _ h => List.mem_append_left _ (List.mem_append_left _ (List.mem_append_left _ (List.mem_append_left _ (List.mem_append_left _ (List.mem_append_right _ h)))))
theorem inX5 : ∀ w ∈ wsX50, w ∈ lw_tbl := fun w h => wsL_law_in w (inlX5 w h)
theorem inJ6 : ∀ w ∈ wsJ60, w ∈ lw_tbl := by decide +kernel
theorem inJ13 : ∀ w ∈ wsJ130, w ∈ lw_tbl := by decide +kernel
theorem inJ9 : ∀ w ∈ wsJ90, w ∈ lw_tbl := by decide +kernel
end
section
theorem dX0_init_0 : decode cX0_init 0 = .ok (.aload_n 0, 1) := by decide +kernel
theorem dX0_init_1 : decode cX0_init 1 = .ok (.invokespecial 3, 3) := by decide +kernel
theorem dX0_init_4 : decode cX0_init 4 = .ok (.aload_n 0, 1) := by decide +kernel
theorem dX0_init_5 : decode cX0_init 5 = .ok (.bipush 32, 2) := by decide +kernel
theorem dX0_init_7 : decode cX0_init 7 = .ok (.newarray .int, 2) := by decide +kernel
theorem dX0_init_9 : decode cX0_init 9 = .ok (.putfield 9, 3) := by decide +kernel
theorem dX0_init_12 : decode cX0_init 12 = .ok (.aload_n 0, 1) := by decide +kernel
theorem dX0_init_13 : decode cX0_init 13 = .ok (.bipush 32, 2) := by decide +kernel
theorem dX0_init_15 : decode cX0_init 15 = .ok (.newarray .int, 2) := by decide +kernel
theorem dX0_init_17 : decode cX0_init 17 = .ok (.putfield 15, 3) := by decide +kernel
theorem dX0_init_20 : decode cX0_init 20 = .ok (.aload_n 0, 1) := by decide +kernel
theorem dX0_init_21 : decode cX0_init 21 = .ok (.bipush 32, 2) := by decide +kernel
theorem dX0_init_23 : decode cX0_init 23 = .ok (.newarray .int, 2) := by decide +kernel
theorem dX0_init_25 : decode cX0_init 25 = .ok (.putfield 18, 3) := by decide +kernel
theorem dX0_init_28 : decode cX0_init 28 = .ok (.aload_n 0, 1) := by decide +kernel
theorem dX0_init_29 : decode cX0_init 29 = .ok (.bipush 32, 2) := by decide +kernel
theorem dX0_init_31 : decode cX0_init 31 = .ok (.newarray .int, 2) := by decide +kernel
theorem dX0_init_33 : decode cX0_init 33 = .ok (.putfield 21, 3) := by decide +kernel
theorem dX0_init_36 : decode cX0_init 36 = .ok (.aload_n 0, 1) := by decide +kernel
theorem dX0_init_37 : decode cX0_init 37 = .ok (.bipush 32, 2) := by decide +kernel
theorem dX0_init_39 : decode cX0_init 39 = .ok (.newarray .int, 2) := by decide +kernel
theorem dX0_init_41 : decode cX0_init 41 = .ok (.putfield 24, 3) := by decide +kernel
theorem dX0_init_44 : decode cX0_init 44 = .ok (.aload_n 0, 1) := by decide +kernel
theorem dX0_init_45 : decode cX0_init 45 = .ok (.bipush 32, 2) := by decide +kernel
theorem dX0_init_47 : decode cX0_init 47 = .ok (.newarray .int, 2) := by decide +kernel
theorem dX0_init_49 : decode cX0_init 49 = .ok (.putfield 27, 3) := by decide +kernel
theorem dX0_init_52 : decode cX0_init 52 = .ok (.aload_n 0, 1) := by decide +kernel
theorem dX0_init_53 : decode cX0_init 53 = .ok (.bipush 32, 2) := by decide +kernel
theorem dX0_init_55 : decode cX0_init 55 = .ok (.newarray .int, 2) := by decide +kernel
theorem dX0_init_57 : decode cX0_init 57 = .ok (.putfield 30, 3) := by decide +kernel
theorem dX0_init_60 : decode cX0_init 60 = .ok (.aload_n 0, 1) := by decide +kernel
theorem dX0_init_61 : decode cX0_init 61 = .ok (.bipush 6, 2) := by decide +kernel
theorem dX0_init_63 : decode cX0_init 63 = .ok (.newarray .int, 2) := by decide +kernel
theorem dX0_init_65 : decode cX0_init 65 = .ok (.putfield 33, 3) := by decide +kernel
theorem dX0_init_68 : decode cX0_init 68 = .ok (.aload_n 0, 1) := by decide +kernel
theorem dX0_init_69 : decode cX0_init 69 = .ok (.bipush 6, 2) := by decide +kernel
theorem dX0_init_71 : decode cX0_init 71 = .ok (.newarray .int, 2) := by decide +kernel
theorem dX0_init_73 : decode cX0_init 73 = .ok (.putfield 36, 3) := by decide +kernel
theorem dX0_init_76 : decode cX0_init 76 = .ok (.aload_n 0, 1) := by decide +kernel
theorem dX0_init_77 : decode cX0_init 77 = .ok (.bipush 6, 2) := by decide +kernel
theorem dX0_init_79 : decode cX0_init 79 = .ok (.newarray .int, 2) := by decide +kernel
theorem dX0_init_81 : decode cX0_init 81 = .ok (.putfield 39, 3) := by decide +kernel
theorem dX0_init_84 : decode cX0_init 84 = .ok (.aload_n 0, 1) := by decide +kernel
theorem dX0_init_85 : decode cX0_init 85 = .ok (.bipush 6, 2) := by decide +kernel
theorem dX0_init_87 : decode cX0_init 87 = .ok (.newarray .int, 2) := by decide +kernel
theorem dX0_init_89 : decode cX0_init 89 = .ok (.putfield 42, 3) := by decide +kernel
theorem dX0_init_92 : decode cX0_init 92 = .ok (.aload_n 0, 1) := by decide +kernel
theorem dX0_init_93 : decode cX0_init 93 = .ok (.bipush 32, 2) := by decide +kernel
theorem dX0_init_95 : decode cX0_init 95 = .ok (.newarray .int, 2) := by decide +kernel
theorem dX0_init_97 : decode cX0_init 97 = .ok (.putfield 45, 3) := by decide +kernel
theorem dX0_init_100 : decode cX0_init 100 = .ok (.return_, 1) := by decide +kernel
theorem dX0_isFull_0 : decode cX0_isFull 0 = .ok (.aload_n 0, 1) := by decide +kernel
theorem dX0_isFull_1 : decode cX0_isFull 1 = .ok (.getfield 48, 3) := by decide +kernel
theorem dX0_isFull_4 : decode cX0_isFull 4 = .ok (.bipush 32, 2) := by decide +kernel
theorem dX0_isFull_6 : decode cX0_isFull 6 = .ok (.if_icmp .lt 7, 3) := by decide +kernel
theorem dX0_isFull_9 : decode cX0_isFull 9 = .ok (.iconst 1, 1) := by decide +kernel
theorem dX0_isFull_10 : decode cX0_isFull 10 = .ok (.goto 4, 3) := by decide +kernel
theorem dX0_isFull_13 : decode cX0_isFull 13 = .ok (.iconst 0, 1) := by decide +kernel
theorem dX0_isFull_14 : decode cX0_isFull 14 = .ok (.ireturn, 1) := by decide +kernel
theorem dX0_isNode_0 : decode cX0_isNode 0 = .ok (.iload_n 1, 1) := by decide +kernel
theorem dX0_isNode_1 : decode cX0_isNode 1 = .ok (.ifCond .lt 15, 3) := by decide +kernel
theorem dX0_isNode_4 : decode cX0_isNode 4 = .ok (.iload_n 1, 1) := by decide +kernel
theorem dX0_isNode_5 : decode cX0_isNode 5 = .ok (.aload_n 0, 1) := by decide +kernel
theorem dX0_isNode_6 : decode cX0_isNode 6 = .ok (.getfield 48, 3) := by decide +kernel
theorem dX0_isNode_9 : decode cX0_isNode 9 = .ok (.if_icmp .ge 7, 3) := by decide +kernel
theorem dX0_isNode_12 : decode cX0_isNode 12 = .ok (.iconst 1, 1) := by decide +kernel
theorem dX0_isNode_13 : decode cX0_isNode 13 = .ok (.goto 4, 3) := by decide +kernel
theorem dX0_isNode_16 : decode cX0_isNode 16 = .ok (.iconst 0, 1) := by decide +kernel
theorem dX0_isNode_17 : decode cX0_isNode 17 = .ok (.ireturn, 1) := by decide +kernel
set_option maxRecDepth 20000 in
theorem ggX0_isSort_X0_isNode : GoodIn wsX0_isSort wsX0_isNode := goodIn_r _ [6, 7, 8, 9, 10, 11, 12, 13, 14, 15, 16, 17, 18, 19, 20, 21, 22] (by decide +kernel) (by decide +kernel)
set_option maxRecDepth 20000 in
theorem gX0_isSort_X0_isNode : GoodIn wsX0_isSort (wsV RX0 52 RX0 yX0_isNode wsX0_isNode) := goodIn_app (goodIn_of _ (by decide +kernel)) ggX0_isSort_X0_isNode
theorem dX0_isSort_0 : decode cX0_isSort 0 = .ok (.aload_n 0, 1) := by decide +kernel
theorem dX0_isSort_1 : decode cX0_isSort 1 = .ok (.iload_n 1, 1) := by decide +kernel
theorem dX0_isSort_2 : decode cX0_isSort 2 = .ok (.invokevirtual 52, 3) := by decide +kernel
theorem dX0_isSort_5 : decode cX0_isSort 5 = .ok (.ifCond .eq 17, 3) := by decide +kernel
theorem dX0_isSort_8 : decode cX0_isSort 8 = .ok (.aload_n 0, 1) := by decide +kernel
theorem dX0_isSort_9 : decode cX0_isSort 9 = .ok (.getfield 9, 3) := by decide +kernel
theorem dX0_isSort_12 : decode cX0_isSort 12 = .ok (.iload_n 1, 1) := by decide +kernel
theorem dX0_isSort_13 : decode cX0_isSort 13 = .ok (.iaload, 1) := by decide +kernel
theorem dX0_isSort_14 : decode cX0_isSort 14 = .ok (.iload_n 2, 1) := by decide +kernel
theorem dX0_isSort_15 : decode cX0_isSort 15 = .ok (.if_icmp .ne 7, 3) := by decide +kernel
theorem dX0_isSort_18 : decode cX0_isSort 18 = .ok (.iconst 1, 1) := by decide +kernel
theorem dX0_isSort_19 : decode cX0_isSort 19 = .ok (.goto 4, 3) := by decide +kernel
theorem dX0_isSort_22 : decode cX0_isSort 22 = .ok (.iconst 0, 1) := by decide +kernel
theorem dX0_isSort_23 : decode cX0_isSort 23 = .ok (.ireturn, 1) := by decide +kernel
theorem dX0_rowCount_0 : decode cX0_rowCount 0 = .ok (.iconst 1, 1) := by decide +kernel
theorem dX0_rowCount_1 : decode cX0_rowCount 1 = .ok (.aload_n 0, 1) := by decide +kernel
theorem dX0_rowCount_2 : decode cX0_rowCount 2 = .ok (.getfield 56, 3) := by decide +kernel
theorem dX0_rowCount_5 : decode cX0_rowCount 5 = .ok (.ishl, 1) := by decide +kernel
theorem dX0_rowCount_6 : decode cX0_rowCount 6 = .ok (.ireturn, 1) := by decide +kernel
set_option maxRecDepth 20000 in
theorem ggX0_addInput_X0_addNode : GoodIn wsX0_addInput wsX0_addNode := goodIn_r _ [7, 8, 9, 10, 11, 12, 13, 14, 15, 16, 17, 18, 19, 20, 21, 22, 23, 24] (by decide +kernel) (by decide +kernel)
set_option maxRecDepth 20000 in
theorem gX0_addInput_X0_addNode : GoodIn wsX0_addInput (wsV RX0 59 RX0 yX0_addNode wsX0_addNode) := goodIn_app (goodIn_of _ (by decide +kernel)) ggX0_addInput_X0_addNode
theorem dX0_addInput_0 : decode cX0_addInput 0 = .ok (.aload_n 0, 1) := by decide +kernel
theorem dX0_addInput_1 : decode cX0_addInput 1 = .ok (.iconst 0, 1) := by decide +kernel
theorem dX0_addInput_2 : decode cX0_addInput 2 = .ok (.invokevirtual 59, 3) := by decide +kernel
theorem dX0_addInput_5 : decode cX0_addInput 5 = .ok (.istore_n 1, 1) := by decide +kernel
theorem dX0_addInput_6 : decode cX0_addInput 6 = .ok (.aload_n 0, 1) := by decide +kernel
theorem dX0_addInput_7 : decode cX0_addInput 7 = .ok (.getfield 27, 3) := by decide +kernel
theorem dX0_addInput_10 : decode cX0_addInput 10 = .ok (.iload_n 1, 1) := by decide +kernel
theorem dX0_addInput_11 : decode cX0_addInput 11 = .ok (.iconst 2, 1) := by decide +kernel
theorem dX0_addInput_12 : decode cX0_addInput 12 = .ok (.iastore, 1) := by decide +kernel
theorem dX0_addInput_13 : decode cX0_addInput 13 = .ok (.aload_n 0, 1) := by decide +kernel
theorem dX0_addInput_14 : decode cX0_addInput 14 = .ok (.dup, 1) := by decide +kernel
theorem dX0_addInput_15 : decode cX0_addInput 15 = .ok (.getfield 63, 3) := by decide +kernel
theorem dX0_addInput_18 : decode cX0_addInput 18 = .ok (.iconst 1, 1) := by decide +kernel
theorem dX0_addInput_19 : decode cX0_addInput 19 = .ok (.iadd, 1) := by decide +kernel
theorem dX0_addInput_20 : decode cX0_addInput 20 = .ok (.putfield 63, 3) := by decide +kernel
theorem dX0_addInput_23 : decode cX0_addInput 23 = .ok (.iload_n 1, 1) := by decide +kernel
theorem dX0_addInput_24 : decode cX0_addInput 24 = .ok (.ireturn, 1) := by decide +kernel
set_option maxRecDepth 20000 in
theorem ggX0_addFixed_X0_addNode : GoodIn wsX0_addFixed wsX0_addNode := goodIn_r _ [6, 7, 8, 9, 10, 11, 12, 13, 14, 15, 16, 17, 18, 19, 20, 21, 22, 23] (by decide +kernel) (by decide +kernel)
set_option maxRecDepth 20000 in
theorem gX0_addFixed_X0_addNode : GoodIn wsX0_addFixed (wsV RX0 59 RX0 yX0_addNode wsX0_addNode) := goodIn_app (goodIn_of _ (by decide +kernel)) ggX0_addFixed_X0_addNode
theorem dX0_addFixed_0 : decode cX0_addFixed 0 = .ok (.aload_n 0, 1) := by decide +kernel
theorem dX0_addFixed_1 : decode cX0_addFixed 1 = .ok (.iconst 1, 1) := by decide +kernel
theorem dX0_addFixed_2 : decode cX0_addFixed 2 = .ok (.invokevirtual 59, 3) := by decide +kernel
theorem dX0_addFixed_5 : decode cX0_addFixed 5 = .ok (.istore_n 2, 1) := by decide +kernel
theorem dX0_addFixed_6 : decode cX0_addFixed 6 = .ok (.aload_n 0, 1) := by decide +kernel
theorem dX0_addFixed_7 : decode cX0_addFixed 7 = .ok (.getfield 27, 3) := by decide +kernel
theorem dX0_addFixed_10 : decode cX0_addFixed 10 = .ok (.iload_n 2, 1) := by decide +kernel
theorem dX0_addFixed_11 : decode cX0_addFixed 11 = .ok (.iload_n 1, 1) := by decide +kernel
theorem dX0_addFixed_12 : decode cX0_addFixed 12 = .ok (.iastore, 1) := by decide +kernel
theorem dX0_addFixed_13 : decode cX0_addFixed 13 = .ok (.iload_n 2, 1) := by decide +kernel
theorem dX0_addFixed_14 : decode cX0_addFixed 14 = .ok (.ireturn, 1) := by decide +kernel
set_option maxRecDepth 20000 in
theorem ggX0_addGate_X0_addNode : GoodIn wsX0_addGate wsX0_addNode := goodIn_r _ [9, 10, 11, 12, 13, 14, 15, 16, 17, 18, 19, 20, 21, 22, 23, 24, 25, 26] (by decide +kernel) (by decide +kernel)
set_option maxRecDepth 20000 in
theorem gX0_addGate_X0_addNode : GoodIn wsX0_addGate (wsV RX0 59 RX0 yX0_addNode wsX0_addNode) := goodIn_app (goodIn_of _ (by decide +kernel)) ggX0_addGate_X0_addNode
theorem dX0_addGate_0 : decode cX0_addGate 0 = .ok (.aload_n 0, 1) := by decide +kernel
theorem dX0_addGate_1 : decode cX0_addGate 1 = .ok (.iconst 2, 1) := by decide +kernel
theorem dX0_addGate_2 : decode cX0_addGate 2 = .ok (.invokevirtual 59, 3) := by decide +kernel
theorem dX0_addGate_5 : decode cX0_addGate 5 = .ok (.istore 5, 2) := by decide +kernel
theorem dX0_addGate_7 : decode cX0_addGate 7 = .ok (.aload_n 0, 1) := by decide +kernel
theorem dX0_addGate_8 : decode cX0_addGate 8 = .ok (.getfield 15, 3) := by decide +kernel
theorem dX0_addGate_11 : decode cX0_addGate 11 = .ok (.iload 5, 2) := by decide +kernel
theorem dX0_addGate_13 : decode cX0_addGate 13 = .ok (.iload_n 1, 1) := by decide +kernel
theorem dX0_addGate_14 : decode cX0_addGate 14 = .ok (.iastore, 1) := by decide +kernel
theorem dX0_addGate_15 : decode cX0_addGate 15 = .ok (.aload_n 0, 1) := by decide +kernel
theorem dX0_addGate_16 : decode cX0_addGate 16 = .ok (.getfield 18, 3) := by decide +kernel
theorem dX0_addGate_19 : decode cX0_addGate 19 = .ok (.iload 5, 2) := by decide +kernel
theorem dX0_addGate_21 : decode cX0_addGate 21 = .ok (.iload_n 2, 1) := by decide +kernel
theorem dX0_addGate_22 : decode cX0_addGate 22 = .ok (.iastore, 1) := by decide +kernel
theorem dX0_addGate_23 : decode cX0_addGate 23 = .ok (.aload_n 0, 1) := by decide +kernel
theorem dX0_addGate_24 : decode cX0_addGate 24 = .ok (.getfield 21, 3) := by decide +kernel
theorem dX0_addGate_27 : decode cX0_addGate 27 = .ok (.iload 5, 2) := by decide +kernel
theorem dX0_addGate_29 : decode cX0_addGate 29 = .ok (.iload_n 3, 1) := by decide +kernel
theorem dX0_addGate_30 : decode cX0_addGate 30 = .ok (.iastore, 1) := by decide +kernel
theorem dX0_addGate_31 : decode cX0_addGate 31 = .ok (.aload_n 0, 1) := by decide +kernel
theorem dX0_addGate_32 : decode cX0_addGate 32 = .ok (.getfield 24, 3) := by decide +kernel
theorem dX0_addGate_35 : decode cX0_addGate 35 = .ok (.iload 5, 2) := by decide +kernel
theorem dX0_addGate_37 : decode cX0_addGate 37 = .ok (.iload 4, 2) := by decide +kernel
theorem dX0_addGate_39 : decode cX0_addGate 39 = .ok (.iastore, 1) := by decide +kernel
theorem dX0_addGate_40 : decode cX0_addGate 40 = .ok (.iload 5, 2) := by decide +kernel
theorem dX0_addGate_42 : decode cX0_addGate 42 = .ok (.ireturn, 1) := by decide +kernel
set_option maxRecDepth 20000 in
theorem ggX0_addStore_X0_addNode : GoodIn wsX0_addStore wsX0_addNode := goodIn_r _ [11, 12, 13, 14, 15, 16, 17, 18, 19, 20, 21, 22, 23, 24, 25, 26, 27, 28] (by decide +kernel) (by decide +kernel)
set_option maxRecDepth 20000 in
theorem gX0_addStore_X0_addNode : GoodIn wsX0_addStore (wsV RX0 59 RX0 yX0_addNode wsX0_addNode) := goodIn_app (goodIn_of _ (by decide +kernel)) ggX0_addStore_X0_addNode
theorem dX0_addStore_0 : decode cX0_addStore 0 = .ok (.aload_n 0, 1) := by decide +kernel
theorem dX0_addStore_1 : decode cX0_addStore 1 = .ok (.iconst 3, 1) := by decide +kernel
theorem dX0_addStore_2 : decode cX0_addStore 2 = .ok (.invokevirtual 59, 3) := by decide +kernel
theorem dX0_addStore_5 : decode cX0_addStore 5 = .ok (.istore_n 3, 1) := by decide +kernel
theorem dX0_addStore_6 : decode cX0_addStore 6 = .ok (.aload_n 0, 1) := by decide +kernel
theorem dX0_addStore_7 : decode cX0_addStore 7 = .ok (.getfield 30, 3) := by decide +kernel
theorem dX0_addStore_10 : decode cX0_addStore 10 = .ok (.iload_n 3, 1) := by decide +kernel
theorem dX0_addStore_11 : decode cX0_addStore 11 = .ok (.aload_n 0, 1) := by decide +kernel
theorem dX0_addStore_12 : decode cX0_addStore 12 = .ok (.getfield 56, 3) := by decide +kernel
theorem dX0_addStore_15 : decode cX0_addStore 15 = .ok (.iastore, 1) := by decide +kernel
theorem dX0_addStore_16 : decode cX0_addStore 16 = .ok (.aload_n 0, 1) := by decide +kernel
theorem dX0_addStore_17 : decode cX0_addStore 17 = .ok (.getfield 33, 3) := by decide +kernel
theorem dX0_addStore_20 : decode cX0_addStore 20 = .ok (.aload_n 0, 1) := by decide +kernel
theorem dX0_addStore_21 : decode cX0_addStore 21 = .ok (.getfield 56, 3) := by decide +kernel
theorem dX0_addStore_24 : decode cX0_addStore 24 = .ok (.iload_n 3, 1) := by decide +kernel
theorem dX0_addStore_25 : decode cX0_addStore 25 = .ok (.iastore, 1) := by decide +kernel
theorem dX0_addStore_26 : decode cX0_addStore 26 = .ok (.aload_n 0, 1) := by decide +kernel
theorem dX0_addStore_27 : decode cX0_addStore 27 = .ok (.getfield 36, 3) := by decide +kernel
theorem dX0_addStore_30 : decode cX0_addStore 30 = .ok (.aload_n 0, 1) := by decide +kernel
theorem dX0_addStore_31 : decode cX0_addStore 31 = .ok (.getfield 56, 3) := by decide +kernel
theorem dX0_addStore_34 : decode cX0_addStore 34 = .ok (.iload_n 1, 1) := by decide +kernel
theorem dX0_addStore_35 : decode cX0_addStore 35 = .ok (.iastore, 1) := by decide +kernel
theorem dX0_addStore_36 : decode cX0_addStore 36 = .ok (.aload_n 0, 1) := by decide +kernel
theorem dX0_addStore_37 : decode cX0_addStore 37 = .ok (.getfield 39, 3) := by decide +kernel
theorem dX0_addStore_40 : decode cX0_addStore 40 = .ok (.aload_n 0, 1) := by decide +kernel
theorem dX0_addStore_41 : decode cX0_addStore 41 = .ok (.getfield 56, 3) := by decide +kernel
theorem dX0_addStore_44 : decode cX0_addStore 44 = .ok (.iload_n 2, 1) := by decide +kernel
theorem dX0_addStore_45 : decode cX0_addStore 45 = .ok (.iastore, 1) := by decide +kernel
theorem dX0_addStore_46 : decode cX0_addStore 46 = .ok (.aload_n 0, 1) := by decide +kernel
theorem dX0_addStore_47 : decode cX0_addStore 47 = .ok (.getfield 42, 3) := by decide +kernel
theorem dX0_addStore_50 : decode cX0_addStore 50 = .ok (.aload_n 0, 1) := by decide +kernel
theorem dX0_addStore_51 : decode cX0_addStore 51 = .ok (.getfield 56, 3) := by decide +kernel
theorem dX0_addStore_54 : decode cX0_addStore 54 = .ok (.iload_n 3, 1) := by decide +kernel
theorem dX0_addStore_55 : decode cX0_addStore 55 = .ok (.iastore, 1) := by decide +kernel
theorem dX0_addStore_56 : decode cX0_addStore 56 = .ok (.aload_n 0, 1) := by decide +kernel
theorem dX0_addStore_57 : decode cX0_addStore 57 = .ok (.dup, 1) := by decide +kernel
theorem dX0_addStore_58 : decode cX0_addStore 58 = .ok (.getfield 56, 3) := by decide +kernel
theorem dX0_addStore_61 : decode cX0_addStore 61 = .ok (.iconst 1, 1) := by decide +kernel
theorem dX0_addStore_62 : decode cX0_addStore 62 = .ok (.iadd, 1) := by decide +kernel
theorem dX0_addStore_63 : decode cX0_addStore 63 = .ok (.putfield 56, 3) := by decide +kernel
theorem dX0_addStore_66 : decode cX0_addStore 66 = .ok (.iload_n 3, 1) := by decide +kernel
theorem dX0_addStore_67 : decode cX0_addStore 67 = .ok (.ireturn, 1) := by decide +kernel
theorem dX0_addNode_0 : decode cX0_addNode 0 = .ok (.aload_n 0, 1) := by decide +kernel
theorem dX0_addNode_1 : decode cX0_addNode 1 = .ok (.getfield 48, 3) := by decide +kernel
theorem dX0_addNode_4 : decode cX0_addNode 4 = .ok (.istore_n 2, 1) := by decide +kernel
theorem dX0_addNode_5 : decode cX0_addNode 5 = .ok (.aload_n 0, 1) := by decide +kernel
theorem dX0_addNode_6 : decode cX0_addNode 6 = .ok (.getfield 9, 3) := by decide +kernel
theorem dX0_addNode_9 : decode cX0_addNode 9 = .ok (.iload_n 2, 1) := by decide +kernel
theorem dX0_addNode_10 : decode cX0_addNode 10 = .ok (.iload_n 1, 1) := by decide +kernel
theorem dX0_addNode_11 : decode cX0_addNode 11 = .ok (.iastore, 1) := by decide +kernel
theorem dX0_addNode_12 : decode cX0_addNode 12 = .ok (.aload_n 0, 1) := by decide +kernel
theorem dX0_addNode_13 : decode cX0_addNode 13 = .ok (.dup, 1) := by decide +kernel
theorem dX0_addNode_14 : decode cX0_addNode 14 = .ok (.getfield 48, 3) := by decide +kernel
theorem dX0_addNode_17 : decode cX0_addNode 17 = .ok (.iconst 1, 1) := by decide +kernel
theorem dX0_addNode_18 : decode cX0_addNode 18 = .ok (.iadd, 1) := by decide +kernel
theorem dX0_addNode_19 : decode cX0_addNode 19 = .ok (.putfield 48, 3) := by decide +kernel
theorem dX0_addNode_22 : decode cX0_addNode 22 = .ok (.iload_n 2, 1) := by decide +kernel
theorem dX0_addNode_23 : decode cX0_addNode 23 = .ok (.ireturn, 1) := by decide +kernel
theorem dX0_aboutStore_0 : decode cX0_aboutStore 0 = .ok (.iload_n 2, 1) := by decide +kernel
theorem dX0_aboutStore_1 : decode cX0_aboutStore 1 = .ok (.lookupswitch 41 #[(2, 27), (3, 34)], 27) := by decide +kernel
theorem dX0_aboutStore_28 : decode cX0_aboutStore 28 = .ok (.aload_n 0, 1) := by decide +kernel
theorem dX0_aboutStore_29 : decode cX0_aboutStore 29 = .ok (.getfield 36, 3) := by decide +kernel
theorem dX0_aboutStore_32 : decode cX0_aboutStore 32 = .ok (.iload_n 1, 1) := by decide +kernel
theorem dX0_aboutStore_33 : decode cX0_aboutStore 33 = .ok (.iaload, 1) := by decide +kernel
theorem dX0_aboutStore_34 : decode cX0_aboutStore 34 = .ok (.ireturn, 1) := by decide +kernel
theorem dX0_aboutStore_35 : decode cX0_aboutStore 35 = .ok (.aload_n 0, 1) := by decide +kernel
theorem dX0_aboutStore_36 : decode cX0_aboutStore 36 = .ok (.getfield 39, 3) := by decide +kernel
theorem dX0_aboutStore_39 : decode cX0_aboutStore 39 = .ok (.iload_n 1, 1) := by decide +kernel
theorem dX0_aboutStore_40 : decode cX0_aboutStore 40 = .ok (.iaload, 1) := by decide +kernel
theorem dX0_aboutStore_41 : decode cX0_aboutStore 41 = .ok (.ireturn, 1) := by decide +kernel
theorem dX0_aboutStore_42 : decode cX0_aboutStore 42 = .ok (.aload_n 0, 1) := by decide +kernel
theorem dX0_aboutStore_43 : decode cX0_aboutStore 43 = .ok (.getfield 42, 3) := by decide +kernel
theorem dX0_aboutStore_46 : decode cX0_aboutStore 46 = .ok (.iload_n 1, 1) := by decide +kernel
theorem dX0_aboutStore_47 : decode cX0_aboutStore 47 = .ok (.iaload, 1) := by decide +kernel
theorem dX0_aboutStore_48 : decode cX0_aboutStore 48 = .ok (.ireturn, 1) := by decide +kernel
theorem dX0_storesOf_0 : decode cX0_storesOf 0 = .ok (.iconst 0, 1) := by decide +kernel
theorem dX0_storesOf_1 : decode cX0_storesOf 1 = .ok (.istore_n 2, 1) := by decide +kernel
theorem dX0_storesOf_2 : decode cX0_storesOf 2 = .ok (.iconst 0, 1) := by decide +kernel
theorem dX0_storesOf_3 : decode cX0_storesOf 3 = .ok (.istore_n 3, 1) := by decide +kernel
theorem dX0_storesOf_4 : decode cX0_storesOf 4 = .ok (.iload_n 3, 1) := by decide +kernel
theorem dX0_storesOf_5 : decode cX0_storesOf 5 = .ok (.aload_n 0, 1) := by decide +kernel
theorem dX0_storesOf_6 : decode cX0_storesOf 6 = .ok (.getfield 56, 3) := by decide +kernel
theorem dX0_storesOf_9 : decode cX0_storesOf 9 = .ok (.if_icmp .ge 39, 3) := by decide +kernel
theorem dX0_storesOf_12 : decode cX0_storesOf 12 = .ok (.aload_n 0, 1) := by decide +kernel
theorem dX0_storesOf_13 : decode cX0_storesOf 13 = .ok (.getfield 36, 3) := by decide +kernel
theorem dX0_storesOf_16 : decode cX0_storesOf 16 = .ok (.iload_n 3, 1) := by decide +kernel
theorem dX0_storesOf_17 : decode cX0_storesOf 17 = .ok (.iaload, 1) := by decide +kernel
theorem dX0_storesOf_18 : decode cX0_storesOf 18 = .ok (.bipush (-9), 2) := by decide +kernel
theorem dX0_storesOf_20 : decode cX0_storesOf 20 = .ok (.if_icmp .eq 22, 3) := by decide +kernel
theorem dX0_storesOf_23 : decode cX0_storesOf 23 = .ok (.iload_n 1, 1) := by decide +kernel
theorem dX0_storesOf_24 : decode cX0_storesOf 24 = .ok (.aload_n 0, 1) := by decide +kernel
theorem dX0_storesOf_25 : decode cX0_storesOf 25 = .ok (.getfield 36, 3) := by decide +kernel
theorem dX0_storesOf_28 : decode cX0_storesOf 28 = .ok (.iload_n 3, 1) := by decide +kernel
theorem dX0_storesOf_29 : decode cX0_storesOf 29 = .ok (.iaload, 1) := by decide +kernel
theorem dX0_storesOf_30 : decode cX0_storesOf 30 = .ok (.ishr, 1) := by decide +kernel
theorem dX0_storesOf_31 : decode cX0_storesOf 31 = .ok (.iconst 1, 1) := by decide +kernel
theorem dX0_storesOf_32 : decode cX0_storesOf 32 = .ok (.iand, 1) := by decide +kernel
theorem dX0_storesOf_33 : decode cX0_storesOf 33 = .ok (.ifCond .eq 9, 3) := by decide +kernel
theorem dX0_storesOf_36 : decode cX0_storesOf 36 = .ok (.iload_n 2, 1) := by decide +kernel
theorem dX0_storesOf_37 : decode cX0_storesOf 37 = .ok (.iconst 1, 1) := by decide +kernel
theorem dX0_storesOf_38 : decode cX0_storesOf 38 = .ok (.iload_n 3, 1) := by decide +kernel
theorem dX0_storesOf_39 : decode cX0_storesOf 39 = .ok (.ishl, 1) := by decide +kernel
theorem dX0_storesOf_40 : decode cX0_storesOf 40 = .ok (.ior, 1) := by decide +kernel
theorem dX0_storesOf_41 : decode cX0_storesOf 41 = .ok (.istore_n 2, 1) := by decide +kernel
theorem dX0_storesOf_42 : decode cX0_storesOf 42 = .ok (.iinc 3 1, 3) := by decide +kernel
theorem dX0_storesOf_45 : decode cX0_storesOf 45 = .ok (.goto (-41), 3) := by decide +kernel
theorem dX0_storesOf_48 : decode cX0_storesOf 48 = .ok (.iload_n 2, 1) := by decide +kernel
theorem dX0_storesOf_49 : decode cX0_storesOf 49 = .ok (.ireturn, 1) := by decide +kernel
theorem dX0_beginBits_0 : decode cX0_beginBits 0 = .ok (.iconst 0, 1) := by decide +kernel
theorem dX0_beginBits_1 : decode cX0_beginBits 1 = .ok (.istore_n 1, 1) := by decide +kernel
theorem dX0_beginBits_2 : decode cX0_beginBits 2 = .ok (.iconst 0, 1) := by decide +kernel
theorem dX0_beginBits_3 : decode cX0_beginBits 3 = .ok (.istore_n 2, 1) := by decide +kernel
theorem dX0_beginBits_4 : decode cX0_beginBits 4 = .ok (.iload_n 2, 1) := by decide +kernel
theorem dX0_beginBits_5 : decode cX0_beginBits 5 = .ok (.aload_n 0, 1) := by decide +kernel
theorem dX0_beginBits_6 : decode cX0_beginBits 6 = .ok (.getfield 56, 3) := by decide +kernel
theorem dX0_beginBits_9 : decode cX0_beginBits 9 = .ok (.if_icmp .ge 20, 3) := by decide +kernel
theorem dX0_beginBits_12 : decode cX0_beginBits 12 = .ok (.iload_n 1, 1) := by decide +kernel
theorem dX0_beginBits_13 : decode cX0_beginBits 13 = .ok (.aload_n 0, 1) := by decide +kernel
theorem dX0_beginBits_14 : decode cX0_beginBits 14 = .ok (.getfield 39, 3) := by decide +kernel
theorem dX0_beginBits_17 : decode cX0_beginBits 17 = .ok (.iload_n 2, 1) := by decide +kernel
theorem dX0_beginBits_18 : decode cX0_beginBits 18 = .ok (.iaload, 1) := by decide +kernel
theorem dX0_beginBits_19 : decode cX0_beginBits 19 = .ok (.iload_n 2, 1) := by decide +kernel
theorem dX0_beginBits_20 : decode cX0_beginBits 20 = .ok (.ishl, 1) := by decide +kernel
theorem dX0_beginBits_21 : decode cX0_beginBits 21 = .ok (.ior, 1) := by decide +kernel
theorem dX0_beginBits_22 : decode cX0_beginBits 22 = .ok (.istore_n 1, 1) := by decide +kernel
theorem dX0_beginBits_23 : decode cX0_beginBits 23 = .ok (.iinc 2 1, 3) := by decide +kernel
theorem dX0_beginBits_26 : decode cX0_beginBits 26 = .ok (.goto (-22), 3) := by decide +kernel
theorem dX0_beginBits_29 : decode cX0_beginBits 29 = .ok (.iload_n 1, 1) := by decide +kernel
theorem dX0_beginBits_30 : decode cX0_beginBits 30 = .ok (.ireturn, 1) := by decide +kernel
theorem dX0_openInputs_0 : decode cX0_openInputs 0 = .ok (.iconst 0, 1) := by decide +kernel
theorem dX0_openInputs_1 : decode cX0_openInputs 1 = .ok (.istore_n 2, 1) := by decide +kernel
theorem dX0_openInputs_2 : decode cX0_openInputs 2 = .ok (.iconst 0, 1) := by decide +kernel
theorem dX0_openInputs_3 : decode cX0_openInputs 3 = .ok (.istore_n 3, 1) := by decide +kernel
theorem dX0_openInputs_4 : decode cX0_openInputs 4 = .ok (.iload_n 3, 1) := by decide +kernel
theorem dX0_openInputs_5 : decode cX0_openInputs 5 = .ok (.aload_n 0, 1) := by decide +kernel
theorem dX0_openInputs_6 : decode cX0_openInputs 6 = .ok (.getfield 48, 3) := by decide +kernel
theorem dX0_openInputs_9 : decode cX0_openInputs 9 = .ok (.if_icmp .ge 35, 3) := by decide +kernel
theorem dX0_openInputs_12 : decode cX0_openInputs 12 = .ok (.aload_n 0, 1) := by decide +kernel
theorem dX0_openInputs_13 : decode cX0_openInputs 13 = .ok (.getfield 9, 3) := by decide +kernel
theorem dX0_openInputs_16 : decode cX0_openInputs 16 = .ok (.iload_n 3, 1) := by decide +kernel
theorem dX0_openInputs_17 : decode cX0_openInputs 17 = .ok (.iaload, 1) := by decide +kernel
theorem dX0_openInputs_18 : decode cX0_openInputs 18 = .ok (.ifCond .ne 20, 3) := by decide +kernel
theorem dX0_openInputs_21 : decode cX0_openInputs 21 = .ok (.iload_n 1, 1) := by decide +kernel
theorem dX0_openInputs_22 : decode cX0_openInputs 22 = .ok (.ifCond .ne 13, 3) := by decide +kernel
theorem dX0_openInputs_25 : decode cX0_openInputs 25 = .ok (.aload_n 0, 1) := by decide +kernel
theorem dX0_openInputs_26 : decode cX0_openInputs 26 = .ok (.getfield 27, 3) := by decide +kernel
theorem dX0_openInputs_29 : decode cX0_openInputs 29 = .ok (.iload_n 3, 1) := by decide +kernel
theorem dX0_openInputs_30 : decode cX0_openInputs 30 = .ok (.iaload, 1) := by decide +kernel
theorem dX0_openInputs_31 : decode cX0_openInputs 31 = .ok (.iconst 2, 1) := by decide +kernel
theorem dX0_openInputs_32 : decode cX0_openInputs 32 = .ok (.if_icmp .ne 6, 3) := by decide +kernel
theorem dX0_openInputs_35 : decode cX0_openInputs 35 = .ok (.iinc 2 1, 3) := by decide +kernel
theorem dX0_openInputs_38 : decode cX0_openInputs 38 = .ok (.iinc 3 1, 3) := by decide +kernel
theorem dX0_openInputs_41 : decode cX0_openInputs 41 = .ok (.goto (-37), 3) := by decide +kernel
theorem dX0_openInputs_44 : decode cX0_openInputs 44 = .ok (.iload_n 2, 1) := by decide +kernel
theorem dX0_openInputs_45 : decode cX0_openInputs 45 = .ok (.ireturn, 1) := by decide +kernel
theorem dX0_traceSources_0 : decode cX0_traceSources 0 = .ok (.iconst 0, 1) := by decide +kernel
theorem dX0_traceSources_1 : decode cX0_traceSources 1 = .ok (.istore_n 1, 1) := by decide +kernel
theorem dX0_traceSources_2 : decode cX0_traceSources 2 = .ok (.iload_n 1, 1) := by decide +kernel
theorem dX0_traceSources_3 : decode cX0_traceSources 3 = .ok (.aload_n 0, 1) := by decide +kernel
theorem dX0_traceSources_4 : decode cX0_traceSources 4 = .ok (.getfield 48, 3) := by decide +kernel
theorem dX0_traceSources_7 : decode cX0_traceSources 7 = .ok (.if_icmp .ge 97, 3) := by decide +kernel
theorem dX0_traceSources_10 : decode cX0_traceSources 10 = .ok (.aload_n 0, 1) := by decide +kernel
theorem dX0_traceSources_11 : decode cX0_traceSources 11 = .ok (.getfield 9, 3) := by decide +kernel
theorem dX0_traceSources_14 : decode cX0_traceSources 14 = .ok (.iload_n 1, 1) := by decide +kernel
theorem dX0_traceSources_15 : decode cX0_traceSources 15 = .ok (.iaload, 1) := by decide +kernel
theorem dX0_traceSources_16 : decode cX0_traceSources 16 = .ok (.iconst 3, 1) := by decide +kernel
theorem dX0_traceSources_17 : decode cX0_traceSources 17 = .ok (.if_icmp .ne 20, 3) := by decide +kernel
theorem dX0_traceSources_20 : decode cX0_traceSources 20 = .ok (.aload_n 0, 1) := by decide +kernel
theorem dX0_traceSources_21 : decode cX0_traceSources 21 = .ok (.getfield 45, 3) := by decide +kernel
theorem dX0_traceSources_24 : decode cX0_traceSources 24 = .ok (.iload_n 1, 1) := by decide +kernel
theorem dX0_traceSources_25 : decode cX0_traceSources 25 = .ok (.iconst 1, 1) := by decide +kernel
theorem dX0_traceSources_26 : decode cX0_traceSources 26 = .ok (.aload_n 0, 1) := by decide +kernel
theorem dX0_traceSources_27 : decode cX0_traceSources 27 = .ok (.getfield 30, 3) := by decide +kernel
theorem dX0_traceSources_30 : decode cX0_traceSources 30 = .ok (.iload_n 1, 1) := by decide +kernel
theorem dX0_traceSources_31 : decode cX0_traceSources 31 = .ok (.iaload, 1) := by decide +kernel
theorem dX0_traceSources_32 : decode cX0_traceSources 32 = .ok (.ishl, 1) := by decide +kernel
theorem dX0_traceSources_33 : decode cX0_traceSources 33 = .ok (.iastore, 1) := by decide +kernel
theorem dX0_traceSources_34 : decode cX0_traceSources 34 = .ok (.goto 64, 3) := by decide +kernel
theorem dX0_traceSources_37 : decode cX0_traceSources 37 = .ok (.aload_n 0, 1) := by decide +kernel
theorem dX0_traceSources_38 : decode cX0_traceSources 38 = .ok (.getfield 9, 3) := by decide +kernel
theorem dX0_traceSources_41 : decode cX0_traceSources 41 = .ok (.iload_n 1, 1) := by decide +kernel
theorem dX0_traceSources_42 : decode cX0_traceSources 42 = .ok (.iaload, 1) := by decide +kernel
theorem dX0_traceSources_43 : decode cX0_traceSources 43 = .ok (.iconst 2, 1) := by decide +kernel
theorem dX0_traceSources_44 : decode cX0_traceSources 44 = .ok (.if_icmp .ne 47, 3) := by decide +kernel
theorem dX0_traceSources_47 : decode cX0_traceSources 47 = .ok (.aload_n 0, 1) := by decide +kernel
theorem dX0_traceSources_48 : decode cX0_traceSources 48 = .ok (.getfield 45, 3) := by decide +kernel
theorem dX0_traceSources_51 : decode cX0_traceSources 51 = .ok (.iload_n 1, 1) := by decide +kernel
theorem dX0_traceSources_52 : decode cX0_traceSources 52 = .ok (.aload_n 0, 1) := by decide +kernel
theorem dX0_traceSources_53 : decode cX0_traceSources 53 = .ok (.getfield 45, 3) := by decide +kernel
theorem dX0_traceSources_56 : decode cX0_traceSources 56 = .ok (.aload_n 0, 1) := by decide +kernel
theorem dX0_traceSources_57 : decode cX0_traceSources 57 = .ok (.getfield 18, 3) := by decide +kernel
theorem dX0_traceSources_60 : decode cX0_traceSources 60 = .ok (.iload_n 1, 1) := by decide +kernel
theorem dX0_traceSources_61 : decode cX0_traceSources 61 = .ok (.iaload, 1) := by decide +kernel
theorem dX0_traceSources_62 : decode cX0_traceSources 62 = .ok (.iaload, 1) := by decide +kernel
theorem dX0_traceSources_63 : decode cX0_traceSources 63 = .ok (.aload_n 0, 1) := by decide +kernel
theorem dX0_traceSources_64 : decode cX0_traceSources 64 = .ok (.getfield 45, 3) := by decide +kernel
theorem dX0_traceSources_67 : decode cX0_traceSources 67 = .ok (.aload_n 0, 1) := by decide +kernel
theorem dX0_traceSources_68 : decode cX0_traceSources 68 = .ok (.getfield 21, 3) := by decide +kernel
theorem dX0_traceSources_71 : decode cX0_traceSources 71 = .ok (.iload_n 1, 1) := by decide +kernel
theorem dX0_traceSources_72 : decode cX0_traceSources 72 = .ok (.iaload, 1) := by decide +kernel
theorem dX0_traceSources_73 : decode cX0_traceSources 73 = .ok (.iaload, 1) := by decide +kernel
theorem dX0_traceSources_74 : decode cX0_traceSources 74 = .ok (.ior, 1) := by decide +kernel
theorem dX0_traceSources_75 : decode cX0_traceSources 75 = .ok (.aload_n 0, 1) := by decide +kernel
theorem dX0_traceSources_76 : decode cX0_traceSources 76 = .ok (.getfield 45, 3) := by decide +kernel
theorem dX0_traceSources_79 : decode cX0_traceSources 79 = .ok (.aload_n 0, 1) := by decide +kernel
theorem dX0_traceSources_80 : decode cX0_traceSources 80 = .ok (.getfield 24, 3) := by decide +kernel
theorem dX0_traceSources_83 : decode cX0_traceSources 83 = .ok (.iload_n 1, 1) := by decide +kernel
theorem dX0_traceSources_84 : decode cX0_traceSources 84 = .ok (.iaload, 1) := by decide +kernel
theorem dX0_traceSources_85 : decode cX0_traceSources 85 = .ok (.iaload, 1) := by decide +kernel
theorem dX0_traceSources_86 : decode cX0_traceSources 86 = .ok (.ior, 1) := by decide +kernel
theorem dX0_traceSources_87 : decode cX0_traceSources 87 = .ok (.iastore, 1) := by decide +kernel
theorem dX0_traceSources_88 : decode cX0_traceSources 88 = .ok (.goto 10, 3) := by decide +kernel
theorem dX0_traceSources_91 : decode cX0_traceSources 91 = .ok (.aload_n 0, 1) := by decide +kernel
theorem dX0_traceSources_92 : decode cX0_traceSources 92 = .ok (.getfield 45, 3) := by decide +kernel
theorem dX0_traceSources_95 : decode cX0_traceSources 95 = .ok (.iload_n 1, 1) := by decide +kernel
theorem dX0_traceSources_96 : decode cX0_traceSources 96 = .ok (.iconst 0, 1) := by decide +kernel
theorem dX0_traceSources_97 : decode cX0_traceSources 97 = .ok (.iastore, 1) := by decide +kernel
theorem dX0_traceSources_98 : decode cX0_traceSources 98 = .ok (.iinc 1 1, 3) := by decide +kernel
theorem dX0_traceSources_101 : decode cX0_traceSources 101 = .ok (.goto (-99), 3) := by decide +kernel
theorem dX0_traceSources_104 : decode cX0_traceSources 104 = .ok (.return_, 1) := by decide +kernel
theorem dX0_leans_0 : decode cX0_leans 0 = .ok (.aload_n 0, 1) := by decide +kernel
theorem dX0_leans_1 : decode cX0_leans 1 = .ok (.getfield 45, 3) := by decide +kernel
theorem dX0_leans_4 : decode cX0_leans 4 = .ok (.aload_n 0, 1) := by decide +kernel
theorem dX0_leans_5 : decode cX0_leans 5 = .ok (.getfield 42, 3) := by decide +kernel
theorem dX0_leans_8 : decode cX0_leans 8 = .ok (.iload_n 1, 1) := by decide +kernel
theorem dX0_leans_9 : decode cX0_leans 9 = .ok (.iaload, 1) := by decide +kernel
theorem dX0_leans_10 : decode cX0_leans 10 = .ok (.iaload, 1) := by decide +kernel
theorem dX0_leans_11 : decode cX0_leans 11 = .ok (.iload_n 2, 1) := by decide +kernel
theorem dX0_leans_12 : decode cX0_leans 12 = .ok (.ishr, 1) := by decide +kernel
theorem dX0_leans_13 : decode cX0_leans 13 = .ok (.iconst 1, 1) := by decide +kernel
theorem dX0_leans_14 : decode cX0_leans 14 = .ok (.iand, 1) := by decide +kernel
theorem dX0_leans_15 : decode cX0_leans 15 = .ok (.ifCond .eq 7, 3) := by decide +kernel
theorem dX0_leans_18 : decode cX0_leans 18 = .ok (.iconst 1, 1) := by decide +kernel
theorem dX0_leans_19 : decode cX0_leans 19 = .ok (.goto 4, 3) := by decide +kernel
theorem dX0_leans_22 : decode cX0_leans 22 = .ok (.iconst 0, 1) := by decide +kernel
theorem dX0_leans_23 : decode cX0_leans 23 = .ok (.ireturn, 1) := by decide +kernel
set_option maxRecDepth 20000 in
theorem ggX0_crosses_X0_leans : GoodIn wsX0_crosses wsX0_leans := goodIn_r _ [6, 7, 8, 9, 10, 11, 12, 13, 14, 15, 16, 17, 18, 19, 20, 21, 22, 23] (by decide +kernel) (by decide +kernel)
set_option maxRecDepth 20000 in
theorem gX0_crosses_X0_leans : GoodIn wsX0_crosses (wsV RX0 66 RX0 yX0_leans wsX0_leans) := goodIn_app (goodIn_of _ (by decide +kernel)) ggX0_crosses_X0_leans
theorem dX0_crosses_0 : decode cX0_crosses 0 = .ok (.aload_n 0, 1) := by decide +kernel
theorem dX0_crosses_1 : decode cX0_crosses 1 = .ok (.getfield 36, 3) := by decide +kernel
theorem dX0_crosses_4 : decode cX0_crosses 4 = .ok (.iload_n 1, 1) := by decide +kernel
theorem dX0_crosses_5 : decode cX0_crosses 5 = .ok (.iaload, 1) := by decide +kernel
theorem dX0_crosses_6 : decode cX0_crosses 6 = .ok (.aload_n 0, 1) := by decide +kernel
theorem dX0_crosses_7 : decode cX0_crosses 7 = .ok (.getfield 36, 3) := by decide +kernel
theorem dX0_crosses_10 : decode cX0_crosses 10 = .ok (.iload_n 2, 1) := by decide +kernel
theorem dX0_crosses_11 : decode cX0_crosses 11 = .ok (.iaload, 1) := by decide +kernel
theorem dX0_crosses_12 : decode cX0_crosses 12 = .ok (.if_icmp .eq 16, 3) := by decide +kernel
theorem dX0_crosses_15 : decode cX0_crosses 15 = .ok (.aload_n 0, 1) := by decide +kernel
theorem dX0_crosses_16 : decode cX0_crosses 16 = .ok (.iload_n 2, 1) := by decide +kernel
theorem dX0_crosses_17 : decode cX0_crosses 17 = .ok (.iload_n 1, 1) := by decide +kernel
theorem dX0_crosses_18 : decode cX0_crosses 18 = .ok (.invokevirtual 66, 3) := by decide +kernel
theorem dX0_crosses_21 : decode cX0_crosses 21 = .ok (.ifCond .eq 7, 3) := by decide +kernel
theorem dX0_crosses_24 : decode cX0_crosses 24 = .ok (.iconst 1, 1) := by decide +kernel
theorem dX0_crosses_25 : decode cX0_crosses 25 = .ok (.goto 4, 3) := by decide +kernel
theorem dX0_crosses_28 : decode cX0_crosses 28 = .ok (.iconst 0, 1) := by decide +kernel
theorem dX0_crosses_29 : decode cX0_crosses 29 = .ok (.ireturn, 1) := by decide +kernel
theorem dX1_init_0 : decode cX1_init 0 = .ok (.aload_n 0, 1) := by decide +kernel
theorem dX1_init_1 : decode cX1_init 1 = .ok (.invokespecial 3, 3) := by decide +kernel
theorem dX1_init_4 : decode cX1_init 4 = .ok (.aload_n 0, 1) := by decide +kernel
theorem dX1_init_5 : decode cX1_init 5 = .ok (.bipush 16, 2) := by decide +kernel
theorem dX1_init_7 : decode cX1_init 7 = .ok (.newarray .int, 2) := by decide +kernel
theorem dX1_init_9 : decode cX1_init 9 = .ok (.putfield 9, 3) := by decide +kernel
theorem dX1_init_12 : decode cX1_init 12 = .ok (.aload_n 0, 1) := by decide +kernel
theorem dX1_init_13 : decode cX1_init 13 = .ok (.iconst 4, 1) := by decide +kernel
theorem dX1_init_14 : decode cX1_init 14 = .ok (.newarray .int, 2) := by decide +kernel
theorem dX1_init_16 : decode cX1_init 16 = .ok (.putfield 15, 3) := by decide +kernel
theorem dX1_init_19 : decode cX1_init 19 = .ok (.iconst 0, 1) := by decide +kernel
theorem dX1_init_20 : decode cX1_init 20 = .ok (.istore_n 1, 1) := by decide +kernel
theorem dX1_init_21 : decode cX1_init 21 = .ok (.iload_n 1, 1) := by decide +kernel
theorem dX1_init_22 : decode cX1_init 22 = .ok (.bipush 16, 2) := by decide +kernel
theorem dX1_init_24 : decode cX1_init 24 = .ok (.if_icmp .ge 17, 3) := by decide +kernel
theorem dX1_init_27 : decode cX1_init 27 = .ok (.aload_n 0, 1) := by decide +kernel
theorem dX1_init_28 : decode cX1_init 28 = .ok (.getfield 9, 3) := by decide +kernel
theorem dX1_init_31 : decode cX1_init 31 = .ok (.iload_n 1, 1) := by decide +kernel
theorem dX1_init_32 : decode cX1_init 32 = .ok (.bipush (-9), 2) := by decide +kernel
theorem dX1_init_34 : decode cX1_init 34 = .ok (.iastore, 1) := by decide +kernel
theorem dX1_init_35 : decode cX1_init 35 = .ok (.iinc 1 1, 3) := by decide +kernel
theorem dX1_init_38 : decode cX1_init 38 = .ok (.goto (-17), 3) := by decide +kernel
theorem dX1_init_41 : decode cX1_init 41 = .ok (.return_, 1) := by decide +kernel
theorem dX1_change_0 : decode cX1_change 0 = .ok (.aload_n 0, 1) := by decide +kernel
theorem dX1_change_1 : decode cX1_change 1 = .ok (.getfield 9, 3) := by decide +kernel
theorem dX1_change_4 : decode cX1_change 4 = .ok (.iconst 4, 1) := by decide +kernel
theorem dX1_change_5 : decode cX1_change 5 = .ok (.iload_n 1, 1) := by decide +kernel
theorem dX1_change_6 : decode cX1_change 6 = .ok (.imul, 1) := by decide +kernel
theorem dX1_change_7 : decode cX1_change 7 = .ok (.iload_n 2, 1) := by decide +kernel
theorem dX1_change_8 : decode cX1_change 8 = .ok (.iadd, 1) := by decide +kernel
theorem dX1_change_9 : decode cX1_change 9 = .ok (.iaload, 1) := by decide +kernel
theorem dX1_change_10 : decode cX1_change 10 = .ok (.istore 4, 2) := by decide +kernel
theorem dX1_change_12 : decode cX1_change 12 = .ok (.aload_n 0, 1) := by decide +kernel
theorem dX1_change_13 : decode cX1_change 13 = .ok (.getfield 9, 3) := by decide +kernel
theorem dX1_change_16 : decode cX1_change 16 = .ok (.iconst 4, 1) := by decide +kernel
theorem dX1_change_17 : decode cX1_change 17 = .ok (.iload_n 1, 1) := by decide +kernel
theorem dX1_change_18 : decode cX1_change 18 = .ok (.imul, 1) := by decide +kernel
theorem dX1_change_19 : decode cX1_change 19 = .ok (.iload_n 2, 1) := by decide +kernel
theorem dX1_change_20 : decode cX1_change 20 = .ok (.iadd, 1) := by decide +kernel
theorem dX1_change_21 : decode cX1_change 21 = .ok (.iload_n 3, 1) := by decide +kernel
theorem dX1_change_22 : decode cX1_change 22 = .ok (.iastore, 1) := by decide +kernel
theorem dX1_change_23 : decode cX1_change 23 = .ok (.iload 4, 2) := by decide +kernel
theorem dX1_change_25 : decode cX1_change 25 = .ok (.ireturn, 1) := by decide +kernel
theorem dX1_standing_0 : decode cX1_standing 0 = .ok (.iconst 0, 1) := by decide +kernel
theorem dX1_standing_1 : decode cX1_standing 1 = .ok (.istore_n 1, 1) := by decide +kernel
theorem dX1_standing_2 : decode cX1_standing 2 = .ok (.iconst 0, 1) := by decide +kernel
theorem dX1_standing_3 : decode cX1_standing 3 = .ok (.istore_n 2, 1) := by decide +kernel
theorem dX1_standing_4 : decode cX1_standing 4 = .ok (.iload_n 2, 1) := by decide +kernel
theorem dX1_standing_5 : decode cX1_standing 5 = .ok (.bipush 16, 2) := by decide +kernel
theorem dX1_standing_7 : decode cX1_standing 7 = .ok (.if_icmp .ge 23, 3) := by decide +kernel
theorem dX1_standing_10 : decode cX1_standing 10 = .ok (.aload_n 0, 1) := by decide +kernel
theorem dX1_standing_11 : decode cX1_standing 11 = .ok (.getfield 9, 3) := by decide +kernel
theorem dX1_standing_14 : decode cX1_standing 14 = .ok (.iload_n 2, 1) := by decide +kernel
theorem dX1_standing_15 : decode cX1_standing 15 = .ok (.iaload, 1) := by decide +kernel
theorem dX1_standing_16 : decode cX1_standing 16 = .ok (.bipush (-9), 2) := by decide +kernel
theorem dX1_standing_18 : decode cX1_standing 18 = .ok (.if_icmp .eq 6, 3) := by decide +kernel
theorem dX1_standing_21 : decode cX1_standing 21 = .ok (.iinc 1 1, 3) := by decide +kernel
theorem dX1_standing_24 : decode cX1_standing 24 = .ok (.iinc 2 1, 3) := by decide +kernel
theorem dX1_standing_27 : decode cX1_standing 27 = .ok (.goto (-23), 3) := by decide +kernel
theorem dX1_standing_30 : decode cX1_standing 30 = .ok (.iload_n 1, 1) := by decide +kernel
theorem dX1_standing_31 : decode cX1_standing 31 = .ok (.ireturn, 1) := by decide +kernel
set_option maxRecDepth 20000 in
theorem ggX1_reckon_X1_delayAll : GoodIn wsX1_reckon wsX1_delayAll := goodIn_r _ [6, 7, 1, 8, 9] (by decide +kernel) (by decide +kernel)
set_option maxRecDepth 20000 in
theorem gX1_reckon_X1_delayAll : GoodIn wsX1_reckon (wsV RX1 18 RX1 yX1_delayAll wsX1_delayAll) := goodIn_app (goodIn_of _ (by decide +kernel)) ggX1_reckon_X1_delayAll
theorem dX1_reckon_0 : decode cX1_reckon 0 = .ok (.iconst 0, 1) := by decide +kernel
theorem dX1_reckon_1 : decode cX1_reckon 1 = .ok (.istore_n 1, 1) := by decide +kernel
theorem dX1_reckon_2 : decode cX1_reckon 2 = .ok (.iload_n 1, 1) := by decide +kernel
theorem dX1_reckon_3 : decode cX1_reckon 3 = .ok (.iconst 4, 1) := by decide +kernel
theorem dX1_reckon_4 : decode cX1_reckon 4 = .ok (.if_icmp .ge 16, 3) := by decide +kernel
theorem dX1_reckon_7 : decode cX1_reckon 7 = .ok (.aload_n 0, 1) := by decide +kernel
theorem dX1_reckon_8 : decode cX1_reckon 8 = .ok (.getfield 15, 3) := by decide +kernel
theorem dX1_reckon_11 : decode cX1_reckon 11 = .ok (.iload_n 1, 1) := by decide +kernel
theorem dX1_reckon_12 : decode cX1_reckon 12 = .ok (.iconst 0, 1) := by decide +kernel
theorem dX1_reckon_13 : decode cX1_reckon 13 = .ok (.iastore, 1) := by decide +kernel
theorem dX1_reckon_14 : decode cX1_reckon 14 = .ok (.iinc 1 1, 3) := by decide +kernel
theorem dX1_reckon_17 : decode cX1_reckon 17 = .ok (.goto (-15), 3) := by decide +kernel
theorem dX1_reckon_20 : decode cX1_reckon 20 = .ok (.iconst 0, 1) := by decide +kernel
theorem dX1_reckon_21 : decode cX1_reckon 21 = .ok (.istore_n 1, 1) := by decide +kernel
theorem dX1_reckon_22 : decode cX1_reckon 22 = .ok (.iload_n 1, 1) := by decide +kernel
theorem dX1_reckon_23 : decode cX1_reckon 23 = .ok (.iconst 4, 1) := by decide +kernel
theorem dX1_reckon_24 : decode cX1_reckon 24 = .ok (.if_icmp .ge 14, 3) := by decide +kernel
theorem dX1_reckon_27 : decode cX1_reckon 27 = .ok (.aload_n 0, 1) := by decide +kernel
theorem dX1_reckon_28 : decode cX1_reckon 28 = .ok (.iconst 0, 1) := by decide +kernel
theorem dX1_reckon_29 : decode cX1_reckon 29 = .ok (.invokevirtual 18, 3) := by decide +kernel
theorem dX1_reckon_32 : decode cX1_reckon 32 = .ok (.iinc 1 1, 3) := by decide +kernel
theorem dX1_reckon_35 : decode cX1_reckon 35 = .ok (.goto (-13), 3) := by decide +kernel
theorem dX1_reckon_38 : decode cX1_reckon 38 = .ok (.iconst 0, 1) := by decide +kernel
theorem dX1_reckon_39 : decode cX1_reckon 39 = .ok (.istore_n 1, 1) := by decide +kernel
theorem dX1_reckon_40 : decode cX1_reckon 40 = .ok (.iload_n 1, 1) := by decide +kernel
theorem dX1_reckon_41 : decode cX1_reckon 41 = .ok (.iconst 4, 1) := by decide +kernel
theorem dX1_reckon_42 : decode cX1_reckon 42 = .ok (.if_icmp .ge 14, 3) := by decide +kernel
theorem dX1_reckon_45 : decode cX1_reckon 45 = .ok (.aload_n 0, 1) := by decide +kernel
theorem dX1_reckon_46 : decode cX1_reckon 46 = .ok (.iconst 1, 1) := by decide +kernel
theorem dX1_reckon_47 : decode cX1_reckon 47 = .ok (.invokevirtual 18, 3) := by decide +kernel
theorem dX1_reckon_50 : decode cX1_reckon 50 = .ok (.iinc 1 1, 3) := by decide +kernel
theorem dX1_reckon_53 : decode cX1_reckon 53 = .ok (.goto (-13), 3) := by decide +kernel
theorem dX1_reckon_56 : decode cX1_reckon 56 = .ok (.return_, 1) := by decide +kernel
theorem dX1_delayAll_0 : decode cX1_delayAll 0 = .ok (.iconst 0, 1) := by decide +kernel
theorem dX1_delayAll_1 : decode cX1_delayAll 1 = .ok (.istore_n 2, 1) := by decide +kernel
theorem dX1_delayAll_2 : decode cX1_delayAll 2 = .ok (.iload_n 2, 1) := by decide +kernel
theorem dX1_delayAll_3 : decode cX1_delayAll 3 = .ok (.iconst 4, 1) := by decide +kernel
theorem dX1_delayAll_4 : decode cX1_delayAll 4 = .ok (.if_icmp .ge 119, 3) := by decide +kernel
theorem dX1_delayAll_7 : decode cX1_delayAll 7 = .ok (.iconst 0, 1) := by decide +kernel
theorem dX1_delayAll_8 : decode cX1_delayAll 8 = .ok (.istore_n 3, 1) := by decide +kernel
theorem dX1_delayAll_9 : decode cX1_delayAll 9 = .ok (.iload_n 3, 1) := by decide +kernel
theorem dX1_delayAll_10 : decode cX1_delayAll 10 = .ok (.iconst 4, 1) := by decide +kernel
theorem dX1_delayAll_11 : decode cX1_delayAll 11 = .ok (.if_icmp .ge 106, 3) := by decide +kernel
theorem dX1_delayAll_14 : decode cX1_delayAll 14 = .ok (.aload_n 0, 1) := by decide +kernel
theorem dX1_delayAll_15 : decode cX1_delayAll 15 = .ok (.getfield 9, 3) := by decide +kernel
theorem dX1_delayAll_18 : decode cX1_delayAll 18 = .ok (.iconst 4, 1) := by decide +kernel
theorem dX1_delayAll_19 : decode cX1_delayAll 19 = .ok (.iload_n 2, 1) := by decide +kernel
theorem dX1_delayAll_20 : decode cX1_delayAll 20 = .ok (.imul, 1) := by decide +kernel
theorem dX1_delayAll_21 : decode cX1_delayAll 21 = .ok (.iload_n 3, 1) := by decide +kernel
theorem dX1_delayAll_22 : decode cX1_delayAll 22 = .ok (.iadd, 1) := by decide +kernel
theorem dX1_delayAll_23 : decode cX1_delayAll 23 = .ok (.iaload, 1) := by decide +kernel
theorem dX1_delayAll_24 : decode cX1_delayAll 24 = .ok (.istore 4, 2) := by decide +kernel
theorem dX1_delayAll_26 : decode cX1_delayAll 26 = .ok (.iload 4, 2) := by decide +kernel
theorem dX1_delayAll_28 : decode cX1_delayAll 28 = .ok (.bipush (-9), 2) := by decide +kernel
theorem dX1_delayAll_30 : decode cX1_delayAll 30 = .ok (.if_icmp .eq 81, 3) := by decide +kernel
theorem dX1_delayAll_33 : decode cX1_delayAll 33 = .ok (.aload_n 0, 1) := by decide +kernel
theorem dX1_delayAll_34 : decode cX1_delayAll 34 = .ok (.getfield 15, 3) := by decide +kernel
theorem dX1_delayAll_37 : decode cX1_delayAll 37 = .ok (.iload_n 2, 1) := by decide +kernel
theorem dX1_delayAll_38 : decode cX1_delayAll 38 = .ok (.iaload, 1) := by decide +kernel
theorem dX1_delayAll_39 : decode cX1_delayAll 39 = .ok (.bipush (-9), 2) := by decide +kernel
theorem dX1_delayAll_41 : decode cX1_delayAll 41 = .ok (.if_icmp .ne 6, 3) := by decide +kernel
theorem dX1_delayAll_44 : decode cX1_delayAll 44 = .ok (.goto 67, 3) := by decide +kernel
theorem dX1_delayAll_47 : decode cX1_delayAll 47 = .ok (.aload_n 0, 1) := by decide +kernel
theorem dX1_delayAll_48 : decode cX1_delayAll 48 = .ok (.getfield 15, 3) := by decide +kernel
theorem dX1_delayAll_51 : decode cX1_delayAll 51 = .ok (.iload_n 3, 1) := by decide +kernel
theorem dX1_delayAll_52 : decode cX1_delayAll 52 = .ok (.iaload, 1) := by decide +kernel
theorem dX1_delayAll_53 : decode cX1_delayAll 53 = .ok (.bipush (-9), 2) := by decide +kernel
theorem dX1_delayAll_55 : decode cX1_delayAll 55 = .ok (.if_icmp .ne 14, 3) := by decide +kernel
theorem dX1_delayAll_58 : decode cX1_delayAll 58 = .ok (.aload_n 0, 1) := by decide +kernel
theorem dX1_delayAll_59 : decode cX1_delayAll 59 = .ok (.getfield 15, 3) := by decide +kernel
theorem dX1_delayAll_62 : decode cX1_delayAll 62 = .ok (.iload_n 2, 1) := by decide +kernel
theorem dX1_delayAll_63 : decode cX1_delayAll 63 = .ok (.bipush (-9), 2) := by decide +kernel
theorem dX1_delayAll_65 : decode cX1_delayAll 65 = .ok (.iastore, 1) := by decide +kernel
theorem dX1_delayAll_66 : decode cX1_delayAll 66 = .ok (.goto 45, 3) := by decide +kernel
theorem dX1_delayAll_69 : decode cX1_delayAll 69 = .ok (.aload_n 0, 1) := by decide +kernel
theorem dX1_delayAll_70 : decode cX1_delayAll 70 = .ok (.getfield 15, 3) := by decide +kernel
theorem dX1_delayAll_73 : decode cX1_delayAll 73 = .ok (.iload_n 3, 1) := by decide +kernel
theorem dX1_delayAll_74 : decode cX1_delayAll 74 = .ok (.iaload, 1) := by decide +kernel
theorem dX1_delayAll_75 : decode cX1_delayAll 75 = .ok (.iload 4, 2) := by decide +kernel
theorem dX1_delayAll_77 : decode cX1_delayAll 77 = .ok (.iadd, 1) := by decide +kernel
theorem dX1_delayAll_78 : decode cX1_delayAll 78 = .ok (.aload_n 0, 1) := by decide +kernel
theorem dX1_delayAll_79 : decode cX1_delayAll 79 = .ok (.getfield 15, 3) := by decide +kernel
theorem dX1_delayAll_82 : decode cX1_delayAll 82 = .ok (.iload_n 2, 1) := by decide +kernel
theorem dX1_delayAll_83 : decode cX1_delayAll 83 = .ok (.iaload, 1) := by decide +kernel
theorem dX1_delayAll_84 : decode cX1_delayAll 84 = .ok (.if_icmp .le 27, 3) := by decide +kernel
theorem dX1_delayAll_87 : decode cX1_delayAll 87 = .ok (.aload_n 0, 1) := by decide +kernel
theorem dX1_delayAll_88 : decode cX1_delayAll 88 = .ok (.getfield 15, 3) := by decide +kernel
theorem dX1_delayAll_91 : decode cX1_delayAll 91 = .ok (.iload_n 2, 1) := by decide +kernel
theorem dX1_delayAll_92 : decode cX1_delayAll 92 = .ok (.iload_n 1, 1) := by decide +kernel
theorem dX1_delayAll_93 : decode cX1_delayAll 93 = .ok (.ifCond .eq 8, 3) := by decide +kernel
theorem dX1_delayAll_96 : decode cX1_delayAll 96 = .ok (.bipush (-9), 2) := by decide +kernel
theorem dX1_delayAll_98 : decode cX1_delayAll 98 = .ok (.goto 12, 3) := by decide +kernel
theorem dX1_delayAll_101 : decode cX1_delayAll 101 = .ok (.aload_n 0, 1) := by decide +kernel
theorem dX1_delayAll_102 : decode cX1_delayAll 102 = .ok (.getfield 15, 3) := by decide +kernel
theorem dX1_delayAll_105 : decode cX1_delayAll 105 = .ok (.iload_n 3, 1) := by decide +kernel
theorem dX1_delayAll_106 : decode cX1_delayAll 106 = .ok (.iaload, 1) := by decide +kernel
theorem dX1_delayAll_107 : decode cX1_delayAll 107 = .ok (.iload 4, 2) := by decide +kernel
theorem dX1_delayAll_109 : decode cX1_delayAll 109 = .ok (.iadd, 1) := by decide +kernel
theorem dX1_delayAll_110 : decode cX1_delayAll 110 = .ok (.iastore, 1) := by decide +kernel
theorem dX1_delayAll_111 : decode cX1_delayAll 111 = .ok (.iinc 3 1, 3) := by decide +kernel
theorem dX1_delayAll_114 : decode cX1_delayAll 114 = .ok (.goto (-105), 3) := by decide +kernel
theorem dX1_delayAll_117 : decode cX1_delayAll 117 = .ok (.iinc 2 1, 3) := by decide +kernel
theorem dX1_delayAll_120 : decode cX1_delayAll 120 = .ok (.goto (-118), 3) := by decide +kernel
theorem dX1_delayAll_123 : decode cX1_delayAll 123 = .ok (.return_, 1) := by decide +kernel
theorem dX2_init_0 : decode cX2_init 0 = .ok (.aload_n 0, 1) := by decide +kernel
theorem dX2_init_1 : decode cX2_init 1 = .ok (.invokespecial 3, 3) := by decide +kernel
theorem dX2_init_4 : decode cX2_init 4 = .ok (.aload_n 0, 1) := by decide +kernel
theorem dX2_init_5 : decode cX2_init 5 = .ok (.bipush 32, 2) := by decide +kernel
theorem dX2_init_7 : decode cX2_init 7 = .ok (.newarray .int, 2) := by decide +kernel
theorem dX2_init_9 : decode cX2_init 9 = .ok (.putfield 9, 3) := by decide +kernel
theorem dX2_init_12 : decode cX2_init 12 = .ok (.aload_n 0, 1) := by decide +kernel
theorem dX2_init_13 : decode cX2_init 13 = .ok (.bipush 6, 2) := by decide +kernel
theorem dX2_init_15 : decode cX2_init 15 = .ok (.newarray .int, 2) := by decide +kernel
theorem dX2_init_17 : decode cX2_init 17 = .ok (.putfield 15, 3) := by decide +kernel
theorem dX2_init_20 : decode cX2_init 20 = .ok (.aload_n 0, 1) := by decide +kernel
theorem dX2_init_21 : decode cX2_init 21 = .ok (.aload_n 1, 1) := by decide +kernel
theorem dX2_init_22 : decode cX2_init 22 = .ok (.putfield 18, 3) := by decide +kernel
theorem dX2_init_25 : decode cX2_init 25 = .ok (.return_, 1) := by decide +kernel
theorem dX2_forget_0 : decode cX2_forget 0 = .ok (.iconst 0, 1) := by decide +kernel
theorem dX2_forget_1 : decode cX2_forget 1 = .ok (.istore_n 1, 1) := by decide +kernel
theorem dX2_forget_2 : decode cX2_forget 2 = .ok (.iload_n 1, 1) := by decide +kernel
theorem dX2_forget_3 : decode cX2_forget 3 = .ok (.bipush 6, 2) := by decide +kernel
theorem dX2_forget_5 : decode cX2_forget 5 = .ok (.if_icmp .ge 16, 3) := by decide +kernel
theorem dX2_forget_8 : decode cX2_forget 8 = .ok (.aload_n 0, 1) := by decide +kernel
theorem dX2_forget_9 : decode cX2_forget 9 = .ok (.getfield 15, 3) := by decide +kernel
theorem dX2_forget_12 : decode cX2_forget 12 = .ok (.iload_n 1, 1) := by decide +kernel
theorem dX2_forget_13 : decode cX2_forget 13 = .ok (.iconst 2, 1) := by decide +kernel
theorem dX2_forget_14 : decode cX2_forget 14 = .ok (.iastore, 1) := by decide +kernel
theorem dX2_forget_15 : decode cX2_forget 15 = .ok (.iinc 1 1, 3) := by decide +kernel
theorem dX2_forget_18 : decode cX2_forget 18 = .ok (.goto (-16), 3) := by decide +kernel
theorem dX2_forget_21 : decode cX2_forget 21 = .ok (.return_, 1) := by decide +kernel
set_option maxRecDepth 20000 in
theorem ggX2_tellAll_X2_gateTells : GoodIn wsX2_tellAll wsX2_gateTells := goodIn_r _ [12, 4, 1, 13, 14, 15, 16, 17, 18, 19, 20, 21, 22, 11, 23, 24, 25, 26, 27, 28, 29, 30, 31, 32, 33, 34, 35, 36, 37, 38, 39, 40, 41] (by decide +kernel) (by decide +kernel)
set_option maxRecDepth 20000 in
theorem gX2_tellAll_X2_gateTells : GoodIn wsX2_tellAll (wsV RX2 31 RX2 yX2_gateTells wsX2_gateTells) := goodIn_app (goodIn_of _ (by decide +kernel)) ggX2_tellAll_X2_gateTells
theorem dX2_tellAll_0 : decode cX2_tellAll 0 = .ok (.iconst 0, 1) := by decide +kernel
theorem dX2_tellAll_1 : decode cX2_tellAll 1 = .ok (.istore_n 1, 1) := by decide +kernel
theorem dX2_tellAll_2 : decode cX2_tellAll 2 = .ok (.iload_n 1, 1) := by decide +kernel
theorem dX2_tellAll_3 : decode cX2_tellAll 3 = .ok (.aload_n 0, 1) := by decide +kernel
theorem dX2_tellAll_4 : decode cX2_tellAll 4 = .ok (.getfield 18, 3) := by decide +kernel
theorem dX2_tellAll_7 : decode cX2_tellAll 7 = .ok (.getfield 22, 3) := by decide +kernel
theorem dX2_tellAll_10 : decode cX2_tellAll 10 = .ok (.if_icmp .ge 96, 3) := by decide +kernel
theorem dX2_tellAll_13 : decode cX2_tellAll 13 = .ok (.aload_n 0, 1) := by decide +kernel
theorem dX2_tellAll_14 : decode cX2_tellAll 14 = .ok (.getfield 18, 3) := by decide +kernel
theorem dX2_tellAll_17 : decode cX2_tellAll 17 = .ok (.getfield 28, 3) := by decide +kernel
theorem dX2_tellAll_20 : decode cX2_tellAll 20 = .ok (.iload_n 1, 1) := by decide +kernel
theorem dX2_tellAll_21 : decode cX2_tellAll 21 = .ok (.iaload, 1) := by decide +kernel
theorem dX2_tellAll_22 : decode cX2_tellAll 22 = .ok (.lookupswitch 63 #[(2, 26), (3, 40)], 26) := by decide +kernel
theorem dX2_tellAll_48 : decode cX2_tellAll 48 = .ok (.aload_n 0, 1) := by decide +kernel
theorem dX2_tellAll_49 : decode cX2_tellAll 49 = .ok (.getfield 9, 3) := by decide +kernel
theorem dX2_tellAll_52 : decode cX2_tellAll 52 = .ok (.iload_n 1, 1) := by decide +kernel
theorem dX2_tellAll_53 : decode cX2_tellAll 53 = .ok (.aload_n 0, 1) := by decide +kernel
theorem dX2_tellAll_54 : decode cX2_tellAll 54 = .ok (.iload_n 1, 1) := by decide +kernel
theorem dX2_tellAll_55 : decode cX2_tellAll 55 = .ok (.invokevirtual 31, 3) := by decide +kernel
theorem dX2_tellAll_58 : decode cX2_tellAll 58 = .ok (.iastore, 1) := by decide +kernel
theorem dX2_tellAll_59 : decode cX2_tellAll 59 = .ok (.goto 41, 3) := by decide +kernel
theorem dX2_tellAll_62 : decode cX2_tellAll 62 = .ok (.aload_n 0, 1) := by decide +kernel
theorem dX2_tellAll_63 : decode cX2_tellAll 63 = .ok (.getfield 9, 3) := by decide +kernel
theorem dX2_tellAll_66 : decode cX2_tellAll 66 = .ok (.iload_n 1, 1) := by decide +kernel
theorem dX2_tellAll_67 : decode cX2_tellAll 67 = .ok (.aload_n 0, 1) := by decide +kernel
theorem dX2_tellAll_68 : decode cX2_tellAll 68 = .ok (.getfield 15, 3) := by decide +kernel
theorem dX2_tellAll_71 : decode cX2_tellAll 71 = .ok (.aload_n 0, 1) := by decide +kernel
theorem dX2_tellAll_72 : decode cX2_tellAll 72 = .ok (.getfield 18, 3) := by decide +kernel
theorem dX2_tellAll_75 : decode cX2_tellAll 75 = .ok (.getfield 35, 3) := by decide +kernel
theorem dX2_tellAll_78 : decode cX2_tellAll 78 = .ok (.iload_n 1, 1) := by decide +kernel
theorem dX2_tellAll_79 : decode cX2_tellAll 79 = .ok (.iaload, 1) := by decide +kernel
theorem dX2_tellAll_80 : decode cX2_tellAll 80 = .ok (.iaload, 1) := by decide +kernel
theorem dX2_tellAll_81 : decode cX2_tellAll 81 = .ok (.iastore, 1) := by decide +kernel
theorem dX2_tellAll_82 : decode cX2_tellAll 82 = .ok (.goto 18, 3) := by decide +kernel
theorem dX2_tellAll_85 : decode cX2_tellAll 85 = .ok (.aload_n 0, 1) := by decide +kernel
theorem dX2_tellAll_86 : decode cX2_tellAll 86 = .ok (.getfield 9, 3) := by decide +kernel
theorem dX2_tellAll_89 : decode cX2_tellAll 89 = .ok (.iload_n 1, 1) := by decide +kernel
theorem dX2_tellAll_90 : decode cX2_tellAll 90 = .ok (.aload_n 0, 1) := by decide +kernel
theorem dX2_tellAll_91 : decode cX2_tellAll 91 = .ok (.getfield 18, 3) := by decide +kernel
theorem dX2_tellAll_94 : decode cX2_tellAll 94 = .ok (.getfield 38, 3) := by decide +kernel
theorem dX2_tellAll_97 : decode cX2_tellAll 97 = .ok (.iload_n 1, 1) := by decide +kernel
theorem dX2_tellAll_98 : decode cX2_tellAll 98 = .ok (.iaload, 1) := by decide +kernel
theorem dX2_tellAll_99 : decode cX2_tellAll 99 = .ok (.iastore, 1) := by decide +kernel
theorem dX2_tellAll_100 : decode cX2_tellAll 100 = .ok (.iinc 1 1, 3) := by decide +kernel
theorem dX2_tellAll_103 : decode cX2_tellAll 103 = .ok (.goto (-101), 3) := by decide +kernel
theorem dX2_tellAll_106 : decode cX2_tellAll 106 = .ok (.return_, 1) := by decide +kernel
set_option maxRecDepth 20000 in
theorem ggX2_gateTells_X2_choiceTells : GoodIn wsX2_gateTells wsX2_choiceTells := goodIn_r _ [14] (by decide +kernel) (by decide +kernel)
set_option maxRecDepth 20000 in
theorem gX2_gateTells_X2_choiceTells : GoodIn wsX2_gateTells (va_wsS RX2 59 yX2_choiceTells wsX2_choiceTells) := goodIn_app (goodIn_of _ (by decide +kernel)) ggX2_gateTells_X2_choiceTells
theorem dX2_gateTells_0 : decode cX2_gateTells 0 = .ok (.aload_n 0, 1) := by decide +kernel
theorem dX2_gateTells_1 : decode cX2_gateTells 1 = .ok (.getfield 9, 3) := by decide +kernel
theorem dX2_gateTells_4 : decode cX2_gateTells 4 = .ok (.aload_n 0, 1) := by decide +kernel
theorem dX2_gateTells_5 : decode cX2_gateTells 5 = .ok (.getfield 18, 3) := by decide +kernel
theorem dX2_gateTells_8 : decode cX2_gateTells 8 = .ok (.getfield 41, 3) := by decide +kernel
theorem dX2_gateTells_11 : decode cX2_gateTells 11 = .ok (.iload_n 1, 1) := by decide +kernel
theorem dX2_gateTells_12 : decode cX2_gateTells 12 = .ok (.iaload, 1) := by decide +kernel
theorem dX2_gateTells_13 : decode cX2_gateTells 13 = .ok (.iaload, 1) := by decide +kernel
theorem dX2_gateTells_14 : decode cX2_gateTells 14 = .ok (.istore_n 2, 1) := by decide +kernel
theorem dX2_gateTells_15 : decode cX2_gateTells 15 = .ok (.aload_n 0, 1) := by decide +kernel
theorem dX2_gateTells_16 : decode cX2_gateTells 16 = .ok (.getfield 9, 3) := by decide +kernel
theorem dX2_gateTells_19 : decode cX2_gateTells 19 = .ok (.aload_n 0, 1) := by decide +kernel
theorem dX2_gateTells_20 : decode cX2_gateTells 20 = .ok (.getfield 18, 3) := by decide +kernel
theorem dX2_gateTells_23 : decode cX2_gateTells 23 = .ok (.getfield 44, 3) := by decide +kernel
theorem dX2_gateTells_26 : decode cX2_gateTells 26 = .ok (.iload_n 1, 1) := by decide +kernel
theorem dX2_gateTells_27 : decode cX2_gateTells 27 = .ok (.iaload, 1) := by decide +kernel
theorem dX2_gateTells_28 : decode cX2_gateTells 28 = .ok (.iaload, 1) := by decide +kernel
theorem dX2_gateTells_29 : decode cX2_gateTells 29 = .ok (.istore_n 3, 1) := by decide +kernel
theorem dX2_gateTells_30 : decode cX2_gateTells 30 = .ok (.aload_n 0, 1) := by decide +kernel
theorem dX2_gateTells_31 : decode cX2_gateTells 31 = .ok (.getfield 9, 3) := by decide +kernel
theorem dX2_gateTells_34 : decode cX2_gateTells 34 = .ok (.aload_n 0, 1) := by decide +kernel
theorem dX2_gateTells_35 : decode cX2_gateTells 35 = .ok (.getfield 18, 3) := by decide +kernel
theorem dX2_gateTells_38 : decode cX2_gateTells 38 = .ok (.getfield 47, 3) := by decide +kernel
theorem dX2_gateTells_41 : decode cX2_gateTells 41 = .ok (.iload_n 1, 1) := by decide +kernel
theorem dX2_gateTells_42 : decode cX2_gateTells 42 = .ok (.iaload, 1) := by decide +kernel
theorem dX2_gateTells_43 : decode cX2_gateTells 43 = .ok (.iaload, 1) := by decide +kernel
theorem dX2_gateTells_44 : decode cX2_gateTells 44 = .ok (.istore 4, 2) := by decide +kernel
theorem dX2_gateTells_46 : decode cX2_gateTells 46 = .ok (.aload_n 0, 1) := by decide +kernel
theorem dX2_gateTells_47 : decode cX2_gateTells 47 = .ok (.getfield 18, 3) := by decide +kernel
theorem dX2_gateTells_50 : decode cX2_gateTells 50 = .ok (.getfield 50, 3) := by decide +kernel
theorem dX2_gateTells_53 : decode cX2_gateTells 53 = .ok (.iload_n 1, 1) := by decide +kernel
theorem dX2_gateTells_54 : decode cX2_gateTells 54 = .ok (.iaload, 1) := by decide +kernel
theorem dX2_gateTells_55 : decode cX2_gateTells 55 = .ok (.tableswitch 98 0 3 #[29, 42, 60, 80], 29) := by decide +kernel
theorem dX2_gateTells_84 : decode cX2_gateTells 84 = .ok (.iload_n 2, 1) := by decide +kernel
theorem dX2_gateTells_85 : decode cX2_gateTells 85 = .ok (.iconst 2, 1) := by decide +kernel
theorem dX2_gateTells_86 : decode cX2_gateTells 86 = .ok (.if_icmp .ne 7, 3) := by decide +kernel
theorem dX2_gateTells_89 : decode cX2_gateTells 89 = .ok (.iconst 2, 1) := by decide +kernel
theorem dX2_gateTells_90 : decode cX2_gateTells 90 = .ok (.goto 6, 3) := by decide +kernel
theorem dX2_gateTells_93 : decode cX2_gateTells 93 = .ok (.iconst 1, 1) := by decide +kernel
theorem dX2_gateTells_94 : decode cX2_gateTells 94 = .ok (.iload_n 2, 1) := by decide +kernel
theorem dX2_gateTells_95 : decode cX2_gateTells 95 = .ok (.isub, 1) := by decide +kernel
theorem dX2_gateTells_96 : decode cX2_gateTells 96 = .ok (.ireturn, 1) := by decide +kernel
theorem dX2_gateTells_97 : decode cX2_gateTells 97 = .ok (.iload_n 2, 1) := by decide +kernel
theorem dX2_gateTells_98 : decode cX2_gateTells 98 = .ok (.ifCond .eq 7, 3) := by decide +kernel
theorem dX2_gateTells_101 : decode cX2_gateTells 101 = .ok (.iload_n 3, 1) := by decide +kernel
theorem dX2_gateTells_102 : decode cX2_gateTells 102 = .ok (.ifCond .ne 7, 3) := by decide +kernel
theorem dX2_gateTells_105 : decode cX2_gateTells 105 = .ok (.iconst 0, 1) := by decide +kernel
theorem dX2_gateTells_106 : decode cX2_gateTells 106 = .ok (.goto 8, 3) := by decide +kernel
theorem dX2_gateTells_109 : decode cX2_gateTells 109 = .ok (.iload_n 2, 1) := by decide +kernel
theorem dX2_gateTells_110 : decode cX2_gateTells 110 = .ok (.iload_n 3, 1) := by decide +kernel
theorem dX2_gateTells_111 : decode cX2_gateTells 111 = .ok (.invokestatic 53, 3) := by decide +kernel
theorem dX2_gateTells_114 : decode cX2_gateTells 114 = .ok (.ireturn, 1) := by decide +kernel
theorem dX2_gateTells_115 : decode cX2_gateTells 115 = .ok (.iload_n 2, 1) := by decide +kernel
theorem dX2_gateTells_116 : decode cX2_gateTells 116 = .ok (.iconst 1, 1) := by decide +kernel
theorem dX2_gateTells_117 : decode cX2_gateTells 117 = .ok (.if_icmp .eq 8, 3) := by decide +kernel
theorem dX2_gateTells_120 : decode cX2_gateTells 120 = .ok (.iload_n 3, 1) := by decide +kernel
theorem dX2_gateTells_121 : decode cX2_gateTells 121 = .ok (.iconst 1, 1) := by decide +kernel
theorem dX2_gateTells_122 : decode cX2_gateTells 122 = .ok (.if_icmp .ne 7, 3) := by decide +kernel
theorem dX2_gateTells_125 : decode cX2_gateTells 125 = .ok (.iconst 1, 1) := by decide +kernel
theorem dX2_gateTells_126 : decode cX2_gateTells 126 = .ok (.goto 8, 3) := by decide +kernel
theorem dX2_gateTells_129 : decode cX2_gateTells 129 = .ok (.iload_n 2, 1) := by decide +kernel
theorem dX2_gateTells_130 : decode cX2_gateTells 130 = .ok (.iload_n 3, 1) := by decide +kernel
theorem dX2_gateTells_131 : decode cX2_gateTells 131 = .ok (.invokestatic 53, 3) := by decide +kernel
theorem dX2_gateTells_134 : decode cX2_gateTells 134 = .ok (.ireturn, 1) := by decide +kernel
theorem dX2_gateTells_135 : decode cX2_gateTells 135 = .ok (.iload_n 2, 1) := by decide +kernel
theorem dX2_gateTells_136 : decode cX2_gateTells 136 = .ok (.iconst 2, 1) := by decide +kernel
theorem dX2_gateTells_137 : decode cX2_gateTells 137 = .ok (.if_icmp .eq 8, 3) := by decide +kernel
theorem dX2_gateTells_140 : decode cX2_gateTells 140 = .ok (.iload_n 3, 1) := by decide +kernel
theorem dX2_gateTells_141 : decode cX2_gateTells 141 = .ok (.iconst 2, 1) := by decide +kernel
theorem dX2_gateTells_142 : decode cX2_gateTells 142 = .ok (.if_icmp .ne 7, 3) := by decide +kernel
theorem dX2_gateTells_145 : decode cX2_gateTells 145 = .ok (.iconst 2, 1) := by decide +kernel
theorem dX2_gateTells_146 : decode cX2_gateTells 146 = .ok (.goto 6, 3) := by decide +kernel
theorem dX2_gateTells_149 : decode cX2_gateTells 149 = .ok (.iload_n 2, 1) := by decide +kernel
theorem dX2_gateTells_150 : decode cX2_gateTells 150 = .ok (.iload_n 3, 1) := by decide +kernel
theorem dX2_gateTells_151 : decode cX2_gateTells 151 = .ok (.ixor, 1) := by decide +kernel
theorem dX2_gateTells_152 : decode cX2_gateTells 152 = .ok (.ireturn, 1) := by decide +kernel
theorem dX2_gateTells_153 : decode cX2_gateTells 153 = .ok (.iload_n 2, 1) := by decide +kernel
theorem dX2_gateTells_154 : decode cX2_gateTells 154 = .ok (.iload_n 3, 1) := by decide +kernel
theorem dX2_gateTells_155 : decode cX2_gateTells 155 = .ok (.iload 4, 2) := by decide +kernel
theorem dX2_gateTells_157 : decode cX2_gateTells 157 = .ok (.invokestatic 59, 3) := by decide +kernel
theorem dX2_gateTells_160 : decode cX2_gateTells 160 = .ok (.ireturn, 1) := by decide +kernel
theorem dX2_choiceTells_0 : decode cX2_choiceTells 0 = .ok (.iload_n 0, 1) := by decide +kernel
theorem dX2_choiceTells_1 : decode cX2_choiceTells 1 = .ok (.iconst 2, 1) := by decide +kernel
theorem dX2_choiceTells_2 : decode cX2_choiceTells 2 = .ok (.if_icmp .ne 14, 3) := by decide +kernel
theorem dX2_choiceTells_5 : decode cX2_choiceTells 5 = .ok (.iload_n 1, 1) := by decide +kernel
theorem dX2_choiceTells_6 : decode cX2_choiceTells 6 = .ok (.iload_n 2, 1) := by decide +kernel
theorem dX2_choiceTells_7 : decode cX2_choiceTells 7 = .ok (.if_icmp .ne 7, 3) := by decide +kernel
theorem dX2_choiceTells_10 : decode cX2_choiceTells 10 = .ok (.iload_n 1, 1) := by decide +kernel
theorem dX2_choiceTells_11 : decode cX2_choiceTells 11 = .ok (.goto 4, 3) := by decide +kernel
theorem dX2_choiceTells_14 : decode cX2_choiceTells 14 = .ok (.iconst 2, 1) := by decide +kernel
theorem dX2_choiceTells_15 : decode cX2_choiceTells 15 = .ok (.ireturn, 1) := by decide +kernel
theorem dX2_choiceTells_16 : decode cX2_choiceTells 16 = .ok (.iload_n 0, 1) := by decide +kernel
theorem dX2_choiceTells_17 : decode cX2_choiceTells 17 = .ok (.iconst 1, 1) := by decide +kernel
theorem dX2_choiceTells_18 : decode cX2_choiceTells 18 = .ok (.if_icmp .ne 7, 3) := by decide +kernel
theorem dX2_choiceTells_21 : decode cX2_choiceTells 21 = .ok (.iload_n 1, 1) := by decide +kernel
theorem dX2_choiceTells_22 : decode cX2_choiceTells 22 = .ok (.goto 4, 3) := by decide +kernel
theorem dX2_choiceTells_25 : decode cX2_choiceTells 25 = .ok (.iload_n 2, 1) := by decide +kernel
theorem dX2_choiceTells_26 : decode cX2_choiceTells 26 = .ok (.ireturn, 1) := by decide +kernel
set_option maxRecDepth 20000 in
theorem ggX2_pass_X2_tellAll : GoodIn wsX2_pass wsX2_tellAll := goodIn_r _ [11, 1, 12, 13, 5, 3, 14, 15, 16, 17, 18, 10, 19, 20, 21, 22, 23, 24, 25, 26, 27, 28, 29, 30, 31, 32, 33, 34, 35, 36, 37, 38, 39, 40, 41, 42, 43, 44, 45, 46, 47, 48] (by decide +kernel) (by decide +kernel)
set_option maxRecDepth 20000 in
theorem gX2_pass_X2_tellAll : GoodIn wsX2_pass (wsV RX2 63 RX2 yX2_tellAll wsX2_tellAll) := goodIn_app (goodIn_of _ (by decide +kernel)) ggX2_pass_X2_tellAll
theorem dX2_pass_0 : decode cX2_pass 0 = .ok (.aload_n 0, 1) := by decide +kernel
theorem dX2_pass_1 : decode cX2_pass 1 = .ok (.invokevirtual 63, 3) := by decide +kernel
theorem dX2_pass_4 : decode cX2_pass 4 = .ok (.iconst 0, 1) := by decide +kernel
theorem dX2_pass_5 : decode cX2_pass 5 = .ok (.istore_n 2, 1) := by decide +kernel
theorem dX2_pass_6 : decode cX2_pass 6 = .ok (.iload_n 2, 1) := by decide +kernel
theorem dX2_pass_7 : decode cX2_pass 7 = .ok (.aload_n 0, 1) := by decide +kernel
theorem dX2_pass_8 : decode cX2_pass 8 = .ok (.getfield 18, 3) := by decide +kernel
theorem dX2_pass_11 : decode cX2_pass 11 = .ok (.getfield 66, 3) := by decide +kernel
theorem dX2_pass_14 : decode cX2_pass 14 = .ok (.if_icmp .ge 59, 3) := by decide +kernel
theorem dX2_pass_17 : decode cX2_pass 17 = .ok (.iload_n 1, 1) := by decide +kernel
theorem dX2_pass_18 : decode cX2_pass 18 = .ok (.iload_n 2, 1) := by decide +kernel
theorem dX2_pass_19 : decode cX2_pass 19 = .ok (.ishr, 1) := by decide +kernel
theorem dX2_pass_20 : decode cX2_pass 20 = .ok (.iconst 1, 1) := by decide +kernel
theorem dX2_pass_21 : decode cX2_pass 21 = .ok (.iand, 1) := by decide +kernel
theorem dX2_pass_22 : decode cX2_pass 22 = .ok (.ifCond .eq 7, 3) := by decide +kernel
theorem dX2_pass_25 : decode cX2_pass 25 = .ok (.iconst 1, 1) := by decide +kernel
theorem dX2_pass_26 : decode cX2_pass 26 = .ok (.goto 4, 3) := by decide +kernel
theorem dX2_pass_29 : decode cX2_pass 29 = .ok (.iconst 0, 1) := by decide +kernel
theorem dX2_pass_30 : decode cX2_pass 30 = .ok (.istore_n 3, 1) := by decide +kernel
theorem dX2_pass_31 : decode cX2_pass 31 = .ok (.aload_n 0, 1) := by decide +kernel
theorem dX2_pass_32 : decode cX2_pass 32 = .ok (.getfield 15, 3) := by decide +kernel
theorem dX2_pass_35 : decode cX2_pass 35 = .ok (.iload_n 2, 1) := by decide +kernel
theorem dX2_pass_36 : decode cX2_pass 36 = .ok (.iload_n 3, 1) := by decide +kernel
theorem dX2_pass_37 : decode cX2_pass 37 = .ok (.ifCond .eq 15, 3) := by decide +kernel
theorem dX2_pass_40 : decode cX2_pass 40 = .ok (.aload_n 0, 1) := by decide +kernel
theorem dX2_pass_41 : decode cX2_pass 41 = .ok (.getfield 18, 3) := by decide +kernel
theorem dX2_pass_44 : decode cX2_pass 44 = .ok (.getfield 69, 3) := by decide +kernel
theorem dX2_pass_47 : decode cX2_pass 47 = .ok (.iload_n 2, 1) := by decide +kernel
theorem dX2_pass_48 : decode cX2_pass 48 = .ok (.iaload, 1) := by decide +kernel
theorem dX2_pass_49 : decode cX2_pass 49 = .ok (.goto 17, 3) := by decide +kernel
theorem dX2_pass_52 : decode cX2_pass 52 = .ok (.aload_n 0, 1) := by decide +kernel
theorem dX2_pass_53 : decode cX2_pass 53 = .ok (.getfield 9, 3) := by decide +kernel
theorem dX2_pass_56 : decode cX2_pass 56 = .ok (.aload_n 0, 1) := by decide +kernel
theorem dX2_pass_57 : decode cX2_pass 57 = .ok (.getfield 18, 3) := by decide +kernel
theorem dX2_pass_60 : decode cX2_pass 60 = .ok (.getfield 72, 3) := by decide +kernel
theorem dX2_pass_63 : decode cX2_pass 63 = .ok (.iload_n 2, 1) := by decide +kernel
theorem dX2_pass_64 : decode cX2_pass 64 = .ok (.iaload, 1) := by decide +kernel
theorem dX2_pass_65 : decode cX2_pass 65 = .ok (.iaload, 1) := by decide +kernel
theorem dX2_pass_66 : decode cX2_pass 66 = .ok (.iastore, 1) := by decide +kernel
theorem dX2_pass_67 : decode cX2_pass 67 = .ok (.iinc 2 1, 3) := by decide +kernel
theorem dX2_pass_70 : decode cX2_pass 70 = .ok (.goto (-64), 3) := by decide +kernel
theorem dX2_pass_73 : decode cX2_pass 73 = .ok (.return_, 1) := by decide +kernel
theorem dX2_knownStores_0 : decode cX2_knownStores 0 = .ok (.iconst 0, 1) := by decide +kernel
theorem dX2_knownStores_1 : decode cX2_knownStores 1 = .ok (.istore_n 1, 1) := by decide +kernel
theorem dX2_knownStores_2 : decode cX2_knownStores 2 = .ok (.iconst 0, 1) := by decide +kernel
theorem dX2_knownStores_3 : decode cX2_knownStores 3 = .ok (.istore_n 2, 1) := by decide +kernel
theorem dX2_knownStores_4 : decode cX2_knownStores 4 = .ok (.iload_n 2, 1) := by decide +kernel
theorem dX2_knownStores_5 : decode cX2_knownStores 5 = .ok (.aload_n 0, 1) := by decide +kernel
theorem dX2_knownStores_6 : decode cX2_knownStores 6 = .ok (.getfield 18, 3) := by decide +kernel
theorem dX2_knownStores_9 : decode cX2_knownStores 9 = .ok (.getfield 66, 3) := by decide +kernel
theorem dX2_knownStores_12 : decode cX2_knownStores 12 = .ok (.if_icmp .ge 22, 3) := by decide +kernel
theorem dX2_knownStores_15 : decode cX2_knownStores 15 = .ok (.aload_n 0, 1) := by decide +kernel
theorem dX2_knownStores_16 : decode cX2_knownStores 16 = .ok (.getfield 15, 3) := by decide +kernel
theorem dX2_knownStores_19 : decode cX2_knownStores 19 = .ok (.iload_n 2, 1) := by decide +kernel
theorem dX2_knownStores_20 : decode cX2_knownStores 20 = .ok (.iaload, 1) := by decide +kernel
theorem dX2_knownStores_21 : decode cX2_knownStores 21 = .ok (.iconst 2, 1) := by decide +kernel
theorem dX2_knownStores_22 : decode cX2_knownStores 22 = .ok (.if_icmp .eq 6, 3) := by decide +kernel
theorem dX2_knownStores_25 : decode cX2_knownStores 25 = .ok (.iinc 1 1, 3) := by decide +kernel
theorem dX2_knownStores_28 : decode cX2_knownStores 28 = .ok (.iinc 2 1, 3) := by decide +kernel
theorem dX2_knownStores_31 : decode cX2_knownStores 31 = .ok (.goto (-27), 3) := by decide +kernel
theorem dX2_knownStores_34 : decode cX2_knownStores 34 = .ok (.iload_n 1, 1) := by decide +kernel
theorem dX2_knownStores_35 : decode cX2_knownStores 35 = .ok (.ireturn, 1) := by decide +kernel
theorem dX3_init_0 : decode cX3_init 0 = .ok (.aload_n 0, 1) := by decide +kernel
theorem dX3_init_1 : decode cX3_init 1 = .ok (.invokespecial 3, 3) := by decide +kernel
theorem dX3_init_4 : decode cX3_init 4 = .ok (.aload_n 0, 1) := by decide +kernel
theorem dX3_init_5 : decode cX3_init 5 = .ok (.bipush 32, 2) := by decide +kernel
theorem dX3_init_7 : decode cX3_init 7 = .ok (.newarray .long, 2) := by decide +kernel
theorem dX3_init_9 : decode cX3_init 9 = .ok (.putfield 9, 3) := by decide +kernel
theorem dX3_init_12 : decode cX3_init 12 = .ok (.aload_n 0, 1) := by decide +kernel
theorem dX3_init_13 : decode cX3_init 13 = .ok (.bipush 64, 2) := by decide +kernel
theorem dX3_init_15 : decode cX3_init 15 = .ok (.newarray .long, 2) := by decide +kernel
theorem dX3_init_17 : decode cX3_init 17 = .ok (.putfield 15, 3) := by decide +kernel
theorem dX3_init_20 : decode cX3_init 20 = .ok (.aload_n 0, 1) := by decide +kernel
theorem dX3_init_21 : decode cX3_init 21 = .ok (.aload_n 1, 1) := by decide +kernel
theorem dX3_init_22 : decode cX3_init 22 = .ok (.putfield 18, 3) := by decide +kernel
theorem dX3_init_25 : decode cX3_init 25 = .ok (.return_, 1) := by decide +kernel
set_option maxRecDepth 20000 in
theorem ggX3_allRows_X0_rowCount : GoodIn wsX3_allRows wsX0_rowCount := goodIn_r _ [7, 8, 12, 13, 14, 15, 16, 17, 18, 19, 20, 21, 22, 23, 24, 25, 26] (by decide +kernel) (by decide +kernel)
set_option maxRecDepth 20000 in
theorem gX3_allRows_X0_rowCount : GoodIn wsX3_allRows (wsV RX3 22 RX0 yX0_rowCount wsX0_rowCount) := goodIn_app (goodIn_of _ (by decide +kernel)) ggX3_allRows_X0_rowCount
theorem dX3_allRows_0 : decode cX3_allRows 0 = .ok (.aload_n 0, 1) := by decide +kernel
theorem dX3_allRows_1 : decode cX3_allRows 1 = .ok (.getfield 18, 3) := by decide +kernel
theorem dX3_allRows_4 : decode cX3_allRows 4 = .ok (.invokevirtual 22, 3) := by decide +kernel
theorem dX3_allRows_7 : decode cX3_allRows 7 = .ok (.istore_n 1, 1) := by decide +kernel
theorem dX3_allRows_8 : decode cX3_allRows 8 = .ok (.iload_n 1, 1) := by decide +kernel
theorem dX3_allRows_9 : decode cX3_allRows 9 = .ok (.bipush 64, 2) := by decide +kernel
theorem dX3_allRows_11 : decode cX3_allRows 11 = .ok (.if_icmp .lt 9, 3) := by decide +kernel
theorem dX3_allRows_14 : decode cX3_allRows 14 = .ok (.ldc2_w 28, 3) := by decide +kernel
theorem dX3_allRows_17 : decode cX3_allRows 17 = .ok (.goto 8, 3) := by decide +kernel
theorem dX3_allRows_20 : decode cX3_allRows 20 = .ok (.lconst 1, 1) := by decide +kernel
theorem dX3_allRows_21 : decode cX3_allRows 21 = .ok (.iload_n 1, 1) := by decide +kernel
theorem dX3_allRows_22 : decode cX3_allRows 22 = .ok (.lshl, 1) := by decide +kernel
theorem dX3_allRows_23 : decode cX3_allRows 23 = .ok (.lconst 1, 1) := by decide +kernel
theorem dX3_allRows_24 : decode cX3_allRows 24 = .ok (.lsub, 1) := by decide +kernel
theorem dX3_allRows_25 : decode cX3_allRows 25 = .ok (.lreturn, 1) := by decide +kernel
set_option maxRecDepth 20000 in
theorem ggX3_prepare_X0_rowCount : GoodIn wsX3_prepare wsX0_rowCount := goodIn_r _ [7, 8, 48, 49, 50, 51, 52, 53, 54, 55, 56, 57, 58, 59, 60, 61, 62] (by decide +kernel) (by decide +kernel)
set_option maxRecDepth 20000 in
theorem gX3_prepare_X0_rowCount : GoodIn wsX3_prepare (wsV RX3 22 RX0 yX0_rowCount wsX0_rowCount) := goodIn_app (goodIn_of _ (by decide +kernel)) ggX3_prepare_X0_rowCount
set_option maxRecDepth 20000 in
theorem ggX3_prepare_X0_openInputs : GoodIn wsX3_prepare wsX0_openInputs := goodIn_r _ [12, 13, 14, 15, 48, 49, 50, 51, 52, 53, 54, 55, 56, 57, 58, 59, 60, 61, 62] (by decide +kernel) (by decide +kernel)
set_option maxRecDepth 20000 in
theorem gX3_prepare_X0_openInputs : GoodIn wsX3_prepare (wsV RX3 30 RX0 yX0_openInputs wsX0_openInputs) := goodIn_app (goodIn_of _ (by decide +kernel)) ggX3_prepare_X0_openInputs
set_option maxRecDepth 20000 in
theorem ggX3_prepare_X3_evaluate : GoodIn wsX3_prepare wsX3_evaluate := goodIn_r _ [20, 1, 21, 22, 23, 24, 25, 26, 27, 28, 19, 29, 30, 31, 32, 33, 34, 35, 36, 37, 38, 45, 46, 47, 48, 49, 50, 51, 52, 53, 54, 55, 56, 57, 58, 59, 60, 61, 62] (by decide +kernel) (by decide +kernel)
set_option maxRecDepth 20000 in
theorem gX3_prepare_X3_evaluate : GoodIn wsX3_prepare (wsV RX3 34 RX3 yX3_evaluate wsX3_evaluate) := goodIn_app (goodIn_of _ (by decide +kernel)) ggX3_prepare_X3_evaluate
set_option maxRecDepth 20000 in
theorem ggX3_prepare_X3_led : GoodIn wsX3_prepare wsX3_led := goodIn_r _ [42, 1, 43, 24, 44, 45, 46, 47, 48, 49, 50, 51, 52, 53, 54, 55, 56, 57, 58, 59, 60, 61, 62] (by decide +kernel) (by decide +kernel)
set_option maxRecDepth 20000 in
theorem gX3_prepare_X3_led : GoodIn wsX3_prepare (wsV RX3 38 RX3 yX3_led wsX3_led) := goodIn_app (goodIn_of _ (by decide +kernel)) ggX3_prepare_X3_led
theorem dX3_prepare_0 : decode cX3_prepare 0 = .ok (.aload_n 0, 1) := by decide +kernel
theorem dX3_prepare_1 : decode cX3_prepare 1 = .ok (.getfield 18, 3) := by decide +kernel
theorem dX3_prepare_4 : decode cX3_prepare 4 = .ok (.invokevirtual 22, 3) := by decide +kernel
theorem dX3_prepare_7 : decode cX3_prepare 7 = .ok (.istore_n 2, 1) := by decide +kernel
theorem dX3_prepare_8 : decode cX3_prepare 8 = .ok (.iconst 0, 1) := by decide +kernel
theorem dX3_prepare_9 : decode cX3_prepare 9 = .ok (.istore_n 3, 1) := by decide +kernel
theorem dX3_prepare_10 : decode cX3_prepare 10 = .ok (.iload_n 3, 1) := by decide +kernel
theorem dX3_prepare_11 : decode cX3_prepare 11 = .ok (.iload_n 2, 1) := by decide +kernel
theorem dX3_prepare_12 : decode cX3_prepare 12 = .ok (.if_icmp .ge 16, 3) := by decide +kernel
theorem dX3_prepare_15 : decode cX3_prepare 15 = .ok (.aload_n 0, 1) := by decide +kernel
theorem dX3_prepare_16 : decode cX3_prepare 16 = .ok (.getfield 15, 3) := by decide +kernel
theorem dX3_prepare_19 : decode cX3_prepare 19 = .ok (.iload_n 3, 1) := by decide +kernel
theorem dX3_prepare_20 : decode cX3_prepare 20 = .ok (.lconst 0, 1) := by decide +kernel
theorem dX3_prepare_21 : decode cX3_prepare 21 = .ok (.lastore, 1) := by decide +kernel
theorem dX3_prepare_22 : decode cX3_prepare 22 = .ok (.iinc 3 1, 3) := by decide +kernel
theorem dX3_prepare_25 : decode cX3_prepare 25 = .ok (.goto (-15), 3) := by decide +kernel
theorem dX3_prepare_28 : decode cX3_prepare 28 = .ok (.iconst 1, 1) := by decide +kernel
theorem dX3_prepare_29 : decode cX3_prepare 29 = .ok (.aload_n 0, 1) := by decide +kernel
theorem dX3_prepare_30 : decode cX3_prepare 30 = .ok (.getfield 18, 3) := by decide +kernel
theorem dX3_prepare_33 : decode cX3_prepare 33 = .ok (.iload_n 1, 1) := by decide +kernel
theorem dX3_prepare_34 : decode cX3_prepare 34 = .ok (.invokevirtual 30, 3) := by decide +kernel
theorem dX3_prepare_37 : decode cX3_prepare 37 = .ok (.ishl, 1) := by decide +kernel
theorem dX3_prepare_38 : decode cX3_prepare 38 = .ok (.istore_n 3, 1) := by decide +kernel
theorem dX3_prepare_39 : decode cX3_prepare 39 = .ok (.iconst 0, 1) := by decide +kernel
theorem dX3_prepare_40 : decode cX3_prepare 40 = .ok (.istore 4, 2) := by decide +kernel
theorem dX3_prepare_42 : decode cX3_prepare 42 = .ok (.iload 4, 2) := by decide +kernel
theorem dX3_prepare_44 : decode cX3_prepare 44 = .ok (.iload_n 3, 1) := by decide +kernel
theorem dX3_prepare_45 : decode cX3_prepare 45 = .ok (.if_icmp .ge 49, 3) := by decide +kernel
theorem dX3_prepare_48 : decode cX3_prepare 48 = .ok (.aload_n 0, 1) := by decide +kernel
theorem dX3_prepare_49 : decode cX3_prepare 49 = .ok (.iload 4, 2) := by decide +kernel
theorem dX3_prepare_51 : decode cX3_prepare 51 = .ok (.iload_n 1, 1) := by decide +kernel
theorem dX3_prepare_52 : decode cX3_prepare 52 = .ok (.invokevirtual 34, 3) := by decide +kernel
theorem dX3_prepare_55 : decode cX3_prepare 55 = .ok (.iconst 0, 1) := by decide +kernel
theorem dX3_prepare_56 : decode cX3_prepare 56 = .ok (.istore 5, 2) := by decide +kernel
theorem dX3_prepare_58 : decode cX3_prepare 58 = .ok (.iload 5, 2) := by decide +kernel
theorem dX3_prepare_60 : decode cX3_prepare 60 = .ok (.iload_n 2, 1) := by decide +kernel
theorem dX3_prepare_61 : decode cX3_prepare 61 = .ok (.if_icmp .ge 27, 3) := by decide +kernel
theorem dX3_prepare_64 : decode cX3_prepare 64 = .ok (.aload_n 0, 1) := by decide +kernel
theorem dX3_prepare_65 : decode cX3_prepare 65 = .ok (.getfield 15, 3) := by decide +kernel
theorem dX3_prepare_68 : decode cX3_prepare 68 = .ok (.iload 5, 2) := by decide +kernel
theorem dX3_prepare_70 : decode cX3_prepare 70 = .ok (.dup2, 1) := by decide +kernel
theorem dX3_prepare_71 : decode cX3_prepare 71 = .ok (.laload, 1) := by decide +kernel
theorem dX3_prepare_72 : decode cX3_prepare 72 = .ok (.lconst 1, 1) := by decide +kernel
theorem dX3_prepare_73 : decode cX3_prepare 73 = .ok (.aload_n 0, 1) := by decide +kernel
theorem dX3_prepare_74 : decode cX3_prepare 74 = .ok (.iload 5, 2) := by decide +kernel
theorem dX3_prepare_76 : decode cX3_prepare 76 = .ok (.invokevirtual 38, 3) := by decide +kernel
theorem dX3_prepare_79 : decode cX3_prepare 79 = .ok (.lshl, 1) := by decide +kernel
theorem dX3_prepare_80 : decode cX3_prepare 80 = .ok (.lor, 1) := by decide +kernel
theorem dX3_prepare_81 : decode cX3_prepare 81 = .ok (.lastore, 1) := by decide +kernel
theorem dX3_prepare_82 : decode cX3_prepare 82 = .ok (.iinc 5 1, 3) := by decide +kernel
theorem dX3_prepare_85 : decode cX3_prepare 85 = .ok (.goto (-27), 3) := by decide +kernel
theorem dX3_prepare_88 : decode cX3_prepare 88 = .ok (.iinc 4 1, 3) := by decide +kernel
theorem dX3_prepare_91 : decode cX3_prepare 91 = .ok (.goto (-49), 3) := by decide +kernel
theorem dX3_prepare_94 : decode cX3_prepare 94 = .ok (.return_, 1) := by decide +kernel
set_option maxRecDepth 20000 in
theorem ggX3_evaluate_X3_everywhere : GoodIn wsX3_evaluate wsX3_everywhere := goodIn_r _ [11, 12] (by decide +kernel) (by decide +kernel)
set_option maxRecDepth 20000 in
theorem gX3_evaluate_X3_everywhere : GoodIn wsX3_evaluate (va_wsS RX3 53 yX3_everywhere wsX3_everywhere) := goodIn_app (goodIn_of _ (by decide +kernel)) ggX3_evaluate_X3_everywhere
set_option maxRecDepth 20000 in
theorem ggX3_evaluate_X3_gateOnes : GoodIn wsX3_evaluate wsX3_gateOnes := goodIn_r _ [16, 5, 1, 17, 18, 19, 20, 12, 21, 22, 23, 24, 25, 26, 27, 28, 29, 30, 31, 32, 33, 34, 35, 36, 37, 38] (by decide +kernel) (by decide +kernel)
set_option maxRecDepth 20000 in
theorem gX3_evaluate_X3_gateOnes : GoodIn wsX3_evaluate (wsV RX3 57 RX3 yX3_gateOnes wsX3_gateOnes) := goodIn_app (goodIn_of _ (by decide +kernel)) ggX3_evaluate_X3_gateOnes
theorem dX3_evaluate_0 : decode cX3_evaluate 0 = .ok (.iload_n 1, 1) := by decide +kernel
theorem dX3_evaluate_1 : decode cX3_evaluate 1 = .ok (.istore_n 3, 1) := by decide +kernel
theorem dX3_evaluate_2 : decode cX3_evaluate 2 = .ok (.iconst 0, 1) := by decide +kernel
theorem dX3_evaluate_3 : decode cX3_evaluate 3 = .ok (.istore 4, 2) := by decide +kernel
theorem dX3_evaluate_5 : decode cX3_evaluate 5 = .ok (.iload 4, 2) := by decide +kernel
theorem dX3_evaluate_7 : decode cX3_evaluate 7 = .ok (.aload_n 0, 1) := by decide +kernel
theorem dX3_evaluate_8 : decode cX3_evaluate 8 = .ok (.getfield 18, 3) := by decide +kernel
theorem dX3_evaluate_11 : decode cX3_evaluate 11 = .ok (.getfield 42, 3) := by decide +kernel
theorem dX3_evaluate_14 : decode cX3_evaluate 14 = .ok (.if_icmp .ge 165, 3) := by decide +kernel
theorem dX3_evaluate_17 : decode cX3_evaluate 17 = .ok (.aload_n 0, 1) := by decide +kernel
theorem dX3_evaluate_18 : decode cX3_evaluate 18 = .ok (.getfield 18, 3) := by decide +kernel
theorem dX3_evaluate_21 : decode cX3_evaluate 21 = .ok (.getfield 46, 3) := by decide +kernel
theorem dX3_evaluate_24 : decode cX3_evaluate 24 = .ok (.iload 4, 2) := by decide +kernel
theorem dX3_evaluate_26 : decode cX3_evaluate 26 = .ok (.iaload, 1) := by decide +kernel
theorem dX3_evaluate_27 : decode cX3_evaluate 27 = .ok (.tableswitch 125 0 2 #[25, 86, 109], 25) := by decide +kernel
theorem dX3_evaluate_52 : decode cX3_evaluate 52 = .ok (.iload_n 2, 1) := by decide +kernel
theorem dX3_evaluate_53 : decode cX3_evaluate 53 = .ok (.ifCond .ne 17, 3) := by decide +kernel
theorem dX3_evaluate_56 : decode cX3_evaluate 56 = .ok (.aload_n 0, 1) := by decide +kernel
theorem dX3_evaluate_57 : decode cX3_evaluate 57 = .ok (.getfield 18, 3) := by decide +kernel
theorem dX3_evaluate_60 : decode cX3_evaluate 60 = .ok (.getfield 50, 3) := by decide +kernel
theorem dX3_evaluate_63 : decode cX3_evaluate 63 = .ok (.iload 4, 2) := by decide +kernel
theorem dX3_evaluate_65 : decode cX3_evaluate 65 = .ok (.iaload, 1) := by decide +kernel
theorem dX3_evaluate_66 : decode cX3_evaluate 66 = .ok (.iconst 2, 1) := by decide +kernel
theorem dX3_evaluate_67 : decode cX3_evaluate 67 = .ok (.if_icmp .ne 23, 3) := by decide +kernel
theorem dX3_evaluate_70 : decode cX3_evaluate 70 = .ok (.aload_n 0, 1) := by decide +kernel
theorem dX3_evaluate_71 : decode cX3_evaluate 71 = .ok (.getfield 9, 3) := by decide +kernel
theorem dX3_evaluate_74 : decode cX3_evaluate 74 = .ok (.iload 4, 2) := by decide +kernel
theorem dX3_evaluate_76 : decode cX3_evaluate 76 = .ok (.iload_n 3, 1) := by decide +kernel
theorem dX3_evaluate_77 : decode cX3_evaluate 77 = .ok (.iconst 1, 1) := by decide +kernel
theorem dX3_evaluate_78 : decode cX3_evaluate 78 = .ok (.iand, 1) := by decide +kernel
theorem dX3_evaluate_79 : decode cX3_evaluate 79 = .ok (.invokestatic 53, 3) := by decide +kernel
theorem dX3_evaluate_82 : decode cX3_evaluate 82 = .ok (.lastore, 1) := by decide +kernel
theorem dX3_evaluate_83 : decode cX3_evaluate 83 = .ok (.iload_n 3, 1) := by decide +kernel
theorem dX3_evaluate_84 : decode cX3_evaluate 84 = .ok (.iconst 1, 1) := by decide +kernel
theorem dX3_evaluate_85 : decode cX3_evaluate 85 = .ok (.ishr, 1) := by decide +kernel
theorem dX3_evaluate_86 : decode cX3_evaluate 86 = .ok (.istore_n 3, 1) := by decide +kernel
theorem dX3_evaluate_87 : decode cX3_evaluate 87 = .ok (.goto 86, 3) := by decide +kernel
theorem dX3_evaluate_90 : decode cX3_evaluate 90 = .ok (.aload_n 0, 1) := by decide +kernel
theorem dX3_evaluate_91 : decode cX3_evaluate 91 = .ok (.getfield 9, 3) := by decide +kernel
theorem dX3_evaluate_94 : decode cX3_evaluate 94 = .ok (.iload 4, 2) := by decide +kernel
theorem dX3_evaluate_96 : decode cX3_evaluate 96 = .ok (.aload_n 0, 1) := by decide +kernel
theorem dX3_evaluate_97 : decode cX3_evaluate 97 = .ok (.getfield 18, 3) := by decide +kernel
theorem dX3_evaluate_100 : decode cX3_evaluate 100 = .ok (.getfield 50, 3) := by decide +kernel
theorem dX3_evaluate_103 : decode cX3_evaluate 103 = .ok (.iload 4, 2) := by decide +kernel
theorem dX3_evaluate_105 : decode cX3_evaluate 105 = .ok (.iaload, 1) := by decide +kernel
theorem dX3_evaluate_106 : decode cX3_evaluate 106 = .ok (.invokestatic 53, 3) := by decide +kernel
theorem dX3_evaluate_109 : decode cX3_evaluate 109 = .ok (.lastore, 1) := by decide +kernel
theorem dX3_evaluate_110 : decode cX3_evaluate 110 = .ok (.goto 63, 3) := by decide +kernel
theorem dX3_evaluate_113 : decode cX3_evaluate 113 = .ok (.aload_n 0, 1) := by decide +kernel
theorem dX3_evaluate_114 : decode cX3_evaluate 114 = .ok (.getfield 9, 3) := by decide +kernel
theorem dX3_evaluate_117 : decode cX3_evaluate 117 = .ok (.iload 4, 2) := by decide +kernel
theorem dX3_evaluate_119 : decode cX3_evaluate 119 = .ok (.aload_n 0, 1) := by decide +kernel
theorem dX3_evaluate_120 : decode cX3_evaluate 120 = .ok (.getfield 18, 3) := by decide +kernel
theorem dX3_evaluate_123 : decode cX3_evaluate 123 = .ok (.getfield 50, 3) := by decide +kernel
theorem dX3_evaluate_126 : decode cX3_evaluate 126 = .ok (.iload 4, 2) := by decide +kernel
theorem dX3_evaluate_128 : decode cX3_evaluate 128 = .ok (.iaload, 1) := by decide +kernel
theorem dX3_evaluate_129 : decode cX3_evaluate 129 = .ok (.invokestatic 53, 3) := by decide +kernel
theorem dX3_evaluate_132 : decode cX3_evaluate 132 = .ok (.lastore, 1) := by decide +kernel
theorem dX3_evaluate_133 : decode cX3_evaluate 133 = .ok (.goto 40, 3) := by decide +kernel
theorem dX3_evaluate_136 : decode cX3_evaluate 136 = .ok (.aload_n 0, 1) := by decide +kernel
theorem dX3_evaluate_137 : decode cX3_evaluate 137 = .ok (.getfield 9, 3) := by decide +kernel
theorem dX3_evaluate_140 : decode cX3_evaluate 140 = .ok (.iload 4, 2) := by decide +kernel
theorem dX3_evaluate_142 : decode cX3_evaluate 142 = .ok (.aload_n 0, 1) := by decide +kernel
theorem dX3_evaluate_143 : decode cX3_evaluate 143 = .ok (.iload 4, 2) := by decide +kernel
theorem dX3_evaluate_145 : decode cX3_evaluate 145 = .ok (.invokevirtual 57, 3) := by decide +kernel
theorem dX3_evaluate_148 : decode cX3_evaluate 148 = .ok (.lastore, 1) := by decide +kernel
theorem dX3_evaluate_149 : decode cX3_evaluate 149 = .ok (.goto 24, 3) := by decide +kernel
theorem dX3_evaluate_152 : decode cX3_evaluate 152 = .ok (.aload_n 0, 1) := by decide +kernel
theorem dX3_evaluate_153 : decode cX3_evaluate 153 = .ok (.getfield 9, 3) := by decide +kernel
theorem dX3_evaluate_156 : decode cX3_evaluate 156 = .ok (.iload 4, 2) := by decide +kernel
theorem dX3_evaluate_158 : decode cX3_evaluate 158 = .ok (.getstatic 60, 3) := by decide +kernel
theorem dX3_evaluate_161 : decode cX3_evaluate 161 = .ok (.aload_n 0, 1) := by decide +kernel
theorem dX3_evaluate_162 : decode cX3_evaluate 162 = .ok (.getfield 18, 3) := by decide +kernel
theorem dX3_evaluate_165 : decode cX3_evaluate 165 = .ok (.getfield 63, 3) := by decide +kernel
theorem dX3_evaluate_168 : decode cX3_evaluate 168 = .ok (.iload 4, 2) := by decide +kernel
theorem dX3_evaluate_170 : decode cX3_evaluate 170 = .ok (.iaload, 1) := by decide +kernel
theorem dX3_evaluate_171 : decode cX3_evaluate 171 = .ok (.laload, 1) := by decide +kernel
theorem dX3_evaluate_172 : decode cX3_evaluate 172 = .ok (.lastore, 1) := by decide +kernel
theorem dX3_evaluate_173 : decode cX3_evaluate 173 = .ok (.iinc 4 1, 3) := by decide +kernel
theorem dX3_evaluate_176 : decode cX3_evaluate 176 = .ok (.goto (-171), 3) := by decide +kernel
theorem dX3_evaluate_179 : decode cX3_evaluate 179 = .ok (.return_, 1) := by decide +kernel
theorem dX3_everywhere_0 : decode cX3_everywhere 0 = .ok (.iload_n 0, 1) := by decide +kernel
theorem dX3_everywhere_1 : decode cX3_everywhere 1 = .ok (.iconst 1, 1) := by decide +kernel
theorem dX3_everywhere_2 : decode cX3_everywhere 2 = .ok (.if_icmp .ne 9, 3) := by decide +kernel
theorem dX3_everywhere_5 : decode cX3_everywhere 5 = .ok (.ldc2_w 28, 3) := by decide +kernel
theorem dX3_everywhere_8 : decode cX3_everywhere 8 = .ok (.goto 4, 3) := by decide +kernel
theorem dX3_everywhere_11 : decode cX3_everywhere 11 = .ok (.lconst 0, 1) := by decide +kernel
theorem dX3_everywhere_12 : decode cX3_everywhere 12 = .ok (.lreturn, 1) := by decide +kernel
theorem dX3_gateOnes_0 : decode cX3_gateOnes 0 = .ok (.aload_n 0, 1) := by decide +kernel
theorem dX3_gateOnes_1 : decode cX3_gateOnes 1 = .ok (.getfield 9, 3) := by decide +kernel
theorem dX3_gateOnes_4 : decode cX3_gateOnes 4 = .ok (.aload_n 0, 1) := by decide +kernel
theorem dX3_gateOnes_5 : decode cX3_gateOnes 5 = .ok (.getfield 18, 3) := by decide +kernel
theorem dX3_gateOnes_8 : decode cX3_gateOnes 8 = .ok (.getfield 66, 3) := by decide +kernel
theorem dX3_gateOnes_11 : decode cX3_gateOnes 11 = .ok (.iload_n 1, 1) := by decide +kernel
theorem dX3_gateOnes_12 : decode cX3_gateOnes 12 = .ok (.iaload, 1) := by decide +kernel
theorem dX3_gateOnes_13 : decode cX3_gateOnes 13 = .ok (.laload, 1) := by decide +kernel
theorem dX3_gateOnes_14 : decode cX3_gateOnes 14 = .ok (.lstore_n 2, 1) := by decide +kernel
theorem dX3_gateOnes_15 : decode cX3_gateOnes 15 = .ok (.aload_n 0, 1) := by decide +kernel
theorem dX3_gateOnes_16 : decode cX3_gateOnes 16 = .ok (.getfield 9, 3) := by decide +kernel
theorem dX3_gateOnes_19 : decode cX3_gateOnes 19 = .ok (.aload_n 0, 1) := by decide +kernel
theorem dX3_gateOnes_20 : decode cX3_gateOnes 20 = .ok (.getfield 18, 3) := by decide +kernel
theorem dX3_gateOnes_23 : decode cX3_gateOnes 23 = .ok (.getfield 69, 3) := by decide +kernel
theorem dX3_gateOnes_26 : decode cX3_gateOnes 26 = .ok (.iload_n 1, 1) := by decide +kernel
theorem dX3_gateOnes_27 : decode cX3_gateOnes 27 = .ok (.iaload, 1) := by decide +kernel
theorem dX3_gateOnes_28 : decode cX3_gateOnes 28 = .ok (.laload, 1) := by decide +kernel
theorem dX3_gateOnes_29 : decode cX3_gateOnes 29 = .ok (.lstore 4, 2) := by decide +kernel
theorem dX3_gateOnes_31 : decode cX3_gateOnes 31 = .ok (.aload_n 0, 1) := by decide +kernel
theorem dX3_gateOnes_32 : decode cX3_gateOnes 32 = .ok (.getfield 9, 3) := by decide +kernel
theorem dX3_gateOnes_35 : decode cX3_gateOnes 35 = .ok (.aload_n 0, 1) := by decide +kernel
theorem dX3_gateOnes_36 : decode cX3_gateOnes 36 = .ok (.getfield 18, 3) := by decide +kernel
theorem dX3_gateOnes_39 : decode cX3_gateOnes 39 = .ok (.getfield 72, 3) := by decide +kernel
theorem dX3_gateOnes_42 : decode cX3_gateOnes 42 = .ok (.iload_n 1, 1) := by decide +kernel
theorem dX3_gateOnes_43 : decode cX3_gateOnes 43 = .ok (.iaload, 1) := by decide +kernel
theorem dX3_gateOnes_44 : decode cX3_gateOnes 44 = .ok (.laload, 1) := by decide +kernel
theorem dX3_gateOnes_45 : decode cX3_gateOnes 45 = .ok (.lstore 6, 2) := by decide +kernel
theorem dX3_gateOnes_47 : decode cX3_gateOnes 47 = .ok (.aload_n 0, 1) := by decide +kernel
theorem dX3_gateOnes_48 : decode cX3_gateOnes 48 = .ok (.getfield 18, 3) := by decide +kernel
theorem dX3_gateOnes_51 : decode cX3_gateOnes 51 = .ok (.getfield 75, 3) := by decide +kernel
theorem dX3_gateOnes_54 : decode cX3_gateOnes 54 = .ok (.iload_n 1, 1) := by decide +kernel
theorem dX3_gateOnes_55 : decode cX3_gateOnes 55 = .ok (.iaload, 1) := by decide +kernel
theorem dX3_gateOnes_56 : decode cX3_gateOnes 56 = .ok (.tableswitch 53 0 3 #[32, 38, 43, 48], 32) := by decide +kernel
theorem dX3_gateOnes_88 : decode cX3_gateOnes 88 = .ok (.lload_n 2, 1) := by decide +kernel
theorem dX3_gateOnes_89 : decode cX3_gateOnes 89 = .ok (.ldc2_w 28, 3) := by decide +kernel
theorem dX3_gateOnes_92 : decode cX3_gateOnes 92 = .ok (.lxor, 1) := by decide +kernel
theorem dX3_gateOnes_93 : decode cX3_gateOnes 93 = .ok (.lreturn, 1) := by decide +kernel
theorem dX3_gateOnes_94 : decode cX3_gateOnes 94 = .ok (.lload_n 2, 1) := by decide +kernel
theorem dX3_gateOnes_95 : decode cX3_gateOnes 95 = .ok (.lload 4, 2) := by decide +kernel
theorem dX3_gateOnes_97 : decode cX3_gateOnes 97 = .ok (.land, 1) := by decide +kernel
theorem dX3_gateOnes_98 : decode cX3_gateOnes 98 = .ok (.lreturn, 1) := by decide +kernel
theorem dX3_gateOnes_99 : decode cX3_gateOnes 99 = .ok (.lload_n 2, 1) := by decide +kernel
theorem dX3_gateOnes_100 : decode cX3_gateOnes 100 = .ok (.lload 4, 2) := by decide +kernel
theorem dX3_gateOnes_102 : decode cX3_gateOnes 102 = .ok (.lor, 1) := by decide +kernel
theorem dX3_gateOnes_103 : decode cX3_gateOnes 103 = .ok (.lreturn, 1) := by decide +kernel
theorem dX3_gateOnes_104 : decode cX3_gateOnes 104 = .ok (.lload_n 2, 1) := by decide +kernel
theorem dX3_gateOnes_105 : decode cX3_gateOnes 105 = .ok (.lload 4, 2) := by decide +kernel
theorem dX3_gateOnes_107 : decode cX3_gateOnes 107 = .ok (.lxor, 1) := by decide +kernel
theorem dX3_gateOnes_108 : decode cX3_gateOnes 108 = .ok (.lreturn, 1) := by decide +kernel
theorem dX3_gateOnes_109 : decode cX3_gateOnes 109 = .ok (.lload_n 2, 1) := by decide +kernel
theorem dX3_gateOnes_110 : decode cX3_gateOnes 110 = .ok (.lload 4, 2) := by decide +kernel
theorem dX3_gateOnes_112 : decode cX3_gateOnes 112 = .ok (.land, 1) := by decide +kernel
theorem dX3_gateOnes_113 : decode cX3_gateOnes 113 = .ok (.lload_n 2, 1) := by decide +kernel
theorem dX3_gateOnes_114 : decode cX3_gateOnes 114 = .ok (.ldc2_w 28, 3) := by decide +kernel
theorem dX3_gateOnes_117 : decode cX3_gateOnes 117 = .ok (.lxor, 1) := by decide +kernel
theorem dX3_gateOnes_118 : decode cX3_gateOnes 118 = .ok (.lload 6, 2) := by decide +kernel
theorem dX3_gateOnes_120 : decode cX3_gateOnes 120 = .ok (.land, 1) := by decide +kernel
theorem dX3_gateOnes_121 : decode cX3_gateOnes 121 = .ok (.lor, 1) := by decide +kernel
theorem dX3_gateOnes_122 : decode cX3_gateOnes 122 = .ok (.lreturn, 1) := by decide +kernel
theorem dX3_led_0 : decode cX3_led 0 = .ok (.iconst 0, 1) := by decide +kernel
theorem dX3_led_1 : decode cX3_led 1 = .ok (.istore_n 2, 1) := by decide +kernel
theorem dX3_led_2 : decode cX3_led 2 = .ok (.iconst 0, 1) := by decide +kernel
theorem dX3_led_3 : decode cX3_led 3 = .ok (.istore_n 3, 1) := by decide +kernel
theorem dX3_led_4 : decode cX3_led 4 = .ok (.iload_n 3, 1) := by decide +kernel
theorem dX3_led_5 : decode cX3_led 5 = .ok (.aload_n 0, 1) := by decide +kernel
theorem dX3_led_6 : decode cX3_led 6 = .ok (.getfield 18, 3) := by decide +kernel
theorem dX3_led_9 : decode cX3_led 9 = .ok (.getfield 78, 3) := by decide +kernel
theorem dX3_led_12 : decode cX3_led 12 = .ok (.if_icmp .ge 38, 3) := by decide +kernel
theorem dX3_led_15 : decode cX3_led 15 = .ok (.aload_n 0, 1) := by decide +kernel
theorem dX3_led_16 : decode cX3_led 16 = .ok (.getfield 9, 3) := by decide +kernel
theorem dX3_led_19 : decode cX3_led 19 = .ok (.aload_n 0, 1) := by decide +kernel
theorem dX3_led_20 : decode cX3_led 20 = .ok (.getfield 18, 3) := by decide +kernel
theorem dX3_led_23 : decode cX3_led 23 = .ok (.getfield 81, 3) := by decide +kernel
theorem dX3_led_26 : decode cX3_led 26 = .ok (.iload_n 3, 1) := by decide +kernel
theorem dX3_led_27 : decode cX3_led 27 = .ok (.iaload, 1) := by decide +kernel
theorem dX3_led_28 : decode cX3_led 28 = .ok (.laload, 1) := by decide +kernel
theorem dX3_led_29 : decode cX3_led 29 = .ok (.iload_n 1, 1) := by decide +kernel
theorem dX3_led_30 : decode cX3_led 30 = .ok (.lushr, 1) := by decide +kernel
theorem dX3_led_31 : decode cX3_led 31 = .ok (.lconst 1, 1) := by decide +kernel
theorem dX3_led_32 : decode cX3_led 32 = .ok (.land, 1) := by decide +kernel
theorem dX3_led_33 : decode cX3_led 33 = .ok (.lconst 0, 1) := by decide +kernel
theorem dX3_led_34 : decode cX3_led 34 = .ok (.lcmp, 1) := by decide +kernel
theorem dX3_led_35 : decode cX3_led 35 = .ok (.ifCond .eq 9, 3) := by decide +kernel
theorem dX3_led_38 : decode cX3_led 38 = .ok (.iload_n 2, 1) := by decide +kernel
theorem dX3_led_39 : decode cX3_led 39 = .ok (.iconst 1, 1) := by decide +kernel
theorem dX3_led_40 : decode cX3_led 40 = .ok (.iload_n 3, 1) := by decide +kernel
theorem dX3_led_41 : decode cX3_led 41 = .ok (.ishl, 1) := by decide +kernel
theorem dX3_led_42 : decode cX3_led 42 = .ok (.ior, 1) := by decide +kernel
theorem dX3_led_43 : decode cX3_led 43 = .ok (.istore_n 2, 1) := by decide +kernel
theorem dX3_led_44 : decode cX3_led 44 = .ok (.iinc 3 1, 3) := by decide +kernel
theorem dX3_led_47 : decode cX3_led 47 = .ok (.goto (-43), 3) := by decide +kernel
theorem dX3_led_50 : decode cX3_led 50 = .ok (.iload_n 2, 1) := by decide +kernel
theorem dX3_led_51 : decode cX3_led 51 = .ok (.ireturn, 1) := by decide +kernel
set_option maxRecDepth 20000 in
theorem ggX3_after_X0_rowCount : GoodIn wsX3_after wsX0_rowCount := goodIn_r _ [8, 9, 21, 22, 23, 24, 25, 26, 27, 28, 29, 30, 31, 32, 33, 34, 35] (by decide +kernel) (by decide +kernel)
set_option maxRecDepth 20000 in
theorem gX3_after_X0_rowCount : GoodIn wsX3_after (wsV RX3 22 RX0 yX0_rowCount wsX0_rowCount) := goodIn_app (goodIn_of _ (by decide +kernel)) ggX3_after_X0_rowCount
set_option maxRecDepth 20000 in
theorem ggX3_after_X3_begun : GoodIn wsX3_after wsX3_begun := goodIn_r _ [14, 1, 15, 16, 17, 18, 19, 20, 21, 22, 23, 24, 25, 26, 27, 28, 29, 30, 31, 32, 33, 34, 35] (by decide +kernel) (by decide +kernel)
set_option maxRecDepth 20000 in
theorem gX3_after_X3_begun : GoodIn wsX3_after (wsV RX3 84 RX3 yX3_begun wsX3_begun) := goodIn_app (goodIn_of _ (by decide +kernel)) ggX3_after_X3_begun
theorem dX3_after_0 : decode cX3_after 0 = .ok (.lconst 0, 1) := by decide +kernel
theorem dX3_after_1 : decode cX3_after 1 = .ok (.lstore 4, 2) := by decide +kernel
theorem dX3_after_3 : decode cX3_after 3 = .ok (.iconst 0, 1) := by decide +kernel
theorem dX3_after_4 : decode cX3_after 4 = .ok (.istore 6, 2) := by decide +kernel
theorem dX3_after_6 : decode cX3_after 6 = .ok (.iload 6, 2) := by decide +kernel
theorem dX3_after_8 : decode cX3_after 8 = .ok (.aload_n 0, 1) := by decide +kernel
theorem dX3_after_9 : decode cX3_after 9 = .ok (.getfield 18, 3) := by decide +kernel
theorem dX3_after_12 : decode cX3_after 12 = .ok (.invokevirtual 22, 3) := by decide +kernel
theorem dX3_after_15 : decode cX3_after 15 = .ok (.if_icmp .ge 32, 3) := by decide +kernel
theorem dX3_after_18 : decode cX3_after 18 = .ok (.lload_n 1, 1) := by decide +kernel
theorem dX3_after_19 : decode cX3_after 19 = .ok (.iload 6, 2) := by decide +kernel
theorem dX3_after_21 : decode cX3_after 21 = .ok (.lushr, 1) := by decide +kernel
theorem dX3_after_22 : decode cX3_after 22 = .ok (.lconst 1, 1) := by decide +kernel
theorem dX3_after_23 : decode cX3_after 23 = .ok (.land, 1) := by decide +kernel
theorem dX3_after_24 : decode cX3_after 24 = .ok (.lconst 0, 1) := by decide +kernel
theorem dX3_after_25 : decode cX3_after 25 = .ok (.lcmp, 1) := by decide +kernel
theorem dX3_after_26 : decode cX3_after 26 = .ok (.ifCond .eq 15, 3) := by decide +kernel
theorem dX3_after_29 : decode cX3_after 29 = .ok (.lload 4, 2) := by decide +kernel
theorem dX3_after_31 : decode cX3_after 31 = .ok (.aload_n 0, 1) := by decide +kernel
theorem dX3_after_32 : decode cX3_after 32 = .ok (.getfield 15, 3) := by decide +kernel
theorem dX3_after_35 : decode cX3_after 35 = .ok (.iload 6, 2) := by decide +kernel
theorem dX3_after_37 : decode cX3_after 37 = .ok (.laload, 1) := by decide +kernel
theorem dX3_after_38 : decode cX3_after 38 = .ok (.lor, 1) := by decide +kernel
theorem dX3_after_39 : decode cX3_after 39 = .ok (.lstore 4, 2) := by decide +kernel
theorem dX3_after_41 : decode cX3_after 41 = .ok (.iinc 6 1, 3) := by decide +kernel
theorem dX3_after_44 : decode cX3_after 44 = .ok (.goto (-38), 3) := by decide +kernel
theorem dX3_after_47 : decode cX3_after 47 = .ok (.iconst 0, 1) := by decide +kernel
theorem dX3_after_48 : decode cX3_after 48 = .ok (.istore 6, 2) := by decide +kernel
theorem dX3_after_50 : decode cX3_after 50 = .ok (.iload 6, 2) := by decide +kernel
theorem dX3_after_52 : decode cX3_after 52 = .ok (.aload_n 0, 1) := by decide +kernel
theorem dX3_after_53 : decode cX3_after 53 = .ok (.getfield 18, 3) := by decide +kernel
theorem dX3_after_56 : decode cX3_after 56 = .ok (.getfield 78, 3) := by decide +kernel
theorem dX3_after_59 : decode cX3_after 59 = .ok (.if_icmp .ge 28, 3) := by decide +kernel
theorem dX3_after_62 : decode cX3_after 62 = .ok (.iload_n 3, 1) := by decide +kernel
theorem dX3_after_63 : decode cX3_after 63 = .ok (.iload 6, 2) := by decide +kernel
theorem dX3_after_65 : decode cX3_after 65 = .ok (.ishr, 1) := by decide +kernel
theorem dX3_after_66 : decode cX3_after 66 = .ok (.iconst 1, 1) := by decide +kernel
theorem dX3_after_67 : decode cX3_after 67 = .ok (.iand, 1) := by decide +kernel
theorem dX3_after_68 : decode cX3_after 68 = .ok (.ifCond .eq 13, 3) := by decide +kernel
theorem dX3_after_71 : decode cX3_after 71 = .ok (.aload_n 0, 1) := by decide +kernel
theorem dX3_after_72 : decode cX3_after 72 = .ok (.lload 4, 2) := by decide +kernel
theorem dX3_after_74 : decode cX3_after 74 = .ok (.iload 6, 2) := by decide +kernel
theorem dX3_after_76 : decode cX3_after 76 = .ok (.invokevirtual 84, 3) := by decide +kernel
theorem dX3_after_79 : decode cX3_after 79 = .ok (.lstore 4, 2) := by decide +kernel
theorem dX3_after_81 : decode cX3_after 81 = .ok (.iinc 6 1, 3) := by decide +kernel
theorem dX3_after_84 : decode cX3_after 84 = .ok (.goto (-34), 3) := by decide +kernel
theorem dX3_after_87 : decode cX3_after 87 = .ok (.lload 4, 2) := by decide +kernel
theorem dX3_after_89 : decode cX3_after 89 = .ok (.lreturn, 1) := by decide +kernel
theorem dX3_begun_0 : decode cX3_begun 0 = .ok (.iconst 1, 1) := by decide +kernel
theorem dX3_begun_1 : decode cX3_begun 1 = .ok (.iload_n 3, 1) := by decide +kernel
theorem dX3_begun_2 : decode cX3_begun 2 = .ok (.ishl, 1) := by decide +kernel
theorem dX3_begun_3 : decode cX3_begun 3 = .ok (.istore 4, 2) := by decide +kernel
theorem dX3_begun_5 : decode cX3_begun 5 = .ok (.aload_n 0, 1) := by decide +kernel
theorem dX3_begun_6 : decode cX3_begun 6 = .ok (.getfield 18, 3) := by decide +kernel
theorem dX3_begun_9 : decode cX3_begun 9 = .ok (.getfield 88, 3) := by decide +kernel
theorem dX3_begun_12 : decode cX3_begun 12 = .ok (.iload_n 3, 1) := by decide +kernel
theorem dX3_begun_13 : decode cX3_begun 13 = .ok (.iaload, 1) := by decide +kernel
theorem dX3_begun_14 : decode cX3_begun 14 = .ok (.iconst 1, 1) := by decide +kernel
theorem dX3_begun_15 : decode cX3_begun 15 = .ok (.if_icmp .ne 16, 3) := by decide +kernel
theorem dX3_begun_18 : decode cX3_begun 18 = .ok (.lload_n 1, 1) := by decide +kernel
theorem dX3_begun_19 : decode cX3_begun 19 = .ok (.lload_n 1, 1) := by decide +kernel
theorem dX3_begun_20 : decode cX3_begun 20 = .ok (.iload 4, 2) := by decide +kernel
theorem dX3_begun_22 : decode cX3_begun 22 = .ok (.lshl, 1) := by decide +kernel
theorem dX3_begun_23 : decode cX3_begun 23 = .ok (.lor, 1) := by decide +kernel
theorem dX3_begun_24 : decode cX3_begun 24 = .ok (.getstatic 60, 3) := by decide +kernel
theorem dX3_begun_27 : decode cX3_begun 27 = .ok (.iload_n 3, 1) := by decide +kernel
theorem dX3_begun_28 : decode cX3_begun 28 = .ok (.laload, 1) := by decide +kernel
theorem dX3_begun_29 : decode cX3_begun 29 = .ok (.land, 1) := by decide +kernel
theorem dX3_begun_30 : decode cX3_begun 30 = .ok (.lreturn, 1) := by decide +kernel
theorem dX3_begun_31 : decode cX3_begun 31 = .ok (.lload_n 1, 1) := by decide +kernel
theorem dX3_begun_32 : decode cX3_begun 32 = .ok (.lload_n 1, 1) := by decide +kernel
theorem dX3_begun_33 : decode cX3_begun 33 = .ok (.iload 4, 2) := by decide +kernel
theorem dX3_begun_35 : decode cX3_begun 35 = .ok (.lushr, 1) := by decide +kernel
theorem dX3_begun_36 : decode cX3_begun 36 = .ok (.lor, 1) := by decide +kernel
theorem dX3_begun_37 : decode cX3_begun 37 = .ok (.getstatic 60, 3) := by decide +kernel
theorem dX3_begun_40 : decode cX3_begun 40 = .ok (.iload_n 3, 1) := by decide +kernel
theorem dX3_begun_41 : decode cX3_begun 41 = .ok (.laload, 1) := by decide +kernel
theorem dX3_begun_42 : decode cX3_begun 42 = .ok (.ldc2_w 28, 3) := by decide +kernel
theorem dX3_begun_45 : decode cX3_begun 45 = .ok (.lxor, 1) := by decide +kernel
theorem dX3_begun_46 : decode cX3_begun 46 = .ok (.land, 1) := by decide +kernel
theorem dX3_begun_47 : decode cX3_begun 47 = .ok (.lreturn, 1) := by decide +kernel
set_option maxRecDepth 20000 in
theorem ggX3_ticksTillOne_J13_bitCount_95d88 : GoodIn wsX3_ticksTillOne wsJ13_bitCount_95d88 := goodIn_r _ [4, 5, 6, 7] (by decide +kernel) (by decide +kernel)
set_option maxRecDepth 20000 in
theorem gX3_ticksTillOne_J13_bitCount_95d88 : GoodIn wsX3_ticksTillOne (va_wsS RX3 91 yJ13_bitCount_95d88 wsJ13_bitCount_95d88) := goodIn_app (goodIn_of _ (by decide +kernel)) ggX3_ticksTillOne_J13_bitCount_95d88
set_option maxRecDepth 20000 in
theorem ggX3_ticksTillOne_X3_after : GoodIn wsX3_ticksTillOne wsX3_after := goodIn_r _ [12, 13, 14, 15, 16, 17, 18, 19, 20, 21, 22, 23, 24, 11, 25, 26, 27, 28, 29, 30, 31, 32, 33, 34, 35, 36, 37, 38, 39, 40, 41, 42, 43, 44, 45, 46] (by decide +kernel) (by decide +kernel)
set_option maxRecDepth 20000 in
theorem gX3_ticksTillOne_X3_after : GoodIn wsX3_ticksTillOne (wsV RX3 97 RX3 yX3_after wsX3_after) := goodIn_app (goodIn_of _ (by decide +kernel)) ggX3_ticksTillOne_X3_after
theorem dX3_ticksTillOne_0 : decode cX3_ticksTillOne 0 = .ok (.lload_n 1, 1) := by decide +kernel
theorem dX3_ticksTillOne_1 : decode cX3_ticksTillOne 1 = .ok (.lstore 4, 2) := by decide +kernel
theorem dX3_ticksTillOne_3 : decode cX3_ticksTillOne 3 = .ok (.iconst 0, 1) := by decide +kernel
theorem dX3_ticksTillOne_4 : decode cX3_ticksTillOne 4 = .ok (.istore 6, 2) := by decide +kernel
theorem dX3_ticksTillOne_6 : decode cX3_ticksTillOne 6 = .ok (.iload 6, 2) := by decide +kernel
theorem dX3_ticksTillOne_8 : decode cX3_ticksTillOne 8 = .ok (.bipush 64, 2) := by decide +kernel
theorem dX3_ticksTillOne_10 : decode cX3_ticksTillOne 10 = .ok (.if_icmp .gt 30, 3) := by decide +kernel
theorem dX3_ticksTillOne_13 : decode cX3_ticksTillOne 13 = .ok (.lload 4, 2) := by decide +kernel
theorem dX3_ticksTillOne_15 : decode cX3_ticksTillOne 15 = .ok (.invokestatic 91, 3) := by decide +kernel
theorem dX3_ticksTillOne_18 : decode cX3_ticksTillOne 18 = .ok (.iconst 1, 1) := by decide +kernel
theorem dX3_ticksTillOne_19 : decode cX3_ticksTillOne 19 = .ok (.if_icmp .ne 6, 3) := by decide +kernel
theorem dX3_ticksTillOne_22 : decode cX3_ticksTillOne 22 = .ok (.iload 6, 2) := by decide +kernel
theorem dX3_ticksTillOne_24 : decode cX3_ticksTillOne 24 = .ok (.ireturn, 1) := by decide +kernel
theorem dX3_ticksTillOne_25 : decode cX3_ticksTillOne 25 = .ok (.aload_n 0, 1) := by decide +kernel
theorem dX3_ticksTillOne_26 : decode cX3_ticksTillOne 26 = .ok (.lload 4, 2) := by decide +kernel
theorem dX3_ticksTillOne_28 : decode cX3_ticksTillOne 28 = .ok (.iload_n 3, 1) := by decide +kernel
theorem dX3_ticksTillOne_29 : decode cX3_ticksTillOne 29 = .ok (.invokevirtual 97, 3) := by decide +kernel
theorem dX3_ticksTillOne_32 : decode cX3_ticksTillOne 32 = .ok (.lstore 4, 2) := by decide +kernel
theorem dX3_ticksTillOne_34 : decode cX3_ticksTillOne 34 = .ok (.iinc 6 1, 3) := by decide +kernel
theorem dX3_ticksTillOne_37 : decode cX3_ticksTillOne 37 = .ok (.goto (-31), 3) := by decide +kernel
theorem dX3_ticksTillOne_40 : decode cX3_ticksTillOne 40 = .ok (.bipush (-9), 2) := by decide +kernel
theorem dX3_ticksTillOne_42 : decode cX3_ticksTillOne 42 = .ok (.ireturn, 1) := by decide +kernel
set_option maxRecDepth 20000 in
theorem ggX3_leavesOne_X3_allRows : GoodIn wsX3_leavesOne wsX3_allRows := goodIn_r _ [5, 6, 7, 8, 9, 10, 11, 12, 13, 33, 34, 35, 36, 37, 38, 39, 40, 41, 42, 43, 44, 45, 46, 47, 48, 49, 50] (by decide +kernel) (by decide +kernel)
set_option maxRecDepth 20000 in
theorem gX3_leavesOne_X3_allRows : GoodIn wsX3_leavesOne (wsV RX3 100 RX3 yX3_allRows wsX3_allRows) := goodIn_app (goodIn_of _ (by decide +kernel)) ggX3_leavesOne_X3_allRows
set_option maxRecDepth 20000 in
theorem ggX3_leavesOne_X3_after : GoodIn wsX3_leavesOne wsX3_after := goodIn_r _ [17, 6, 18, 19, 8, 9, 10, 11, 12, 13, 20, 21, 22, 4, 23, 24, 25, 7, 33, 34, 35, 36, 37, 38, 39, 40, 41, 42, 43, 44, 45, 46, 47, 48, 49, 50] (by decide +kernel) (by decide +kernel)
set_option maxRecDepth 20000 in
theorem gX3_leavesOne_X3_after : GoodIn wsX3_leavesOne (wsV RX3 97 RX3 yX3_after wsX3_after) := goodIn_app (goodIn_of _ (by decide +kernel)) ggX3_leavesOne_X3_after
set_option maxRecDepth 20000 in
theorem ggX3_leavesOne_J13_bitCount_95d88 : GoodIn wsX3_leavesOne wsJ13_bitCount_95d88 := goodIn_r _ [29, 30, 31, 32] (by decide +kernel) (by decide +kernel)
set_option maxRecDepth 20000 in
theorem gX3_leavesOne_J13_bitCount_95d88 : GoodIn wsX3_leavesOne (va_wsS RX3 91 yJ13_bitCount_95d88 wsJ13_bitCount_95d88) := goodIn_app (goodIn_of _ (by decide +kernel)) ggX3_leavesOne_J13_bitCount_95d88
theorem dX3_leavesOne_0 : decode cX3_leavesOne 0 = .ok (.aload_n 0, 1) := by decide +kernel
theorem dX3_leavesOne_1 : decode cX3_leavesOne 1 = .ok (.invokevirtual 100, 3) := by decide +kernel
theorem dX3_leavesOne_4 : decode cX3_leavesOne 4 = .ok (.lstore_n 3, 1) := by decide +kernel
theorem dX3_leavesOne_5 : decode cX3_leavesOne 5 = .ok (.iconst 0, 1) := by decide +kernel
theorem dX3_leavesOne_6 : decode cX3_leavesOne 6 = .ok (.istore 5, 2) := by decide +kernel
theorem dX3_leavesOne_8 : decode cX3_leavesOne 8 = .ok (.iload 5, 2) := by decide +kernel
theorem dX3_leavesOne_10 : decode cX3_leavesOne 10 = .ok (.iload_n 1, 1) := by decide +kernel
theorem dX3_leavesOne_11 : decode cX3_leavesOne 11 = .ok (.if_icmp .ge 30, 3) := by decide +kernel
theorem dX3_leavesOne_14 : decode cX3_leavesOne 14 = .ok (.aload_n 0, 1) := by decide +kernel
theorem dX3_leavesOne_15 : decode cX3_leavesOne 15 = .ok (.lload_n 3, 1) := by decide +kernel
theorem dX3_leavesOne_16 : decode cX3_leavesOne 16 = .ok (.iload_n 2, 1) := by decide +kernel
theorem dX3_leavesOne_17 : decode cX3_leavesOne 17 = .ok (.invokevirtual 97, 3) := by decide +kernel
theorem dX3_leavesOne_20 : decode cX3_leavesOne 20 = .ok (.lstore 6, 2) := by decide +kernel
theorem dX3_leavesOne_22 : decode cX3_leavesOne 22 = .ok (.lload 6, 2) := by decide +kernel
theorem dX3_leavesOne_24 : decode cX3_leavesOne 24 = .ok (.lload_n 3, 1) := by decide +kernel
theorem dX3_leavesOne_25 : decode cX3_leavesOne 25 = .ok (.lcmp, 1) := by decide +kernel
theorem dX3_leavesOne_26 : decode cX3_leavesOne 26 = .ok (.ifCond .ne 6, 3) := by decide +kernel
theorem dX3_leavesOne_29 : decode cX3_leavesOne 29 = .ok (.goto 12, 3) := by decide +kernel
theorem dX3_leavesOne_32 : decode cX3_leavesOne 32 = .ok (.lload 6, 2) := by decide +kernel
theorem dX3_leavesOne_34 : decode cX3_leavesOne 34 = .ok (.lstore_n 3, 1) := by decide +kernel
theorem dX3_leavesOne_35 : decode cX3_leavesOne 35 = .ok (.iinc 5 1, 3) := by decide +kernel
theorem dX3_leavesOne_38 : decode cX3_leavesOne 38 = .ok (.goto (-30), 3) := by decide +kernel
theorem dX3_leavesOne_41 : decode cX3_leavesOne 41 = .ok (.lload_n 3, 1) := by decide +kernel
theorem dX3_leavesOne_42 : decode cX3_leavesOne 42 = .ok (.invokestatic 91, 3) := by decide +kernel
theorem dX3_leavesOne_45 : decode cX3_leavesOne 45 = .ok (.iconst 1, 1) := by decide +kernel
theorem dX3_leavesOne_46 : decode cX3_leavesOne 46 = .ok (.if_icmp .ne 7, 3) := by decide +kernel
theorem dX3_leavesOne_49 : decode cX3_leavesOne 49 = .ok (.iconst 1, 1) := by decide +kernel
theorem dX3_leavesOne_50 : decode cX3_leavesOne 50 = .ok (.goto 4, 3) := by decide +kernel
theorem dX3_leavesOne_53 : decode cX3_leavesOne 53 = .ok (.iconst 0, 1) := by decide +kernel
theorem dX3_leavesOne_54 : decode cX3_leavesOne 54 = .ok (.ireturn, 1) := by decide +kernel
set_option maxRecDepth 20000 in
theorem ggX3_surely_X0_openInputs : GoodIn wsX3_surely wsX0_openInputs := goodIn_r _ [8, 9, 10, 11, 36, 37, 38, 39, 40, 41, 42, 43, 44, 45, 46, 47, 48, 49, 50] (by decide +kernel) (by decide +kernel)
set_option maxRecDepth 20000 in
theorem gX3_surely_X0_openInputs : GoodIn wsX3_surely (wsV RX3 30 RX0 yX0_openInputs wsX0_openInputs) := goodIn_app (goodIn_of _ (by decide +kernel)) ggX3_surely_X0_openInputs
set_option maxRecDepth 20000 in
theorem ggX3_surely_X3_evaluate : GoodIn wsX3_surely wsX3_evaluate := goodIn_r _ [16, 1, 17, 18, 19, 2, 20, 21, 22, 23, 15, 24, 3, 25, 26, 27, 28, 29, 30, 31, 32, 33, 34, 35, 36, 37, 38, 39, 40, 41, 42, 43, 44, 45, 46, 47, 48, 49, 50] (by decide +kernel) (by decide +kernel)
set_option maxRecDepth 20000 in
theorem gX3_surely_X3_evaluate : GoodIn wsX3_surely (wsV RX3 34 RX3 yX3_evaluate wsX3_evaluate) := goodIn_app (goodIn_of _ (by decide +kernel)) ggX3_surely_X3_evaluate
theorem dX3_surely_0 : decode cX3_surely 0 = .ok (.iconst 0, 1) := by decide +kernel
theorem dX3_surely_1 : decode cX3_surely 1 = .ok (.istore 4, 2) := by decide +kernel
theorem dX3_surely_3 : decode cX3_surely 3 = .ok (.iconst 0, 1) := by decide +kernel
theorem dX3_surely_4 : decode cX3_surely 4 = .ok (.istore 5, 2) := by decide +kernel
theorem dX3_surely_6 : decode cX3_surely 6 = .ok (.iconst 1, 1) := by decide +kernel
theorem dX3_surely_7 : decode cX3_surely 7 = .ok (.aload_n 0, 1) := by decide +kernel
theorem dX3_surely_8 : decode cX3_surely 8 = .ok (.getfield 18, 3) := by decide +kernel
theorem dX3_surely_11 : decode cX3_surely 11 = .ok (.iconst 0, 1) := by decide +kernel
theorem dX3_surely_12 : decode cX3_surely 12 = .ok (.invokevirtual 30, 3) := by decide +kernel
theorem dX3_surely_15 : decode cX3_surely 15 = .ok (.ishl, 1) := by decide +kernel
theorem dX3_surely_16 : decode cX3_surely 16 = .ok (.istore 6, 2) := by decide +kernel
theorem dX3_surely_18 : decode cX3_surely 18 = .ok (.iconst 0, 1) := by decide +kernel
theorem dX3_surely_19 : decode cX3_surely 19 = .ok (.istore 7, 2) := by decide +kernel
theorem dX3_surely_21 : decode cX3_surely 21 = .ok (.iload 7, 2) := by decide +kernel
theorem dX3_surely_23 : decode cX3_surely 23 = .ok (.iload 6, 2) := by decide +kernel
theorem dX3_surely_25 : decode cX3_surely 25 = .ok (.if_icmp .ge 66, 3) := by decide +kernel
theorem dX3_surely_28 : decode cX3_surely 28 = .ok (.aload_n 0, 1) := by decide +kernel
theorem dX3_surely_29 : decode cX3_surely 29 = .ok (.iload 7, 2) := by decide +kernel
theorem dX3_surely_31 : decode cX3_surely 31 = .ok (.iconst 0, 1) := by decide +kernel
theorem dX3_surely_32 : decode cX3_surely 32 = .ok (.invokevirtual 34, 3) := by decide +kernel
theorem dX3_surely_35 : decode cX3_surely 35 = .ok (.iload 4, 2) := by decide +kernel
theorem dX3_surely_37 : decode cX3_surely 37 = .ok (.aload_n 0, 1) := by decide +kernel
theorem dX3_surely_38 : decode cX3_surely 38 = .ok (.getfield 9, 3) := by decide +kernel
theorem dX3_surely_41 : decode cX3_surely 41 = .ok (.iload_n 1, 1) := by decide +kernel
theorem dX3_surely_42 : decode cX3_surely 42 = .ok (.laload, 1) := by decide +kernel
theorem dX3_surely_43 : decode cX3_surely 43 = .ok (.lload_n 2, 1) := by decide +kernel
theorem dX3_surely_44 : decode cX3_surely 44 = .ok (.land, 1) := by decide +kernel
theorem dX3_surely_45 : decode cX3_surely 45 = .ok (.lconst 0, 1) := by decide +kernel
theorem dX3_surely_46 : decode cX3_surely 46 = .ok (.lcmp, 1) := by decide +kernel
theorem dX3_surely_47 : decode cX3_surely 47 = .ok (.ifCond .eq 7, 3) := by decide +kernel
theorem dX3_surely_50 : decode cX3_surely 50 = .ok (.iconst 1, 1) := by decide +kernel
theorem dX3_surely_51 : decode cX3_surely 51 = .ok (.goto 4, 3) := by decide +kernel
theorem dX3_surely_54 : decode cX3_surely 54 = .ok (.iconst 0, 1) := by decide +kernel
theorem dX3_surely_55 : decode cX3_surely 55 = .ok (.ior, 1) := by decide +kernel
theorem dX3_surely_56 : decode cX3_surely 56 = .ok (.istore 4, 2) := by decide +kernel
theorem dX3_surely_58 : decode cX3_surely 58 = .ok (.iload 5, 2) := by decide +kernel
theorem dX3_surely_60 : decode cX3_surely 60 = .ok (.aload_n 0, 1) := by decide +kernel
theorem dX3_surely_61 : decode cX3_surely 61 = .ok (.getfield 9, 3) := by decide +kernel
theorem dX3_surely_64 : decode cX3_surely 64 = .ok (.iload_n 1, 1) := by decide +kernel
theorem dX3_surely_65 : decode cX3_surely 65 = .ok (.laload, 1) := by decide +kernel
theorem dX3_surely_66 : decode cX3_surely 66 = .ok (.ldc2_w 28, 3) := by decide +kernel
theorem dX3_surely_69 : decode cX3_surely 69 = .ok (.lxor, 1) := by decide +kernel
theorem dX3_surely_70 : decode cX3_surely 70 = .ok (.lload_n 2, 1) := by decide +kernel
theorem dX3_surely_71 : decode cX3_surely 71 = .ok (.land, 1) := by decide +kernel
theorem dX3_surely_72 : decode cX3_surely 72 = .ok (.lconst 0, 1) := by decide +kernel
theorem dX3_surely_73 : decode cX3_surely 73 = .ok (.lcmp, 1) := by decide +kernel
theorem dX3_surely_74 : decode cX3_surely 74 = .ok (.ifCond .eq 7, 3) := by decide +kernel
theorem dX3_surely_77 : decode cX3_surely 77 = .ok (.iconst 1, 1) := by decide +kernel
theorem dX3_surely_78 : decode cX3_surely 78 = .ok (.goto 4, 3) := by decide +kernel
theorem dX3_surely_81 : decode cX3_surely 81 = .ok (.iconst 0, 1) := by decide +kernel
theorem dX3_surely_82 : decode cX3_surely 82 = .ok (.ior, 1) := by decide +kernel
theorem dX3_surely_83 : decode cX3_surely 83 = .ok (.istore 5, 2) := by decide +kernel
theorem dX3_surely_85 : decode cX3_surely 85 = .ok (.iinc 7 1, 3) := by decide +kernel
theorem dX3_surely_88 : decode cX3_surely 88 = .ok (.goto (-67), 3) := by decide +kernel
theorem dX3_surely_91 : decode cX3_surely 91 = .ok (.iload 4, 2) := by decide +kernel
theorem dX3_surely_93 : decode cX3_surely 93 = .ok (.ifCond .eq 10, 3) := by decide +kernel
theorem dX3_surely_96 : decode cX3_surely 96 = .ok (.iload 5, 2) := by decide +kernel
theorem dX3_surely_98 : decode cX3_surely 98 = .ok (.ifCond .eq 5, 3) := by decide +kernel
theorem dX3_surely_101 : decode cX3_surely 101 = .ok (.iconst 2, 1) := by decide +kernel
theorem dX3_surely_102 : decode cX3_surely 102 = .ok (.ireturn, 1) := by decide +kernel
theorem dX3_surely_103 : decode cX3_surely 103 = .ok (.iload 4, 2) := by decide +kernel
theorem dX3_surely_105 : decode cX3_surely 105 = .ok (.ifCond .eq 7, 3) := by decide +kernel
theorem dX3_surely_108 : decode cX3_surely 108 = .ok (.iconst 1, 1) := by decide +kernel
theorem dX3_surely_109 : decode cX3_surely 109 = .ok (.goto 4, 3) := by decide +kernel
theorem dX3_surely_112 : decode cX3_surely 112 = .ok (.iconst 0, 1) := by decide +kernel
theorem dX3_surely_113 : decode cX3_surely 113 = .ok (.ireturn, 1) := by decide +kernel
theorem dX3_sureStores_0 : decode cX3_sureStores 0 = .ok (.iconst 0, 1) := by decide +kernel
theorem dX3_sureStores_1 : decode cX3_sureStores 1 = .ok (.istore_n 3, 1) := by decide +kernel
theorem dX3_sureStores_2 : decode cX3_sureStores 2 = .ok (.iconst 0, 1) := by decide +kernel
theorem dX3_sureStores_3 : decode cX3_sureStores 3 = .ok (.istore 4, 2) := by decide +kernel
theorem dX3_sureStores_5 : decode cX3_sureStores 5 = .ok (.iload 4, 2) := by decide +kernel
theorem dX3_sureStores_7 : decode cX3_sureStores 7 = .ok (.aload_n 0, 1) := by decide +kernel
theorem dX3_sureStores_8 : decode cX3_sureStores 8 = .ok (.getfield 18, 3) := by decide +kernel
theorem dX3_sureStores_11 : decode cX3_sureStores 11 = .ok (.getfield 78, 3) := by decide +kernel
theorem dX3_sureStores_14 : decode cX3_sureStores 14 = .ok (.if_icmp .ge 36, 3) := by decide +kernel
theorem dX3_sureStores_17 : decode cX3_sureStores 17 = .ok (.getstatic 60, 3) := by decide +kernel
theorem dX3_sureStores_20 : decode cX3_sureStores 20 = .ok (.iload 4, 2) := by decide +kernel
theorem dX3_sureStores_22 : decode cX3_sureStores 22 = .ok (.laload, 1) := by decide +kernel
theorem dX3_sureStores_23 : decode cX3_sureStores 23 = .ok (.lload_n 1, 1) := by decide +kernel
theorem dX3_sureStores_24 : decode cX3_sureStores 24 = .ok (.land, 1) := by decide +kernel
theorem dX3_sureStores_25 : decode cX3_sureStores 25 = .ok (.lstore 5, 2) := by decide +kernel
theorem dX3_sureStores_27 : decode cX3_sureStores 27 = .ok (.lload 5, 2) := by decide +kernel
theorem dX3_sureStores_29 : decode cX3_sureStores 29 = .ok (.lconst 0, 1) := by decide +kernel
theorem dX3_sureStores_30 : decode cX3_sureStores 30 = .ok (.lcmp, 1) := by decide +kernel
theorem dX3_sureStores_31 : decode cX3_sureStores 31 = .ok (.ifCond .eq 10, 3) := by decide +kernel
theorem dX3_sureStores_34 : decode cX3_sureStores 34 = .ok (.lload 5, 2) := by decide +kernel
theorem dX3_sureStores_36 : decode cX3_sureStores 36 = .ok (.lload_n 1, 1) := by decide +kernel
theorem dX3_sureStores_37 : decode cX3_sureStores 37 = .ok (.lcmp, 1) := by decide +kernel
theorem dX3_sureStores_38 : decode cX3_sureStores 38 = .ok (.ifCond .ne 6, 3) := by decide +kernel
theorem dX3_sureStores_41 : decode cX3_sureStores 41 = .ok (.iinc 3 1, 3) := by decide +kernel
theorem dX3_sureStores_44 : decode cX3_sureStores 44 = .ok (.iinc 4 1, 3) := by decide +kernel
theorem dX3_sureStores_47 : decode cX3_sureStores 47 = .ok (.goto (-42), 3) := by decide +kernel
theorem dX3_sureStores_50 : decode cX3_sureStores 50 = .ok (.iload_n 3, 1) := by decide +kernel
theorem dX3_sureStores_51 : decode cX3_sureStores 51 = .ok (.ireturn, 1) := by decide +kernel
set_option maxRecDepth 20000 in
theorem ggX4_init_X0_init : GoodIn wsX4_init wsX0_init := goodIn_r _ [24, 25, 2, 3, 26, 27, 28, 29, 30, 31, 32, 33, 34, 35, 36, 37, 38, 60, 61, 62, 63, 64, 65, 66, 67, 68, 69, 70, 71, 72, 73, 74] (by decide +kernel) (by decide +kernel)
set_option maxRecDepth 20000 in
theorem gX4_init_X0_init_n9 : GoodIn wsX4_init (wsX0_init) := ggX4_init_X0_init
set_option maxRecDepth 20000 in
theorem ggX4_init_X3_init : GoodIn wsX4_init wsX3_init := goodIn_r _ [41, 42, 2, 3, 43, 44, 45, 46, 82, 83, 84] (by decide +kernel) (by decide +kernel)
set_option maxRecDepth 20000 in
theorem gX4_init_X3_init : GoodIn wsX4_init (wsX3_init) := ggX4_init_X3_init
set_option maxRecDepth 20000 in
theorem ggX4_init_X2_init : GoodIn wsX4_init wsX2_init := goodIn_r _ [49, 50, 2, 3, 26, 51, 52, 53, 85, 86, 87] (by decide +kernel) (by decide +kernel)
set_option maxRecDepth 20000 in
theorem gX4_init_X2_init : GoodIn wsX4_init (wsX2_init) := ggX4_init_X2_init
set_option maxRecDepth 20000 in
theorem ggX4_init_X1_init : GoodIn wsX4_init wsX1_init := goodIn_r _ [56, 57, 2, 3, 26, 58, 59, 88, 89] (by decide +kernel) (by decide +kernel)
set_option maxRecDepth 20000 in
theorem gX4_init_X1_init : GoodIn wsX4_init (wsX1_init) := ggX4_init_X1_init
theorem dX4_init_0 : decode cX4_init 0 = .ok (.aload_n 0, 1) := by decide +kernel
theorem dX4_init_1 : decode cX4_init 1 = .ok (.invokespecial 1, 3) := by decide +kernel
theorem dX4_init_4 : decode cX4_init 4 = .ok (.aload_n 0, 1) := by decide +kernel
theorem dX4_init_5 : decode cX4_init 5 = .ok (.new 7, 3) := by decide +kernel
theorem dX4_init_8 : decode cX4_init 8 = .ok (.dup, 1) := by decide +kernel
theorem dX4_init_9 : decode cX4_init 9 = .ok (.invokespecial 9, 3) := by decide +kernel
theorem dX4_init_12 : decode cX4_init 12 = .ok (.putfield 10, 3) := by decide +kernel
theorem dX4_init_15 : decode cX4_init 15 = .ok (.aload_n 0, 1) := by decide +kernel
theorem dX4_init_16 : decode cX4_init 16 = .ok (.new 16, 3) := by decide +kernel
theorem dX4_init_19 : decode cX4_init 19 = .ok (.dup, 1) := by decide +kernel
theorem dX4_init_20 : decode cX4_init 20 = .ok (.aload_n 0, 1) := by decide +kernel
theorem dX4_init_21 : decode cX4_init 21 = .ok (.getfield 10, 3) := by decide +kernel
theorem dX4_init_24 : decode cX4_init 24 = .ok (.invokespecial 18, 3) := by decide +kernel
theorem dX4_init_27 : decode cX4_init 27 = .ok (.putfield 21, 3) := by decide +kernel
theorem dX4_init_30 : decode cX4_init 30 = .ok (.aload_n 0, 1) := by decide +kernel
theorem dX4_init_31 : decode cX4_init 31 = .ok (.new 25, 3) := by decide +kernel
theorem dX4_init_34 : decode cX4_init 34 = .ok (.dup, 1) := by decide +kernel
theorem dX4_init_35 : decode cX4_init 35 = .ok (.aload_n 0, 1) := by decide +kernel
theorem dX4_init_36 : decode cX4_init 36 = .ok (.getfield 10, 3) := by decide +kernel
theorem dX4_init_39 : decode cX4_init 39 = .ok (.invokespecial 27, 3) := by decide +kernel
theorem dX4_init_42 : decode cX4_init 42 = .ok (.putfield 28, 3) := by decide +kernel
theorem dX4_init_45 : decode cX4_init 45 = .ok (.aload_n 0, 1) := by decide +kernel
theorem dX4_init_46 : decode cX4_init 46 = .ok (.new 32, 3) := by decide +kernel
theorem dX4_init_49 : decode cX4_init 49 = .ok (.dup, 1) := by decide +kernel
theorem dX4_init_50 : decode cX4_init 50 = .ok (.invokespecial 34, 3) := by decide +kernel
theorem dX4_init_53 : decode cX4_init 53 = .ok (.putfield 35, 3) := by decide +kernel
theorem dX4_init_56 : decode cX4_init 56 = .ok (.aload_n 0, 1) := by decide +kernel
theorem dX4_init_57 : decode cX4_init 57 = .ok (.lconst 1, 1) := by decide +kernel
theorem dX4_init_58 : decode cX4_init 58 = .ok (.putfield 39, 3) := by decide +kernel
theorem dX4_init_61 : decode cX4_init 61 = .ok (.aload_n 0, 1) := by decide +kernel
theorem dX4_init_62 : decode cX4_init 62 = .ok (.iconst 0, 1) := by decide +kernel
theorem dX4_init_63 : decode cX4_init 63 = .ok (.putfield 43, 3) := by decide +kernel
theorem dX4_init_66 : decode cX4_init 66 = .ok (.aload_n 0, 1) := by decide +kernel
theorem dX4_init_67 : decode cX4_init 67 = .ok (.iconst 0, 1) := by decide +kernel
theorem dX4_init_68 : decode cX4_init 68 = .ok (.putfield 47, 3) := by decide +kernel
theorem dX4_init_71 : decode cX4_init 71 = .ok (.return_, 1) := by decide +kernel
set_option maxRecDepth 20000 in
theorem ggX4_input_X0_isFull : GoodIn wsX4_input wsX0_isFull := goodIn_r _ [7, 8, 54, 55, 56, 57, 58, 59, 60, 61, 62, 63, 64, 65, 66, 67, 68] (by decide +kernel) (by decide +kernel)
set_option maxRecDepth 20000 in
theorem gX4_input_X0_isFull : GoodIn wsX4_input (wsV RX4 53 RX0 yX0_isFull wsX0_isFull) := goodIn_app (goodIn_of _ (by decide +kernel)) ggX4_input_X0_isFull
set_option maxRecDepth 20000 in
theorem ggX4_input_X0_addInput : GoodIn wsX4_input wsX0_addInput := goodIn_r _ [12, 13, 14, 15, 16, 17, 6, 18, 8, 19, 54, 55, 56, 57, 58, 59, 60, 61, 62, 63, 64, 65, 66, 67, 68] (by decide +kernel) (by decide +kernel)
set_option maxRecDepth 20000 in
theorem gX4_input_X0_addInput : GoodIn wsX4_input (wsV RX4 57 RX0 yX0_addInput wsX0_addInput) := goodIn_app (goodIn_of _ (by decide +kernel)) ggX4_input_X0_addInput
set_option maxRecDepth 20000 in
theorem ggX4_input_X4_beginAgain : GoodIn wsX4_input wsX4_beginAgain := goodIn_r _ [24, 25, 26, 27, 28, 29, 30, 31, 32, 33, 34, 35, 36, 37, 38, 6, 39, 40, 41, 42, 43, 44, 45, 46, 47, 48, 49, 50, 51, 52, 53, 69, 70, 71, 54, 55, 56, 57, 58, 59, 60, 61, 62, 63, 64, 65, 66, 67, 68, 72, 73, 74] (by decide +kernel) (by decide +kernel)
set_option maxRecDepth 20000 in
theorem gX4_input_X4_beginAgain : GoodIn wsX4_input (wsV RX4 61 RX4 yX4_beginAgain wsX4_beginAgain) := goodIn_app (goodIn_of _ (by decide +kernel)) ggX4_input_X4_beginAgain
theorem dX4_input_0 : decode cX4_input 0 = .ok (.aload_n 0, 1) := by decide +kernel
theorem dX4_input_1 : decode cX4_input 1 = .ok (.getfield 10, 3) := by decide +kernel
theorem dX4_input_4 : decode cX4_input 4 = .ok (.getfield 50, 3) := by decide +kernel
theorem dX4_input_7 : decode cX4_input 7 = .ok (.iconst 4, 1) := by decide +kernel
theorem dX4_input_8 : decode cX4_input 8 = .ok (.if_icmp .ge 13, 3) := by decide +kernel
theorem dX4_input_11 : decode cX4_input 11 = .ok (.aload_n 0, 1) := by decide +kernel
theorem dX4_input_12 : decode cX4_input 12 = .ok (.getfield 10, 3) := by decide +kernel
theorem dX4_input_15 : decode cX4_input 15 = .ok (.invokevirtual 53, 3) := by decide +kernel
theorem dX4_input_18 : decode cX4_input 18 = .ok (.ifCond .eq 6, 3) := by decide +kernel
theorem dX4_input_21 : decode cX4_input 21 = .ok (.bipush (-4), 2) := by decide +kernel
theorem dX4_input_23 : decode cX4_input 23 = .ok (.ireturn, 1) := by decide +kernel
theorem dX4_input_24 : decode cX4_input 24 = .ok (.aload_n 0, 1) := by decide +kernel
theorem dX4_input_25 : decode cX4_input 25 = .ok (.getfield 10, 3) := by decide +kernel
theorem dX4_input_28 : decode cX4_input 28 = .ok (.invokevirtual 57, 3) := by decide +kernel
theorem dX4_input_31 : decode cX4_input 31 = .ok (.istore_n 1, 1) := by decide +kernel
theorem dX4_input_32 : decode cX4_input 32 = .ok (.aload_n 0, 1) := by decide +kernel
theorem dX4_input_33 : decode cX4_input 33 = .ok (.invokevirtual 61, 3) := by decide +kernel
theorem dX4_input_36 : decode cX4_input 36 = .ok (.iload_n 1, 1) := by decide +kernel
theorem dX4_input_37 : decode cX4_input 37 = .ok (.ireturn, 1) := by decide +kernel
set_option maxRecDepth 20000 in
theorem ggX4_fixed_X4_isBit : GoodIn wsX4_fixed wsX4_isBit := goodIn_r _ [5] (by decide +kernel) (by decide +kernel)
set_option maxRecDepth 20000 in
theorem gX4_fixed_X4_isBit : GoodIn wsX4_fixed (va_wsS RX4 64 yX4_isBit wsX4_isBit) := goodIn_app (goodIn_of _ (by decide +kernel)) ggX4_fixed_X4_isBit
set_option maxRecDepth 20000 in
theorem ggX4_fixed_X0_isFull : GoodIn wsX4_fixed wsX0_isFull := goodIn_r _ [10, 11, 55, 56, 57, 58, 59, 60, 61, 62, 63, 64, 65, 66, 67, 68, 69] (by decide +kernel) (by decide +kernel)
set_option maxRecDepth 20000 in
theorem gX4_fixed_X0_isFull : GoodIn wsX4_fixed (wsV RX4 53 RX0 yX0_isFull wsX0_isFull) := goodIn_app (goodIn_of _ (by decide +kernel)) ggX4_fixed_X0_isFull
set_option maxRecDepth 20000 in
theorem ggX4_fixed_X0_addFixed : GoodIn wsX4_fixed wsX0_addFixed := goodIn_r _ [15, 16, 17, 18, 19, 9, 20, 11, 21, 55, 56, 57, 58, 59, 60, 61, 62, 63, 64, 65, 66, 67, 68, 69] (by decide +kernel) (by decide +kernel)
set_option maxRecDepth 20000 in
theorem gX4_fixed_X0_addFixed : GoodIn wsX4_fixed (wsV RX4 68 RX0 yX0_addFixed wsX0_addFixed) := goodIn_app (goodIn_of _ (by decide +kernel)) ggX4_fixed_X0_addFixed
set_option maxRecDepth 20000 in
theorem ggX4_fixed_X4_beginAgain : GoodIn wsX4_fixed wsX4_beginAgain := goodIn_r _ [25, 26, 27, 28, 29, 30, 31, 32, 33, 34, 35, 36, 37, 38, 39, 9, 40, 41, 42, 43, 44, 45, 46, 47, 48, 49, 50, 51, 52, 53, 54, 70, 71, 72, 55, 56, 57, 58, 59, 60, 61, 62, 63, 64, 65, 66, 67, 68, 69, 73, 74, 75] (by decide +kernel) (by decide +kernel)
set_option maxRecDepth 20000 in
theorem gX4_fixed_X4_beginAgain : GoodIn wsX4_fixed (wsV RX4 61 RX4 yX4_beginAgain wsX4_beginAgain) := goodIn_app (goodIn_of _ (by decide +kernel)) ggX4_fixed_X4_beginAgain
theorem dX4_fixed_0 : decode cX4_fixed 0 = .ok (.iload_n 1, 1) := by decide +kernel
theorem dX4_fixed_1 : decode cX4_fixed 1 = .ok (.invokestatic 64, 3) := by decide +kernel
theorem dX4_fixed_4 : decode cX4_fixed 4 = .ok (.ifCond .ne 6, 3) := by decide +kernel
theorem dX4_fixed_7 : decode cX4_fixed 7 = .ok (.bipush (-2), 2) := by decide +kernel
theorem dX4_fixed_9 : decode cX4_fixed 9 = .ok (.ireturn, 1) := by decide +kernel
theorem dX4_fixed_10 : decode cX4_fixed 10 = .ok (.aload_n 0, 1) := by decide +kernel
theorem dX4_fixed_11 : decode cX4_fixed 11 = .ok (.getfield 10, 3) := by decide +kernel
theorem dX4_fixed_14 : decode cX4_fixed 14 = .ok (.invokevirtual 53, 3) := by decide +kernel
theorem dX4_fixed_17 : decode cX4_fixed 17 = .ok (.ifCond .eq 6, 3) := by decide +kernel
theorem dX4_fixed_20 : decode cX4_fixed 20 = .ok (.bipush (-4), 2) := by decide +kernel
theorem dX4_fixed_22 : decode cX4_fixed 22 = .ok (.ireturn, 1) := by decide +kernel
theorem dX4_fixed_23 : decode cX4_fixed 23 = .ok (.aload_n 0, 1) := by decide +kernel
theorem dX4_fixed_24 : decode cX4_fixed 24 = .ok (.getfield 10, 3) := by decide +kernel
theorem dX4_fixed_27 : decode cX4_fixed 27 = .ok (.iload_n 1, 1) := by decide +kernel
theorem dX4_fixed_28 : decode cX4_fixed 28 = .ok (.invokevirtual 68, 3) := by decide +kernel
theorem dX4_fixed_31 : decode cX4_fixed 31 = .ok (.istore_n 2, 1) := by decide +kernel
theorem dX4_fixed_32 : decode cX4_fixed 32 = .ok (.aload_n 0, 1) := by decide +kernel
theorem dX4_fixed_33 : decode cX4_fixed 33 = .ok (.invokevirtual 61, 3) := by decide +kernel
theorem dX4_fixed_36 : decode cX4_fixed 36 = .ok (.iload_n 2, 1) := by decide +kernel
theorem dX4_fixed_37 : decode cX4_fixed 37 = .ok (.ireturn, 1) := by decide +kernel
set_option maxRecDepth 20000 in
theorem ggX4_gate_X0_isNode : GoodIn wsX4_gate wsX0_isNode := goodIn_r _ [6, 7, 59, 60, 61, 62, 63, 64, 65, 66, 67, 68, 69, 70, 71, 72, 73] (by decide +kernel) (by decide +kernel)
set_option maxRecDepth 20000 in
theorem gX4_gate_X0_isNode : GoodIn wsX4_gate (wsV RX4 72 RX0 yX0_isNode wsX0_isNode) := goodIn_app (goodIn_of _ (by decide +kernel)) ggX4_gate_X0_isNode
set_option maxRecDepth 20000 in
theorem ggX4_gate_X0_isFull : GoodIn wsX4_gate wsX0_isFull := goodIn_r _ [11, 7, 59, 60, 61, 62, 63, 64, 65, 66, 67, 68, 69, 70, 71, 72, 73] (by decide +kernel) (by decide +kernel)
set_option maxRecDepth 20000 in
theorem gX4_gate_X0_isFull : GoodIn wsX4_gate (wsV RX4 53 RX0 yX0_isFull wsX0_isFull) := goodIn_app (goodIn_of _ (by decide +kernel)) ggX4_gate_X0_isFull
set_option maxRecDepth 20000 in
theorem ggX4_gate_X0_addGate : GoodIn wsX4_gate wsX0_addGate := goodIn_r _ [15, 16, 17, 18, 19, 20, 21, 22, 5, 23, 7, 24, 59, 60, 61, 62, 63, 64, 65, 66, 67, 68, 69, 70, 71, 72, 73] (by decide +kernel) (by decide +kernel)
set_option maxRecDepth 20000 in
theorem gX4_gate_X0_addGate : GoodIn wsX4_gate (wsV RX4 75 RX0 yX0_addGate wsX0_addGate) := goodIn_app (goodIn_of _ (by decide +kernel)) ggX4_gate_X0_addGate
set_option maxRecDepth 20000 in
theorem ggX4_gate_X4_beginAgain : GoodIn wsX4_gate wsX4_beginAgain := goodIn_r _ [29, 30, 31, 32, 33, 34, 35, 36, 37, 38, 39, 40, 41, 42, 43, 5, 44, 45, 46, 47, 48, 49, 50, 51, 52, 53, 54, 55, 56, 57, 58, 74, 75, 76, 59, 60, 61, 62, 63, 64, 65, 66, 67, 68, 69, 70, 71, 72, 73, 77, 78, 79] (by decide +kernel) (by decide +kernel)
set_option maxRecDepth 20000 in
theorem gX4_gate_X4_beginAgain : GoodIn wsX4_gate (wsV RX4 61 RX4 yX4_beginAgain wsX4_beginAgain) := goodIn_app (goodIn_of _ (by decide +kernel)) ggX4_gate_X4_beginAgain
theorem dX4_gate_0 : decode cX4_gate 0 = .ok (.iload_n 1, 1) := by decide +kernel
theorem dX4_gate_1 : decode cX4_gate 1 = .ok (.ifCond .lt 8, 3) := by decide +kernel
theorem dX4_gate_4 : decode cX4_gate 4 = .ok (.iload_n 1, 1) := by decide +kernel
theorem dX4_gate_5 : decode cX4_gate 5 = .ok (.iconst 4, 1) := by decide +kernel
theorem dX4_gate_6 : decode cX4_gate 6 = .ok (.if_icmp .le 6, 3) := by decide +kernel
theorem dX4_gate_9 : decode cX4_gate 9 = .ok (.bipush (-2), 2) := by decide +kernel
theorem dX4_gate_11 : decode cX4_gate 11 = .ok (.ireturn, 1) := by decide +kernel
theorem dX4_gate_12 : decode cX4_gate 12 = .ok (.iload_n 1, 1) := by decide +kernel
theorem dX4_gate_13 : decode cX4_gate 13 = .ok (.ifCond .eq 7, 3) := by decide +kernel
theorem dX4_gate_16 : decode cX4_gate 16 = .ok (.iconst 1, 1) := by decide +kernel
theorem dX4_gate_17 : decode cX4_gate 17 = .ok (.goto 4, 3) := by decide +kernel
theorem dX4_gate_20 : decode cX4_gate 20 = .ok (.iconst 0, 1) := by decide +kernel
theorem dX4_gate_21 : decode cX4_gate 21 = .ok (.istore 5, 2) := by decide +kernel
theorem dX4_gate_23 : decode cX4_gate 23 = .ok (.iload_n 1, 1) := by decide +kernel
theorem dX4_gate_24 : decode cX4_gate 24 = .ok (.iconst 4, 1) := by decide +kernel
theorem dX4_gate_25 : decode cX4_gate 25 = .ok (.if_icmp .ne 7, 3) := by decide +kernel
theorem dX4_gate_28 : decode cX4_gate 28 = .ok (.iconst 1, 1) := by decide +kernel
theorem dX4_gate_29 : decode cX4_gate 29 = .ok (.goto 4, 3) := by decide +kernel
theorem dX4_gate_32 : decode cX4_gate 32 = .ok (.iconst 0, 1) := by decide +kernel
theorem dX4_gate_33 : decode cX4_gate 33 = .ok (.istore 6, 2) := by decide +kernel
theorem dX4_gate_35 : decode cX4_gate 35 = .ok (.aload_n 0, 1) := by decide +kernel
theorem dX4_gate_36 : decode cX4_gate 36 = .ok (.getfield 10, 3) := by decide +kernel
theorem dX4_gate_39 : decode cX4_gate 39 = .ok (.iload_n 2, 1) := by decide +kernel
theorem dX4_gate_40 : decode cX4_gate 40 = .ok (.invokevirtual 72, 3) := by decide +kernel
theorem dX4_gate_43 : decode cX4_gate 43 = .ok (.ifCond .eq 36, 3) := by decide +kernel
theorem dX4_gate_46 : decode cX4_gate 46 = .ok (.iload 5, 2) := by decide +kernel
theorem dX4_gate_48 : decode cX4_gate 48 = .ok (.ifCond .eq 14, 3) := by decide +kernel
theorem dX4_gate_51 : decode cX4_gate 51 = .ok (.aload_n 0, 1) := by decide +kernel
theorem dX4_gate_52 : decode cX4_gate 52 = .ok (.getfield 10, 3) := by decide +kernel
theorem dX4_gate_55 : decode cX4_gate 55 = .ok (.iload_n 3, 1) := by decide +kernel
theorem dX4_gate_56 : decode cX4_gate 56 = .ok (.invokevirtual 72, 3) := by decide +kernel
theorem dX4_gate_59 : decode cX4_gate 59 = .ok (.ifCond .eq 20, 3) := by decide +kernel
theorem dX4_gate_62 : decode cX4_gate 62 = .ok (.iload 6, 2) := by decide +kernel
theorem dX4_gate_64 : decode cX4_gate 64 = .ok (.ifCond .eq 17, 3) := by decide +kernel
theorem dX4_gate_67 : decode cX4_gate 67 = .ok (.aload_n 0, 1) := by decide +kernel
theorem dX4_gate_68 : decode cX4_gate 68 = .ok (.getfield 10, 3) := by decide +kernel
theorem dX4_gate_71 : decode cX4_gate 71 = .ok (.iload 4, 2) := by decide +kernel
theorem dX4_gate_73 : decode cX4_gate 73 = .ok (.invokevirtual 72, 3) := by decide +kernel
theorem dX4_gate_76 : decode cX4_gate 76 = .ok (.ifCond .ne 5, 3) := by decide +kernel
theorem dX4_gate_79 : decode cX4_gate 79 = .ok (.iconst (-1), 1) := by decide +kernel
theorem dX4_gate_80 : decode cX4_gate 80 = .ok (.ireturn, 1) := by decide +kernel
theorem dX4_gate_81 : decode cX4_gate 81 = .ok (.aload_n 0, 1) := by decide +kernel
theorem dX4_gate_82 : decode cX4_gate 82 = .ok (.getfield 10, 3) := by decide +kernel
theorem dX4_gate_85 : decode cX4_gate 85 = .ok (.invokevirtual 53, 3) := by decide +kernel
theorem dX4_gate_88 : decode cX4_gate 88 = .ok (.ifCond .eq 6, 3) := by decide +kernel
theorem dX4_gate_91 : decode cX4_gate 91 = .ok (.bipush (-4), 2) := by decide +kernel
theorem dX4_gate_93 : decode cX4_gate 93 = .ok (.ireturn, 1) := by decide +kernel
theorem dX4_gate_94 : decode cX4_gate 94 = .ok (.aload_n 0, 1) := by decide +kernel
theorem dX4_gate_95 : decode cX4_gate 95 = .ok (.getfield 10, 3) := by decide +kernel
theorem dX4_gate_98 : decode cX4_gate 98 = .ok (.iload_n 1, 1) := by decide +kernel
theorem dX4_gate_99 : decode cX4_gate 99 = .ok (.iload_n 2, 1) := by decide +kernel
theorem dX4_gate_100 : decode cX4_gate 100 = .ok (.iload 5, 2) := by decide +kernel
theorem dX4_gate_102 : decode cX4_gate 102 = .ok (.ifCond .eq 7, 3) := by decide +kernel
theorem dX4_gate_105 : decode cX4_gate 105 = .ok (.iload_n 3, 1) := by decide +kernel
theorem dX4_gate_106 : decode cX4_gate 106 = .ok (.goto 4, 3) := by decide +kernel
theorem dX4_gate_109 : decode cX4_gate 109 = .ok (.iload_n 2, 1) := by decide +kernel
theorem dX4_gate_110 : decode cX4_gate 110 = .ok (.iload 6, 2) := by decide +kernel
theorem dX4_gate_112 : decode cX4_gate 112 = .ok (.ifCond .eq 8, 3) := by decide +kernel
theorem dX4_gate_115 : decode cX4_gate 115 = .ok (.iload 4, 2) := by decide +kernel
theorem dX4_gate_117 : decode cX4_gate 117 = .ok (.goto 4, 3) := by decide +kernel
theorem dX4_gate_120 : decode cX4_gate 120 = .ok (.iload_n 2, 1) := by decide +kernel
theorem dX4_gate_121 : decode cX4_gate 121 = .ok (.invokevirtual 75, 3) := by decide +kernel
theorem dX4_gate_124 : decode cX4_gate 124 = .ok (.istore 7, 2) := by decide +kernel
theorem dX4_gate_126 : decode cX4_gate 126 = .ok (.aload_n 0, 1) := by decide +kernel
theorem dX4_gate_127 : decode cX4_gate 127 = .ok (.invokevirtual 61, 3) := by decide +kernel
theorem dX4_gate_130 : decode cX4_gate 130 = .ok (.iload 7, 2) := by decide +kernel
theorem dX4_gate_132 : decode cX4_gate 132 = .ok (.ireturn, 1) := by decide +kernel
set_option maxRecDepth 20000 in
theorem ggX4_store_X4_isLine : GoodIn wsX4_store wsX4_isLine := goodIn_r _ [6] (by decide +kernel) (by decide +kernel)
set_option maxRecDepth 20000 in
theorem gX4_store_X4_isLine : GoodIn wsX4_store (va_wsS RX4 79 yX4_isLine wsX4_isLine) := goodIn_app (goodIn_of _ (by decide +kernel)) ggX4_store_X4_isLine
set_option maxRecDepth 20000 in
theorem ggX4_store_X4_isBit : GoodIn wsX4_store wsX4_isBit := goodIn_r _ [9] (by decide +kernel) (by decide +kernel)
set_option maxRecDepth 20000 in
theorem gX4_store_X4_isBit : GoodIn wsX4_store (va_wsS RX4 64 yX4_isBit wsX4_isBit) := goodIn_app (goodIn_of _ (by decide +kernel)) ggX4_store_X4_isBit
set_option maxRecDepth 20000 in
theorem ggX4_store_X0_isFull : GoodIn wsX4_store wsX0_isFull := goodIn_r _ [14, 15, 63, 64, 65, 66, 67, 68, 69, 70, 71, 72, 73, 74, 75, 76, 77] (by decide +kernel) (by decide +kernel)
set_option maxRecDepth 20000 in
theorem gX4_store_X0_isFull : GoodIn wsX4_store (wsV RX4 53 RX0 yX0_isFull wsX0_isFull) := goodIn_app (goodIn_of _ (by decide +kernel)) ggX4_store_X0_isFull
set_option maxRecDepth 20000 in
theorem ggX4_store_X0_addStore : GoodIn wsX4_store wsX0_addStore := goodIn_r _ [19, 20, 21, 22, 23, 24, 25, 26, 27, 28, 13, 29, 15, 30, 63, 64, 65, 66, 67, 68, 69, 70, 71, 72, 73, 74, 75, 76, 77] (by decide +kernel) (by decide +kernel)
set_option maxRecDepth 20000 in
theorem gX4_store_X0_addStore : GoodIn wsX4_store (wsV RX4 85 RX0 yX0_addStore wsX0_addStore) := goodIn_app (goodIn_of _ (by decide +kernel)) ggX4_store_X0_addStore
set_option maxRecDepth 20000 in
theorem ggX4_store_X4_beginAgain : GoodIn wsX4_store wsX4_beginAgain := goodIn_r _ [34, 35, 36, 37, 38, 39, 40, 41, 42, 43, 44, 45, 46, 47, 48, 13, 49, 21, 50, 51, 52, 53, 54, 55, 56, 57, 58, 59, 60, 61, 62, 78, 79, 80, 63, 64, 65, 66, 67, 68, 69, 70, 71, 72, 73, 74, 75, 76, 77, 81, 82, 83] (by decide +kernel) (by decide +kernel)
set_option maxRecDepth 20000 in
theorem gX4_store_X4_beginAgain : GoodIn wsX4_store (wsV RX4 61 RX4 yX4_beginAgain wsX4_beginAgain) := goodIn_app (goodIn_of _ (by decide +kernel)) ggX4_store_X4_beginAgain
theorem dX4_store_0 : decode cX4_store 0 = .ok (.iload_n 1, 1) := by decide +kernel
theorem dX4_store_1 : decode cX4_store 1 = .ok (.bipush (-9), 2) := by decide +kernel
theorem dX4_store_3 : decode cX4_store 3 = .ok (.if_icmp .eq 12, 3) := by decide +kernel
theorem dX4_store_6 : decode cX4_store 6 = .ok (.iload_n 1, 1) := by decide +kernel
theorem dX4_store_7 : decode cX4_store 7 = .ok (.invokestatic 79, 3) := by decide +kernel
theorem dX4_store_10 : decode cX4_store 10 = .ok (.ifCond .ne 5, 3) := by decide +kernel
theorem dX4_store_13 : decode cX4_store 13 = .ok (.iconst (-1), 1) := by decide +kernel
theorem dX4_store_14 : decode cX4_store 14 = .ok (.ireturn, 1) := by decide +kernel
theorem dX4_store_15 : decode cX4_store 15 = .ok (.iload_n 2, 1) := by decide +kernel
theorem dX4_store_16 : decode cX4_store 16 = .ok (.invokestatic 64, 3) := by decide +kernel
theorem dX4_store_19 : decode cX4_store 19 = .ok (.ifCond .ne 6, 3) := by decide +kernel
theorem dX4_store_22 : decode cX4_store 22 = .ok (.bipush (-2), 2) := by decide +kernel
theorem dX4_store_24 : decode cX4_store 24 = .ok (.ireturn, 1) := by decide +kernel
theorem dX4_store_25 : decode cX4_store 25 = .ok (.aload_n 0, 1) := by decide +kernel
theorem dX4_store_26 : decode cX4_store 26 = .ok (.getfield 10, 3) := by decide +kernel
theorem dX4_store_29 : decode cX4_store 29 = .ok (.getfield 82, 3) := by decide +kernel
theorem dX4_store_32 : decode cX4_store 32 = .ok (.bipush 6, 2) := by decide +kernel
theorem dX4_store_34 : decode cX4_store 34 = .ok (.if_icmp .ge 13, 3) := by decide +kernel
theorem dX4_store_37 : decode cX4_store 37 = .ok (.aload_n 0, 1) := by decide +kernel
theorem dX4_store_38 : decode cX4_store 38 = .ok (.getfield 10, 3) := by decide +kernel
theorem dX4_store_41 : decode cX4_store 41 = .ok (.invokevirtual 53, 3) := by decide +kernel
theorem dX4_store_44 : decode cX4_store 44 = .ok (.ifCond .eq 6, 3) := by decide +kernel
theorem dX4_store_47 : decode cX4_store 47 = .ok (.bipush (-4), 2) := by decide +kernel
theorem dX4_store_49 : decode cX4_store 49 = .ok (.ireturn, 1) := by decide +kernel
theorem dX4_store_50 : decode cX4_store 50 = .ok (.aload_n 0, 1) := by decide +kernel
theorem dX4_store_51 : decode cX4_store 51 = .ok (.getfield 10, 3) := by decide +kernel
theorem dX4_store_54 : decode cX4_store 54 = .ok (.iload_n 1, 1) := by decide +kernel
theorem dX4_store_55 : decode cX4_store 55 = .ok (.iload_n 2, 1) := by decide +kernel
theorem dX4_store_56 : decode cX4_store 56 = .ok (.invokevirtual 85, 3) := by decide +kernel
theorem dX4_store_59 : decode cX4_store 59 = .ok (.istore_n 3, 1) := by decide +kernel
theorem dX4_store_60 : decode cX4_store 60 = .ok (.aload_n 0, 1) := by decide +kernel
theorem dX4_store_61 : decode cX4_store 61 = .ok (.invokevirtual 61, 3) := by decide +kernel
theorem dX4_store_64 : decode cX4_store 64 = .ok (.iload_n 3, 1) := by decide +kernel
theorem dX4_store_65 : decode cX4_store 65 = .ok (.ireturn, 1) := by decide +kernel
set_option maxRecDepth 20000 in
theorem ggX4_reads_X0_isNode : GoodIn wsX4_reads wsX0_isNode := goodIn_r _ [8, 9, 50, 51, 52, 53, 54, 55, 56, 57, 58, 59, 60, 61, 62, 63, 64] (by decide +kernel) (by decide +kernel)
set_option maxRecDepth 20000 in
theorem gX4_reads_X0_isNode : GoodIn wsX4_reads (wsV RX4 72 RX0 yX0_isNode wsX0_isNode) := goodIn_app (goodIn_of _ (by decide +kernel)) ggX4_reads_X0_isNode
set_option maxRecDepth 20000 in
theorem ggX4_reads_X0_isSort : GoodIn wsX4_reads wsX0_isSort := goodIn_r _ [13, 14, 15, 5, 6, 7, 8, 9, 50, 51, 52, 53, 54, 55, 56, 57, 58, 59, 60, 61, 62, 63, 64] (by decide +kernel) (by decide +kernel)
set_option maxRecDepth 20000 in
theorem gX4_reads_X0_isSort : GoodIn wsX4_reads (wsV RX4 89 RX0 yX0_isSort wsX0_isSort) := goodIn_app (goodIn_of _ (by decide +kernel)) ggX4_reads_X0_isSort
set_option maxRecDepth 20000 in
theorem ggX4_reads_X4_beginAgain : GoodIn wsX4_reads wsX4_beginAgain := goodIn_r _ [20, 21, 22, 23, 24, 25, 26, 27, 28, 29, 30, 31, 32, 33, 34, 7, 35, 36, 37, 38, 39, 40, 41, 42, 43, 44, 45, 46, 47, 48, 49, 65, 66, 67, 50, 51, 52, 53, 54, 55, 56, 57, 58, 59, 60, 61, 62, 63, 64, 68, 69, 70] (by decide +kernel) (by decide +kernel)
set_option maxRecDepth 20000 in
theorem gX4_reads_X4_beginAgain : GoodIn wsX4_reads (wsV RX4 61 RX4 yX4_beginAgain wsX4_beginAgain) := goodIn_app (goodIn_of _ (by decide +kernel)) ggX4_reads_X4_beginAgain
theorem dX4_reads_0 : decode cX4_reads 0 = .ok (.aload_n 0, 1) := by decide +kernel
theorem dX4_reads_1 : decode cX4_reads 1 = .ok (.getfield 10, 3) := by decide +kernel
theorem dX4_reads_4 : decode cX4_reads 4 = .ok (.iload_n 1, 1) := by decide +kernel
theorem dX4_reads_5 : decode cX4_reads 5 = .ok (.invokevirtual 72, 3) := by decide +kernel
theorem dX4_reads_8 : decode cX4_reads 8 = .ok (.ifCond .eq 14, 3) := by decide +kernel
theorem dX4_reads_11 : decode cX4_reads 11 = .ok (.aload_n 0, 1) := by decide +kernel
theorem dX4_reads_12 : decode cX4_reads 12 = .ok (.getfield 10, 3) := by decide +kernel
theorem dX4_reads_15 : decode cX4_reads 15 = .ok (.iload_n 2, 1) := by decide +kernel
theorem dX4_reads_16 : decode cX4_reads 16 = .ok (.invokevirtual 72, 3) := by decide +kernel
theorem dX4_reads_19 : decode cX4_reads 19 = .ok (.ifCond .ne 5, 3) := by decide +kernel
theorem dX4_reads_22 : decode cX4_reads 22 = .ok (.iconst (-1), 1) := by decide +kernel
theorem dX4_reads_23 : decode cX4_reads 23 = .ok (.ireturn, 1) := by decide +kernel
theorem dX4_reads_24 : decode cX4_reads 24 = .ok (.aload_n 0, 1) := by decide +kernel
theorem dX4_reads_25 : decode cX4_reads 25 = .ok (.getfield 10, 3) := by decide +kernel
theorem dX4_reads_28 : decode cX4_reads 28 = .ok (.iload_n 1, 1) := by decide +kernel
theorem dX4_reads_29 : decode cX4_reads 29 = .ok (.iconst 3, 1) := by decide +kernel
theorem dX4_reads_30 : decode cX4_reads 30 = .ok (.invokevirtual 89, 3) := by decide +kernel
theorem dX4_reads_33 : decode cX4_reads 33 = .ok (.ifCond .ne 6, 3) := by decide +kernel
theorem dX4_reads_36 : decode cX4_reads 36 = .ok (.bipush (-3), 2) := by decide +kernel
theorem dX4_reads_38 : decode cX4_reads 38 = .ok (.ireturn, 1) := by decide +kernel
theorem dX4_reads_39 : decode cX4_reads 39 = .ok (.aload_n 0, 1) := by decide +kernel
theorem dX4_reads_40 : decode cX4_reads 40 = .ok (.getfield 10, 3) := by decide +kernel
theorem dX4_reads_43 : decode cX4_reads 43 = .ok (.getfield 93, 3) := by decide +kernel
theorem dX4_reads_46 : decode cX4_reads 46 = .ok (.iload_n 1, 1) := by decide +kernel
theorem dX4_reads_47 : decode cX4_reads 47 = .ok (.iaload, 1) := by decide +kernel
theorem dX4_reads_48 : decode cX4_reads 48 = .ok (.istore_n 3, 1) := by decide +kernel
theorem dX4_reads_49 : decode cX4_reads 49 = .ok (.aload_n 0, 1) := by decide +kernel
theorem dX4_reads_50 : decode cX4_reads 50 = .ok (.getfield 10, 3) := by decide +kernel
theorem dX4_reads_53 : decode cX4_reads 53 = .ok (.getfield 97, 3) := by decide +kernel
theorem dX4_reads_56 : decode cX4_reads 56 = .ok (.iload_n 3, 1) := by decide +kernel
theorem dX4_reads_57 : decode cX4_reads 57 = .ok (.iaload, 1) := by decide +kernel
theorem dX4_reads_58 : decode cX4_reads 58 = .ok (.istore 4, 2) := by decide +kernel
theorem dX4_reads_60 : decode cX4_reads 60 = .ok (.iload 4, 2) := by decide +kernel
theorem dX4_reads_62 : decode cX4_reads 62 = .ok (.iload_n 2, 1) := by decide +kernel
theorem dX4_reads_63 : decode cX4_reads 63 = .ok (.if_icmp .eq 17, 3) := by decide +kernel
theorem dX4_reads_66 : decode cX4_reads 66 = .ok (.aload_n 0, 1) := by decide +kernel
theorem dX4_reads_67 : decode cX4_reads 67 = .ok (.getfield 10, 3) := by decide +kernel
theorem dX4_reads_70 : decode cX4_reads 70 = .ok (.getfield 97, 3) := by decide +kernel
theorem dX4_reads_73 : decode cX4_reads 73 = .ok (.iload_n 3, 1) := by decide +kernel
theorem dX4_reads_74 : decode cX4_reads 74 = .ok (.iload_n 2, 1) := by decide +kernel
theorem dX4_reads_75 : decode cX4_reads 75 = .ok (.iastore, 1) := by decide +kernel
theorem dX4_reads_76 : decode cX4_reads 76 = .ok (.aload_n 0, 1) := by decide +kernel
theorem dX4_reads_77 : decode cX4_reads 77 = .ok (.invokevirtual 61, 3) := by decide +kernel
theorem dX4_reads_80 : decode cX4_reads 80 = .ok (.iload 4, 2) := by decide +kernel
theorem dX4_reads_82 : decode cX4_reads 82 = .ok (.ireturn, 1) := by decide +kernel
set_option maxRecDepth 20000 in
theorem ggX4_about_X0_isNode : GoodIn wsX4_about wsX0_isNode := goodIn_r _ [9, 10, 31, 32, 33, 34, 35, 36, 37, 38, 39, 40, 41, 42, 43, 44, 45] (by decide +kernel) (by decide +kernel)
set_option maxRecDepth 20000 in
theorem gX4_about_X0_isNode : GoodIn wsX4_about (wsV RX4 72 RX0 yX0_isNode wsX0_isNode) := goodIn_app (goodIn_of _ (by decide +kernel)) ggX4_about_X0_isNode
set_option maxRecDepth 20000 in
theorem ggX4_about_X0_isSort : GoodIn wsX4_about wsX0_isSort := goodIn_r _ [14, 15, 16, 6, 7, 8, 9, 10, 31, 32, 33, 34, 35, 36, 37, 38, 39, 40, 41, 42, 43, 44, 45] (by decide +kernel) (by decide +kernel)
set_option maxRecDepth 20000 in
theorem gX4_about_X0_isSort : GoodIn wsX4_about (wsV RX4 89 RX0 yX0_isSort wsX0_isSort) := goodIn_app (goodIn_of _ (by decide +kernel)) ggX4_about_X0_isSort
set_option maxRecDepth 20000 in
theorem ggX4_about_X0_aboutStore : GoodIn wsX4_about wsX0_aboutStore := goodIn_r _ [20, 21, 22, 23, 31, 32, 33, 34, 35, 36, 37, 38, 39, 40, 41, 42, 43, 44, 45] (by decide +kernel) (by decide +kernel)
set_option maxRecDepth 20000 in
theorem gX4_about_X0_aboutStore : GoodIn wsX4_about (wsV RX4 106 RX0 yX0_aboutStore wsX0_aboutStore) := goodIn_app (goodIn_of _ (by decide +kernel)) ggX4_about_X0_aboutStore
theorem dX4_about_0 : decode cX4_about 0 = .ok (.aload_n 0, 1) := by decide +kernel
theorem dX4_about_1 : decode cX4_about 1 = .ok (.getfield 10, 3) := by decide +kernel
theorem dX4_about_4 : decode cX4_about 4 = .ok (.iload_n 1, 1) := by decide +kernel
theorem dX4_about_5 : decode cX4_about 5 = .ok (.invokevirtual 72, 3) := by decide +kernel
theorem dX4_about_8 : decode cX4_about 8 = .ok (.ifCond .ne 5, 3) := by decide +kernel
theorem dX4_about_11 : decode cX4_about 11 = .ok (.iconst (-1), 1) := by decide +kernel
theorem dX4_about_12 : decode cX4_about 12 = .ok (.ireturn, 1) := by decide +kernel
theorem dX4_about_13 : decode cX4_about 13 = .ok (.iload_n 2, 1) := by decide +kernel
theorem dX4_about_14 : decode cX4_about 14 = .ok (.ifCond .lt 8, 3) := by decide +kernel
theorem dX4_about_17 : decode cX4_about 17 = .ok (.iload_n 2, 1) := by decide +kernel
theorem dX4_about_18 : decode cX4_about 18 = .ok (.iconst 4, 1) := by decide +kernel
theorem dX4_about_19 : decode cX4_about 19 = .ok (.if_icmp .le 6, 3) := by decide +kernel
theorem dX4_about_22 : decode cX4_about 22 = .ok (.bipush (-2), 2) := by decide +kernel
theorem dX4_about_24 : decode cX4_about 24 = .ok (.ireturn, 1) := by decide +kernel
theorem dX4_about_25 : decode cX4_about 25 = .ok (.iload_n 2, 1) := by decide +kernel
theorem dX4_about_26 : decode cX4_about 26 = .ok (.ifCond .ne 13, 3) := by decide +kernel
theorem dX4_about_29 : decode cX4_about 29 = .ok (.aload_n 0, 1) := by decide +kernel
theorem dX4_about_30 : decode cX4_about 30 = .ok (.getfield 10, 3) := by decide +kernel
theorem dX4_about_33 : decode cX4_about 33 = .ok (.getfield 100, 3) := by decide +kernel
theorem dX4_about_36 : decode cX4_about 36 = .ok (.iload_n 1, 1) := by decide +kernel
theorem dX4_about_37 : decode cX4_about 37 = .ok (.iaload, 1) := by decide +kernel
theorem dX4_about_38 : decode cX4_about 38 = .ok (.ireturn, 1) := by decide +kernel
theorem dX4_about_39 : decode cX4_about 39 = .ok (.iload_n 2, 1) := by decide +kernel
theorem dX4_about_40 : decode cX4_about 40 = .ok (.iconst 1, 1) := by decide +kernel
theorem dX4_about_41 : decode cX4_about 41 = .ok (.if_icmp .ne 30, 3) := by decide +kernel
theorem dX4_about_44 : decode cX4_about 44 = .ok (.aload_n 0, 1) := by decide +kernel
theorem dX4_about_45 : decode cX4_about 45 = .ok (.getfield 10, 3) := by decide +kernel
theorem dX4_about_48 : decode cX4_about 48 = .ok (.iload_n 1, 1) := by decide +kernel
theorem dX4_about_49 : decode cX4_about 49 = .ok (.iconst 2, 1) := by decide +kernel
theorem dX4_about_50 : decode cX4_about 50 = .ok (.invokevirtual 89, 3) := by decide +kernel
theorem dX4_about_53 : decode cX4_about 53 = .ok (.ifCond .eq 15, 3) := by decide +kernel
theorem dX4_about_56 : decode cX4_about 56 = .ok (.aload_n 0, 1) := by decide +kernel
theorem dX4_about_57 : decode cX4_about 57 = .ok (.getfield 10, 3) := by decide +kernel
theorem dX4_about_60 : decode cX4_about 60 = .ok (.getfield 103, 3) := by decide +kernel
theorem dX4_about_63 : decode cX4_about 63 = .ok (.iload_n 1, 1) := by decide +kernel
theorem dX4_about_64 : decode cX4_about 64 = .ok (.iaload, 1) := by decide +kernel
theorem dX4_about_65 : decode cX4_about 65 = .ok (.goto 5, 3) := by decide +kernel
theorem dX4_about_68 : decode cX4_about 68 = .ok (.bipush (-9), 2) := by decide +kernel
theorem dX4_about_70 : decode cX4_about 70 = .ok (.ireturn, 1) := by decide +kernel
theorem dX4_about_71 : decode cX4_about 71 = .ok (.aload_n 0, 1) := by decide +kernel
theorem dX4_about_72 : decode cX4_about 72 = .ok (.getfield 10, 3) := by decide +kernel
theorem dX4_about_75 : decode cX4_about 75 = .ok (.iload_n 1, 1) := by decide +kernel
theorem dX4_about_76 : decode cX4_about 76 = .ok (.iconst 3, 1) := by decide +kernel
theorem dX4_about_77 : decode cX4_about 77 = .ok (.invokevirtual 89, 3) := by decide +kernel
theorem dX4_about_80 : decode cX4_about 80 = .ok (.ifCond .eq 23, 3) := by decide +kernel
theorem dX4_about_83 : decode cX4_about 83 = .ok (.aload_n 0, 1) := by decide +kernel
theorem dX4_about_84 : decode cX4_about 84 = .ok (.getfield 10, 3) := by decide +kernel
theorem dX4_about_87 : decode cX4_about 87 = .ok (.aload_n 0, 1) := by decide +kernel
theorem dX4_about_88 : decode cX4_about 88 = .ok (.getfield 10, 3) := by decide +kernel
theorem dX4_about_91 : decode cX4_about 91 = .ok (.getfield 93, 3) := by decide +kernel
theorem dX4_about_94 : decode cX4_about 94 = .ok (.iload_n 1, 1) := by decide +kernel
theorem dX4_about_95 : decode cX4_about 95 = .ok (.iaload, 1) := by decide +kernel
theorem dX4_about_96 : decode cX4_about 96 = .ok (.iload_n 2, 1) := by decide +kernel
theorem dX4_about_97 : decode cX4_about 97 = .ok (.invokevirtual 106, 3) := by decide +kernel
theorem dX4_about_100 : decode cX4_about 100 = .ok (.goto 5, 3) := by decide +kernel
theorem dX4_about_103 : decode cX4_about 103 = .ok (.bipush (-9), 2) := by decide +kernel
theorem dX4_about_105 : decode cX4_about 105 = .ok (.ireturn, 1) := by decide +kernel
set_option maxRecDepth 20000 in
theorem ggX4_line_X4_isLine : GoodIn wsX4_line wsX4_isLine := goodIn_r _ [5] (by decide +kernel) (by decide +kernel)
set_option maxRecDepth 20000 in
theorem gX4_line_X4_isLine : GoodIn wsX4_line (va_wsS RX4 79 yX4_isLine wsX4_isLine) := goodIn_app (goodIn_of _ (by decide +kernel)) ggX4_line_X4_isLine
theorem dX4_line_0 : decode cX4_line 0 = .ok (.iload_n 1, 1) := by decide +kernel
theorem dX4_line_1 : decode cX4_line 1 = .ok (.invokestatic 79, 3) := by decide +kernel
theorem dX4_line_4 : decode cX4_line 4 = .ok (.ifCond .ne 5, 3) := by decide +kernel
theorem dX4_line_7 : decode cX4_line 7 = .ok (.iconst (-1), 1) := by decide +kernel
theorem dX4_line_8 : decode cX4_line 8 = .ok (.ireturn, 1) := by decide +kernel
theorem dX4_line_9 : decode cX4_line 9 = .ok (.iconst 1, 1) := by decide +kernel
theorem dX4_line_10 : decode cX4_line 10 = .ok (.iload_n 1, 1) := by decide +kernel
theorem dX4_line_11 : decode cX4_line 11 = .ok (.ishl, 1) := by decide +kernel
theorem dX4_line_12 : decode cX4_line 12 = .ok (.istore_n 3, 1) := by decide +kernel
theorem dX4_line_13 : decode cX4_line 13 = .ok (.aload_n 0, 1) := by decide +kernel
theorem dX4_line_14 : decode cX4_line 14 = .ok (.getfield 47, 3) := by decide +kernel
theorem dX4_line_17 : decode cX4_line 17 = .ok (.iload_n 3, 1) := by decide +kernel
theorem dX4_line_18 : decode cX4_line 18 = .ok (.iand, 1) := by decide +kernel
theorem dX4_line_19 : decode cX4_line 19 = .ok (.ifCond .eq 7, 3) := by decide +kernel
theorem dX4_line_22 : decode cX4_line 22 = .ok (.iconst 1, 1) := by decide +kernel
theorem dX4_line_23 : decode cX4_line 23 = .ok (.goto 4, 3) := by decide +kernel
theorem dX4_line_26 : decode cX4_line 26 = .ok (.iconst 0, 1) := by decide +kernel
theorem dX4_line_27 : decode cX4_line 27 = .ok (.istore 4, 2) := by decide +kernel
theorem dX4_line_29 : decode cX4_line 29 = .ok (.aload_n 0, 1) := by decide +kernel
theorem dX4_line_30 : decode cX4_line 30 = .ok (.iload_n 2, 1) := by decide +kernel
theorem dX4_line_31 : decode cX4_line 31 = .ok (.ifCond .eq 12, 3) := by decide +kernel
theorem dX4_line_34 : decode cX4_line 34 = .ok (.aload_n 0, 1) := by decide +kernel
theorem dX4_line_35 : decode cX4_line 35 = .ok (.getfield 47, 3) := by decide +kernel
theorem dX4_line_38 : decode cX4_line 38 = .ok (.iload_n 3, 1) := by decide +kernel
theorem dX4_line_39 : decode cX4_line 39 = .ok (.ior, 1) := by decide +kernel
theorem dX4_line_40 : decode cX4_line 40 = .ok (.goto 11, 3) := by decide +kernel
theorem dX4_line_43 : decode cX4_line 43 = .ok (.aload_n 0, 1) := by decide +kernel
theorem dX4_line_44 : decode cX4_line 44 = .ok (.getfield 47, 3) := by decide +kernel
theorem dX4_line_47 : decode cX4_line 47 = .ok (.iload_n 3, 1) := by decide +kernel
theorem dX4_line_48 : decode cX4_line 48 = .ok (.iconst (-1), 1) := by decide +kernel
theorem dX4_line_49 : decode cX4_line 49 = .ok (.ixor, 1) := by decide +kernel
theorem dX4_line_50 : decode cX4_line 50 = .ok (.iand, 1) := by decide +kernel
theorem dX4_line_51 : decode cX4_line 51 = .ok (.putfield 47, 3) := by decide +kernel
theorem dX4_line_54 : decode cX4_line 54 = .ok (.iload 4, 2) := by decide +kernel
theorem dX4_line_56 : decode cX4_line 56 = .ok (.ireturn, 1) := by decide +kernel
set_option maxRecDepth 20000 in
theorem ggX4_set_X0_isNode : GoodIn wsX4_set wsX0_isNode := goodIn_r _ [7, 8, 26, 27, 28, 29, 30, 31, 32, 33, 34, 35, 36, 37, 38, 39, 40] (by decide +kernel) (by decide +kernel)
set_option maxRecDepth 20000 in
theorem gX4_set_X0_isNode : GoodIn wsX4_set (wsV RX4 72 RX0 yX0_isNode wsX0_isNode) := goodIn_app (goodIn_of _ (by decide +kernel)) ggX4_set_X0_isNode
set_option maxRecDepth 20000 in
theorem ggX4_set_X0_isSort : GoodIn wsX4_set wsX0_isSort := goodIn_r _ [12, 13, 14, 4, 5, 6, 7, 8, 26, 27, 28, 29, 30, 31, 32, 33, 34, 35, 36, 37, 38, 39, 40] (by decide +kernel) (by decide +kernel)
set_option maxRecDepth 20000 in
theorem gX4_set_X0_isSort : GoodIn wsX4_set (wsV RX4 89 RX0 yX0_isSort wsX0_isSort) := goodIn_app (goodIn_of _ (by decide +kernel)) ggX4_set_X0_isSort
set_option maxRecDepth 20000 in
theorem ggX4_set_X4_isBit : GoodIn wsX4_set wsX4_isBit := goodIn_r _ [18] (by decide +kernel) (by decide +kernel)
set_option maxRecDepth 20000 in
theorem gX4_set_X4_isBit : GoodIn wsX4_set (va_wsS RX4 64 yX4_isBit wsX4_isBit) := goodIn_app (goodIn_of _ (by decide +kernel)) ggX4_set_X4_isBit
theorem dX4_set_0 : decode cX4_set 0 = .ok (.aload_n 0, 1) := by decide +kernel
theorem dX4_set_1 : decode cX4_set 1 = .ok (.getfield 10, 3) := by decide +kernel
theorem dX4_set_4 : decode cX4_set 4 = .ok (.iload_n 1, 1) := by decide +kernel
theorem dX4_set_5 : decode cX4_set 5 = .ok (.invokevirtual 72, 3) := by decide +kernel
theorem dX4_set_8 : decode cX4_set 8 = .ok (.ifCond .ne 5, 3) := by decide +kernel
theorem dX4_set_11 : decode cX4_set 11 = .ok (.iconst (-1), 1) := by decide +kernel
theorem dX4_set_12 : decode cX4_set 12 = .ok (.ireturn, 1) := by decide +kernel
theorem dX4_set_13 : decode cX4_set 13 = .ok (.aload_n 0, 1) := by decide +kernel
theorem dX4_set_14 : decode cX4_set 14 = .ok (.getfield 10, 3) := by decide +kernel
theorem dX4_set_17 : decode cX4_set 17 = .ok (.iload_n 1, 1) := by decide +kernel
theorem dX4_set_18 : decode cX4_set 18 = .ok (.iconst 0, 1) := by decide +kernel
theorem dX4_set_19 : decode cX4_set 19 = .ok (.invokevirtual 89, 3) := by decide +kernel
theorem dX4_set_22 : decode cX4_set 22 = .ok (.ifCond .ne 6, 3) := by decide +kernel
theorem dX4_set_25 : decode cX4_set 25 = .ok (.bipush (-3), 2) := by decide +kernel
theorem dX4_set_27 : decode cX4_set 27 = .ok (.ireturn, 1) := by decide +kernel
theorem dX4_set_28 : decode cX4_set 28 = .ok (.iload_n 2, 1) := by decide +kernel
theorem dX4_set_29 : decode cX4_set 29 = .ok (.invokestatic 64, 3) := by decide +kernel
theorem dX4_set_32 : decode cX4_set 32 = .ok (.ifCond .ne 11, 3) := by decide +kernel
theorem dX4_set_35 : decode cX4_set 35 = .ok (.iload_n 2, 1) := by decide +kernel
theorem dX4_set_36 : decode cX4_set 36 = .ok (.iconst 2, 1) := by decide +kernel
theorem dX4_set_37 : decode cX4_set 37 = .ok (.if_icmp .eq 6, 3) := by decide +kernel
theorem dX4_set_40 : decode cX4_set 40 = .ok (.bipush (-2), 2) := by decide +kernel
theorem dX4_set_42 : decode cX4_set 42 = .ok (.ireturn, 1) := by decide +kernel
theorem dX4_set_43 : decode cX4_set 43 = .ok (.aload_n 0, 1) := by decide +kernel
theorem dX4_set_44 : decode cX4_set 44 = .ok (.getfield 10, 3) := by decide +kernel
theorem dX4_set_47 : decode cX4_set 47 = .ok (.getfield 109, 3) := by decide +kernel
theorem dX4_set_50 : decode cX4_set 50 = .ok (.iload_n 1, 1) := by decide +kernel
theorem dX4_set_51 : decode cX4_set 51 = .ok (.iaload, 1) := by decide +kernel
theorem dX4_set_52 : decode cX4_set 52 = .ok (.istore_n 3, 1) := by decide +kernel
theorem dX4_set_53 : decode cX4_set 53 = .ok (.aload_n 0, 1) := by decide +kernel
theorem dX4_set_54 : decode cX4_set 54 = .ok (.getfield 10, 3) := by decide +kernel
theorem dX4_set_57 : decode cX4_set 57 = .ok (.getfield 109, 3) := by decide +kernel
theorem dX4_set_60 : decode cX4_set 60 = .ok (.iload_n 1, 1) := by decide +kernel
theorem dX4_set_61 : decode cX4_set 61 = .ok (.iload_n 2, 1) := by decide +kernel
theorem dX4_set_62 : decode cX4_set 62 = .ok (.iastore, 1) := by decide +kernel
theorem dX4_set_63 : decode cX4_set 63 = .ok (.iload_n 3, 1) := by decide +kernel
theorem dX4_set_64 : decode cX4_set 64 = .ok (.ireturn, 1) := by decide +kernel
set_option maxRecDepth 20000 in
theorem ggX4_tick_X4_isTickCount : GoodIn wsX4_tick wsX4_isTickCount := goodIn_r _ [10] (by decide +kernel) (by decide +kernel)
set_option maxRecDepth 20000 in
theorem gX4_tick_X4_isTickCount : GoodIn wsX4_tick (va_wsS RX4 112 yX4_isTickCount wsX4_isTickCount) := goodIn_app (goodIn_of _ (by decide +kernel)) ggX4_tick_X4_isTickCount
set_option maxRecDepth 20000 in
theorem ggX4_tick_X0_storesOf : GoodIn wsX4_tick wsX0_storesOf := goodIn_r _ [15, 16, 17, 121, 122, 123, 124, 125, 126, 127, 128, 129, 130, 131, 132, 133, 134, 135] (by decide +kernel) (by decide +kernel)
set_option maxRecDepth 20000 in
theorem gX4_tick_X0_storesOf : GoodIn wsX4_tick (wsV RX4 115 RX0 yX0_storesOf wsX0_storesOf) := goodIn_app (goodIn_of _ (by decide +kernel)) ggX4_tick_X0_storesOf
set_option maxRecDepth 20000 in
theorem ggX4_tick_X3_prepare : GoodIn wsX4_tick wsX3_prepare := goodIn_r _ [22, 23, 24, 25, 26, 27, 14, 28, 16, 29, 30, 31, 32, 33, 34, 35, 36, 37, 38, 21, 39, 40, 41, 42, 43, 44, 45, 46, 47, 48, 49, 50, 51, 52, 53, 54, 55, 56, 57, 58, 59, 60, 61, 62, 63, 136, 137, 138, 121, 122, 123, 124, 125, 126, 127, 128, 129, 130, 131, 132, 133, 134, 135] (by decide +kernel) (by decide +kernel)
set_option maxRecDepth 20000 in
theorem gX4_tick_X3_prepare : GoodIn wsX4_tick (wsV RX4 118 RX3 yX3_prepare wsX3_prepare) := goodIn_app (goodIn_of _ (by decide +kernel)) ggX4_tick_X3_prepare
set_option maxRecDepth 20000 in
theorem ggX4_tick_X3_after : GoodIn wsX4_tick wsX3_after := goodIn_r _ [67, 23, 24, 62, 25, 26, 27, 14, 28, 16, 68, 69, 70, 21, 71, 72, 44, 49, 136, 137, 138, 121, 122, 123, 124, 125, 126, 127, 128, 129, 130, 131, 132, 133, 134, 135] (by decide +kernel) (by decide +kernel)
set_option maxRecDepth 20000 in
theorem gX4_tick_X3_after : GoodIn wsX4_tick (wsV RX4 122 RX3 yX3_after wsX3_after) := goodIn_app (goodIn_of _ (by decide +kernel)) ggX4_tick_X3_after
set_option maxRecDepth 20000 in
theorem ggX4_tick_X2_pass : GoodIn wsX4_tick wsX2_pass := goodIn_r _ [77, 78, 79, 80, 81, 82, 83, 84, 85, 86, 76, 87, 88, 89, 90, 91, 92, 93, 94, 95, 96, 97, 98, 99, 100, 101, 102, 103, 104, 105, 106, 139, 140, 141, 121, 122, 123, 124, 125, 126, 127, 128, 129, 130, 131, 132, 133, 134, 135] (by decide +kernel) (by decide +kernel)
set_option maxRecDepth 20000 in
theorem gX4_tick_X2_pass : GoodIn wsX4_tick (wsV RX4 126 RX2 yX2_pass wsX2_pass) := goodIn_app (goodIn_of _ (by decide +kernel)) ggX4_tick_X2_pass
set_option maxRecDepth 20000 in
theorem ggX4_tick_J13_bitCount_95d88 : GoodIn wsX4_tick wsJ13_bitCount_95d88 := goodIn_r _ [110, 111, 112, 113] (by decide +kernel) (by decide +kernel)
set_option maxRecDepth 20000 in
theorem gX4_tick_J13_bitCount_95d88 : GoodIn wsX4_tick (va_wsS RX4 130 yJ13_bitCount_95d88 wsJ13_bitCount_95d88) := goodIn_app (goodIn_of _ (by decide +kernel)) ggX4_tick_J13_bitCount_95d88
theorem dX4_tick_0 : decode cX4_tick 0 = .ok (.iload_n 1, 1) := by decide +kernel
theorem dX4_tick_1 : decode cX4_tick 1 = .ok (.invokestatic 112, 3) := by decide +kernel
theorem dX4_tick_4 : decode cX4_tick 4 = .ok (.ifCond .ne 6, 3) := by decide +kernel
theorem dX4_tick_7 : decode cX4_tick 7 = .ok (.bipush (-2), 2) := by decide +kernel
theorem dX4_tick_9 : decode cX4_tick 9 = .ok (.ireturn, 1) := by decide +kernel
theorem dX4_tick_10 : decode cX4_tick 10 = .ok (.aload_n 0, 1) := by decide +kernel
theorem dX4_tick_11 : decode cX4_tick 11 = .ok (.getfield 10, 3) := by decide +kernel
theorem dX4_tick_14 : decode cX4_tick 14 = .ok (.aload_n 0, 1) := by decide +kernel
theorem dX4_tick_15 : decode cX4_tick 15 = .ok (.getfield 47, 3) := by decide +kernel
theorem dX4_tick_18 : decode cX4_tick 18 = .ok (.invokevirtual 115, 3) := by decide +kernel
theorem dX4_tick_21 : decode cX4_tick 21 = .ok (.istore_n 2, 1) := by decide +kernel
theorem dX4_tick_22 : decode cX4_tick 22 = .ok (.aload_n 0, 1) := by decide +kernel
theorem dX4_tick_23 : decode cX4_tick 23 = .ok (.getfield 21, 3) := by decide +kernel
theorem dX4_tick_26 : decode cX4_tick 26 = .ok (.iconst 0, 1) := by decide +kernel
theorem dX4_tick_27 : decode cX4_tick 27 = .ok (.invokevirtual 118, 3) := by decide +kernel
theorem dX4_tick_30 : decode cX4_tick 30 = .ok (.iconst 0, 1) := by decide +kernel
theorem dX4_tick_31 : decode cX4_tick 31 = .ok (.istore_n 3, 1) := by decide +kernel
theorem dX4_tick_32 : decode cX4_tick 32 = .ok (.iload_n 3, 1) := by decide +kernel
theorem dX4_tick_33 : decode cX4_tick 33 = .ok (.iload_n 1, 1) := by decide +kernel
theorem dX4_tick_34 : decode cX4_tick 34 = .ok (.if_icmp .ge 33, 3) := by decide +kernel
theorem dX4_tick_37 : decode cX4_tick 37 = .ok (.aload_n 0, 1) := by decide +kernel
theorem dX4_tick_38 : decode cX4_tick 38 = .ok (.aload_n 0, 1) := by decide +kernel
theorem dX4_tick_39 : decode cX4_tick 39 = .ok (.getfield 21, 3) := by decide +kernel
theorem dX4_tick_42 : decode cX4_tick 42 = .ok (.aload_n 0, 1) := by decide +kernel
theorem dX4_tick_43 : decode cX4_tick 43 = .ok (.getfield 39, 3) := by decide +kernel
theorem dX4_tick_46 : decode cX4_tick 46 = .ok (.iload_n 2, 1) := by decide +kernel
theorem dX4_tick_47 : decode cX4_tick 47 = .ok (.invokevirtual 122, 3) := by decide +kernel
theorem dX4_tick_50 : decode cX4_tick 50 = .ok (.putfield 39, 3) := by decide +kernel
theorem dX4_tick_53 : decode cX4_tick 53 = .ok (.aload_n 0, 1) := by decide +kernel
theorem dX4_tick_54 : decode cX4_tick 54 = .ok (.getfield 28, 3) := by decide +kernel
theorem dX4_tick_57 : decode cX4_tick 57 = .ok (.iload_n 2, 1) := by decide +kernel
theorem dX4_tick_58 : decode cX4_tick 58 = .ok (.invokevirtual 126, 3) := by decide +kernel
theorem dX4_tick_61 : decode cX4_tick 61 = .ok (.iinc 3 1, 3) := by decide +kernel
theorem dX4_tick_64 : decode cX4_tick 64 = .ok (.goto (-32), 3) := by decide +kernel
theorem dX4_tick_67 : decode cX4_tick 67 = .ok (.aload_n 0, 1) := by decide +kernel
theorem dX4_tick_68 : decode cX4_tick 68 = .ok (.dup, 1) := by decide +kernel
theorem dX4_tick_69 : decode cX4_tick 69 = .ok (.getfield 43, 3) := by decide +kernel
theorem dX4_tick_72 : decode cX4_tick 72 = .ok (.iload_n 1, 1) := by decide +kernel
theorem dX4_tick_73 : decode cX4_tick 73 = .ok (.iadd, 1) := by decide +kernel
theorem dX4_tick_74 : decode cX4_tick 74 = .ok (.putfield 43, 3) := by decide +kernel
theorem dX4_tick_77 : decode cX4_tick 77 = .ok (.aload_n 0, 1) := by decide +kernel
theorem dX4_tick_78 : decode cX4_tick 78 = .ok (.getfield 39, 3) := by decide +kernel
theorem dX4_tick_81 : decode cX4_tick 81 = .ok (.invokestatic 130, 3) := by decide +kernel
theorem dX4_tick_84 : decode cX4_tick 84 = .ok (.ireturn, 1) := by decide +kernel
set_option maxRecDepth 20000 in
theorem ggX4_fresh_X4_beginAgain : GoodIn wsX4_fresh wsX4_beginAgain := goodIn_r _ [6, 7, 8, 1, 9, 10, 11, 12, 13, 14, 15, 16, 17, 18, 19, 20, 21, 22, 23, 24, 25, 26, 27, 28, 29, 30, 31, 32, 33, 34, 35, 36, 37, 38, 39, 40, 41, 42, 43, 44, 45, 46, 47, 48, 49, 50, 51, 52, 53, 54, 55, 56] (by decide +kernel) (by decide +kernel)
set_option maxRecDepth 20000 in
theorem gX4_fresh_X4_beginAgain : GoodIn wsX4_fresh (wsV RX4 61 RX4 yX4_beginAgain wsX4_beginAgain) := goodIn_app (goodIn_of _ (by decide +kernel)) ggX4_fresh_X4_beginAgain
theorem dX4_fresh_0 : decode cX4_fresh 0 = .ok (.aload_n 0, 1) := by decide +kernel
theorem dX4_fresh_1 : decode cX4_fresh 1 = .ok (.getfield 43, 3) := by decide +kernel
theorem dX4_fresh_4 : decode cX4_fresh 4 = .ok (.istore_n 1, 1) := by decide +kernel
theorem dX4_fresh_5 : decode cX4_fresh 5 = .ok (.aload_n 0, 1) := by decide +kernel
theorem dX4_fresh_6 : decode cX4_fresh 6 = .ok (.invokevirtual 61, 3) := by decide +kernel
theorem dX4_fresh_9 : decode cX4_fresh 9 = .ok (.iload_n 1, 1) := by decide +kernel
theorem dX4_fresh_10 : decode cX4_fresh 10 = .ok (.ireturn, 1) := by decide +kernel
set_option maxRecDepth 20000 in
theorem ggX4_possible_J13_bitCount_95d88 : GoodIn wsX4_possible wsJ13_bitCount_95d88 := goodIn_r _ [5, 6, 7, 8] (by decide +kernel) (by decide +kernel)
set_option maxRecDepth 20000 in
theorem gX4_possible_J13_bitCount_95d88 : GoodIn wsX4_possible (va_wsS RX4 130 yJ13_bitCount_95d88 wsJ13_bitCount_95d88) := goodIn_app (goodIn_of _ (by decide +kernel)) ggX4_possible_J13_bitCount_95d88
theorem dX4_possible_0 : decode cX4_possible 0 = .ok (.aload_n 0, 1) := by decide +kernel
theorem dX4_possible_1 : decode cX4_possible 1 = .ok (.getfield 39, 3) := by decide +kernel
theorem dX4_possible_4 : decode cX4_possible 4 = .ok (.invokestatic 130, 3) := by decide +kernel
theorem dX4_possible_7 : decode cX4_possible 7 = .ok (.ireturn, 1) := by decide +kernel
theorem dX4_row_0 : decode cX4_row 0 = .ok (.iload_n 1, 1) := by decide +kernel
theorem dX4_row_1 : decode cX4_row 1 = .ok (.ifCond .ge 6, 3) := by decide +kernel
theorem dX4_row_4 : decode cX4_row 4 = .ok (.bipush (-9), 2) := by decide +kernel
theorem dX4_row_6 : decode cX4_row 6 = .ok (.ireturn, 1) := by decide +kernel
theorem dX4_row_7 : decode cX4_row 7 = .ok (.iload_n 1, 1) := by decide +kernel
theorem dX4_row_8 : decode cX4_row 8 = .ok (.istore_n 2, 1) := by decide +kernel
theorem dX4_row_9 : decode cX4_row 9 = .ok (.iconst 0, 1) := by decide +kernel
theorem dX4_row_10 : decode cX4_row 10 = .ok (.istore_n 3, 1) := by decide +kernel
theorem dX4_row_11 : decode cX4_row 11 = .ok (.iload_n 3, 1) := by decide +kernel
theorem dX4_row_12 : decode cX4_row 12 = .ok (.bipush 64, 2) := by decide +kernel
theorem dX4_row_14 : decode cX4_row 14 = .ok (.if_icmp .ge 31, 3) := by decide +kernel
theorem dX4_row_17 : decode cX4_row 17 = .ok (.aload_n 0, 1) := by decide +kernel
theorem dX4_row_18 : decode cX4_row 18 = .ok (.getfield 39, 3) := by decide +kernel
theorem dX4_row_21 : decode cX4_row 21 = .ok (.iload_n 3, 1) := by decide +kernel
theorem dX4_row_22 : decode cX4_row 22 = .ok (.lushr, 1) := by decide +kernel
theorem dX4_row_23 : decode cX4_row 23 = .ok (.lconst 1, 1) := by decide +kernel
theorem dX4_row_24 : decode cX4_row 24 = .ok (.land, 1) := by decide +kernel
theorem dX4_row_25 : decode cX4_row 25 = .ok (.lconst 0, 1) := by decide +kernel
theorem dX4_row_26 : decode cX4_row 26 = .ok (.lcmp, 1) := by decide +kernel
theorem dX4_row_27 : decode cX4_row 27 = .ok (.ifCond .eq 12, 3) := by decide +kernel
theorem dX4_row_30 : decode cX4_row 30 = .ok (.iload_n 2, 1) := by decide +kernel
theorem dX4_row_31 : decode cX4_row 31 = .ok (.ifCond .ne 5, 3) := by decide +kernel
theorem dX4_row_34 : decode cX4_row 34 = .ok (.iload_n 3, 1) := by decide +kernel
theorem dX4_row_35 : decode cX4_row 35 = .ok (.ireturn, 1) := by decide +kernel
theorem dX4_row_36 : decode cX4_row 36 = .ok (.iinc 2 (-1), 3) := by decide +kernel
theorem dX4_row_39 : decode cX4_row 39 = .ok (.iinc 3 1, 3) := by decide +kernel
theorem dX4_row_42 : decode cX4_row 42 = .ok (.goto (-31), 3) := by decide +kernel
theorem dX4_row_45 : decode cX4_row 45 = .ok (.bipush (-9), 2) := by decide +kernel
theorem dX4_row_47 : decode cX4_row 47 = .ok (.ireturn, 1) := by decide +kernel
set_option maxRecDepth 20000 in
theorem ggX4_sure_X0_isNode : GoodIn wsX4_sure wsX0_isNode := goodIn_r _ [8, 9, 51, 52, 53, 54, 55, 56, 57, 58, 59, 60, 61, 62, 63, 64, 65] (by decide +kernel) (by decide +kernel)
set_option maxRecDepth 20000 in
theorem gX4_sure_X0_isNode : GoodIn wsX4_sure (wsV RX4 72 RX0 yX0_isNode wsX0_isNode) := goodIn_app (goodIn_of _ (by decide +kernel)) ggX4_sure_X0_isNode
set_option maxRecDepth 20000 in
theorem ggX4_sure_X3_surely : GoodIn wsX4_sure wsX3_surely := goodIn_r _ [14, 15, 16, 17, 18, 19, 20, 7, 21, 9, 22, 23, 24, 25, 26, 13, 27, 28, 29, 30, 31, 32, 33, 34, 35, 36, 37, 38, 39, 40, 41, 42, 43, 66, 67, 68, 51, 52, 53, 54, 55, 56, 57, 58, 59, 60, 61, 62, 63, 64, 65] (by decide +kernel) (by decide +kernel)
set_option maxRecDepth 20000 in
theorem gX4_sure_X3_surely : GoodIn wsX4_sure (wsV RX4 136 RX3 yX3_surely wsX3_surely) := goodIn_app (goodIn_of _ (by decide +kernel)) ggX4_sure_X3_surely
theorem dX4_sure_0 : decode cX4_sure 0 = .ok (.aload_n 0, 1) := by decide +kernel
theorem dX4_sure_1 : decode cX4_sure 1 = .ok (.getfield 10, 3) := by decide +kernel
theorem dX4_sure_4 : decode cX4_sure 4 = .ok (.iload_n 1, 1) := by decide +kernel
theorem dX4_sure_5 : decode cX4_sure 5 = .ok (.invokevirtual 72, 3) := by decide +kernel
theorem dX4_sure_8 : decode cX4_sure 8 = .ok (.ifCond .eq 18, 3) := by decide +kernel
theorem dX4_sure_11 : decode cX4_sure 11 = .ok (.aload_n 0, 1) := by decide +kernel
theorem dX4_sure_12 : decode cX4_sure 12 = .ok (.getfield 21, 3) := by decide +kernel
theorem dX4_sure_15 : decode cX4_sure 15 = .ok (.iload_n 1, 1) := by decide +kernel
theorem dX4_sure_16 : decode cX4_sure 16 = .ok (.aload_n 0, 1) := by decide +kernel
theorem dX4_sure_17 : decode cX4_sure 17 = .ok (.getfield 39, 3) := by decide +kernel
theorem dX4_sure_20 : decode cX4_sure 20 = .ok (.invokevirtual 136, 3) := by decide +kernel
theorem dX4_sure_23 : decode cX4_sure 23 = .ok (.goto 4, 3) := by decide +kernel
theorem dX4_sure_26 : decode cX4_sure 26 = .ok (.iconst (-1), 1) := by decide +kernel
theorem dX4_sure_27 : decode cX4_sure 27 = .ok (.ireturn, 1) := by decide +kernel
set_option maxRecDepth 20000 in
theorem ggX4_told_X0_isNode : GoodIn wsX4_told wsX0_isNode := goodIn_r _ [8, 9, 47, 48, 49, 50, 51, 52, 53, 54, 55, 56, 57, 58, 59, 60, 61] (by decide +kernel) (by decide +kernel)
set_option maxRecDepth 20000 in
theorem gX4_told_X0_isNode : GoodIn wsX4_told (wsV RX4 72 RX0 yX0_isNode wsX0_isNode) := goodIn_app (goodIn_of _ (by decide +kernel)) ggX4_told_X0_isNode
set_option maxRecDepth 20000 in
theorem ggX4_told_X2_tellAll : GoodIn wsX4_told wsX2_tellAll := goodIn_r _ [14, 15, 16, 17, 18, 19, 20, 21, 22, 23, 24, 13, 25, 26, 27, 28, 29, 30, 31, 32, 33, 34, 35, 36, 44, 45, 46, 47, 48, 49, 50, 51, 52, 53, 54, 55, 56, 57, 58, 59, 60, 61] (by decide +kernel) (by decide +kernel)
set_option maxRecDepth 20000 in
theorem gX4_told_X2_tellAll : GoodIn wsX4_told (wsV RX4 140 RX2 yX2_tellAll wsX2_tellAll) := goodIn_app (goodIn_of _ (by decide +kernel)) ggX4_told_X2_tellAll
theorem dX4_told_0 : decode cX4_told 0 = .ok (.aload_n 0, 1) := by decide +kernel
theorem dX4_told_1 : decode cX4_told 1 = .ok (.getfield 10, 3) := by decide +kernel
theorem dX4_told_4 : decode cX4_told 4 = .ok (.iload_n 1, 1) := by decide +kernel
theorem dX4_told_5 : decode cX4_told 5 = .ok (.invokevirtual 72, 3) := by decide +kernel
theorem dX4_told_8 : decode cX4_told 8 = .ok (.ifCond .ne 5, 3) := by decide +kernel
theorem dX4_told_11 : decode cX4_told 11 = .ok (.iconst (-1), 1) := by decide +kernel
theorem dX4_told_12 : decode cX4_told 12 = .ok (.ireturn, 1) := by decide +kernel
theorem dX4_told_13 : decode cX4_told 13 = .ok (.aload_n 0, 1) := by decide +kernel
theorem dX4_told_14 : decode cX4_told 14 = .ok (.getfield 28, 3) := by decide +kernel
theorem dX4_told_17 : decode cX4_told 17 = .ok (.invokevirtual 140, 3) := by decide +kernel
theorem dX4_told_20 : decode cX4_told 20 = .ok (.aload_n 0, 1) := by decide +kernel
theorem dX4_told_21 : decode cX4_told 21 = .ok (.getfield 28, 3) := by decide +kernel
theorem dX4_told_24 : decode cX4_told 24 = .ok (.getfield 143, 3) := by decide +kernel
theorem dX4_told_27 : decode cX4_told 27 = .ok (.iload_n 1, 1) := by decide +kernel
theorem dX4_told_28 : decode cX4_told 28 = .ok (.iaload, 1) := by decide +kernel
theorem dX4_told_29 : decode cX4_told 29 = .ok (.ireturn, 1) := by decide +kernel
set_option maxRecDepth 20000 in
theorem ggX4_known_X2_knownStores : GoodIn wsX4_known wsX2_knownStores := goodIn_r _ [8, 9, 10, 11, 27, 28, 29, 30, 31, 32, 33, 34, 35, 36, 37, 38, 39, 40, 41, 42, 43, 44] (by decide +kernel) (by decide +kernel)
set_option maxRecDepth 20000 in
theorem gX4_known_X2_knownStores : GoodIn wsX4_known (wsV RX4 146 RX2 yX2_knownStores wsX2_knownStores) := goodIn_app (goodIn_of _ (by decide +kernel)) ggX4_known_X2_knownStores
set_option maxRecDepth 20000 in
theorem ggX4_known_X3_sureStores : GoodIn wsX4_known wsX3_sureStores := goodIn_r _ [16, 17, 18, 19, 45, 46, 47, 30, 31, 32, 33, 34, 35, 36, 37, 38, 39, 40, 41, 42, 43, 44] (by decide +kernel) (by decide +kernel)
set_option maxRecDepth 20000 in
theorem gX4_known_X3_sureStores : GoodIn wsX4_known (wsV RX4 149 RX3 yX3_sureStores wsX3_sureStores) := goodIn_app (goodIn_of _ (by decide +kernel)) ggX4_known_X3_sureStores
theorem dX4_known_0 : decode cX4_known 0 = .ok (.iload_n 1, 1) := by decide +kernel
theorem dX4_known_1 : decode cX4_known 1 = .ok (.ifCond .eq 13, 3) := by decide +kernel
theorem dX4_known_4 : decode cX4_known 4 = .ok (.aload_n 0, 1) := by decide +kernel
theorem dX4_known_5 : decode cX4_known 5 = .ok (.getfield 28, 3) := by decide +kernel
theorem dX4_known_8 : decode cX4_known 8 = .ok (.invokevirtual 146, 3) := by decide +kernel
theorem dX4_known_11 : decode cX4_known 11 = .ok (.goto 14, 3) := by decide +kernel
theorem dX4_known_14 : decode cX4_known 14 = .ok (.aload_n 0, 1) := by decide +kernel
theorem dX4_known_15 : decode cX4_known 15 = .ok (.getfield 21, 3) := by decide +kernel
theorem dX4_known_18 : decode cX4_known 18 = .ok (.aload_n 0, 1) := by decide +kernel
theorem dX4_known_19 : decode cX4_known 19 = .ok (.getfield 39, 3) := by decide +kernel
theorem dX4_known_22 : decode cX4_known 22 = .ok (.invokevirtual 149, 3) := by decide +kernel
theorem dX4_known_25 : decode cX4_known 25 = .ok (.ireturn, 1) := by decide +kernel
set_option maxRecDepth 20000 in
theorem ggX4_settles_X3_prepare : GoodIn wsX4_settles wsX3_prepare := goodIn_r _ [9, 10, 11, 12, 13, 14, 15, 16, 17, 18, 19, 20, 21, 22, 23, 24, 25, 26, 27, 8, 28, 29, 30, 31, 32, 33, 34, 35, 36, 37, 38, 39, 40, 41, 42, 43, 44, 45, 46, 47, 48, 49, 50, 51, 52, 85, 86, 87, 88, 89, 90, 91, 92, 93, 94, 95, 96, 97, 98, 99, 100, 101, 102] (by decide +kernel) (by decide +kernel)
set_option maxRecDepth 20000 in
theorem gX4_settles_X3_prepare : GoodIn wsX4_settles (wsV RX4 118 RX3 yX3_prepare wsX3_prepare) := goodIn_app (goodIn_of _ (by decide +kernel)) ggX4_settles_X3_prepare
set_option maxRecDepth 20000 in
theorem ggX4_settles_X0_storesOf : GoodIn wsX4_settles wsX0_storesOf := goodIn_r _ [56, 17, 57, 88, 89, 90, 91, 92, 93, 94, 95, 96, 97, 98, 99, 100, 101, 102] (by decide +kernel) (by decide +kernel)
set_option maxRecDepth 20000 in
theorem gX4_settles_X0_storesOf : GoodIn wsX4_settles (wsV RX4 115 RX0 yX0_storesOf wsX0_storesOf) := goodIn_app (goodIn_of _ (by decide +kernel)) ggX4_settles_X0_storesOf
set_option maxRecDepth 20000 in
theorem ggX4_settles_X3_ticksTillOne : GoodIn wsX4_settles wsX3_ticksTillOne := goodIn_r _ [61, 62, 63, 64, 65, 66, 67, 68, 69, 70, 71, 8, 72, 10, 11, 51, 12, 13, 14, 15, 16, 17, 73, 74, 75, 76, 77, 33, 38, 85, 86, 87, 88, 89, 90, 91, 92, 93, 94, 95, 96, 97, 98, 99, 100, 101, 102] (by decide +kernel) (by decide +kernel)
set_option maxRecDepth 20000 in
theorem gX4_settles_X3_ticksTillOne : GoodIn wsX4_settles (wsV RX4 152 RX3 yX3_ticksTillOne wsX3_ticksTillOne) := goodIn_app (goodIn_of _ (by decide +kernel)) ggX4_settles_X3_ticksTillOne
theorem dX4_settles_0 : decode cX4_settles 0 = .ok (.aload_n 0, 1) := by decide +kernel
theorem dX4_settles_1 : decode cX4_settles 1 = .ok (.getfield 21, 3) := by decide +kernel
theorem dX4_settles_4 : decode cX4_settles 4 = .ok (.iconst 0, 1) := by decide +kernel
theorem dX4_settles_5 : decode cX4_settles 5 = .ok (.invokevirtual 118, 3) := by decide +kernel
theorem dX4_settles_8 : decode cX4_settles 8 = .ok (.aload_n 0, 1) := by decide +kernel
theorem dX4_settles_9 : decode cX4_settles 9 = .ok (.getfield 21, 3) := by decide +kernel
theorem dX4_settles_12 : decode cX4_settles 12 = .ok (.aload_n 0, 1) := by decide +kernel
theorem dX4_settles_13 : decode cX4_settles 13 = .ok (.getfield 39, 3) := by decide +kernel
theorem dX4_settles_16 : decode cX4_settles 16 = .ok (.aload_n 0, 1) := by decide +kernel
theorem dX4_settles_17 : decode cX4_settles 17 = .ok (.getfield 10, 3) := by decide +kernel
theorem dX4_settles_20 : decode cX4_settles 20 = .ok (.aload_n 0, 1) := by decide +kernel
theorem dX4_settles_21 : decode cX4_settles 21 = .ok (.getfield 47, 3) := by decide +kernel
theorem dX4_settles_24 : decode cX4_settles 24 = .ok (.invokevirtual 115, 3) := by decide +kernel
theorem dX4_settles_27 : decode cX4_settles 27 = .ok (.invokevirtual 152, 3) := by decide +kernel
theorem dX4_settles_30 : decode cX4_settles 30 = .ok (.ireturn, 1) := by decide +kernel
set_option maxRecDepth 20000 in
theorem ggX4_next_X0_rowCount : GoodIn wsX4_next wsX0_rowCount := goodIn_r _ [8, 9, 57, 58, 59, 60, 61, 62, 63, 64, 65, 66, 67, 68, 69, 70, 71] (by decide +kernel) (by decide +kernel)
set_option maxRecDepth 20000 in
theorem gX4_next_X0_rowCount : GoodIn wsX4_next (wsV RX4 156 RX0 yX0_rowCount wsX0_rowCount) := goodIn_app (goodIn_of _ (by decide +kernel)) ggX4_next_X0_rowCount
set_option maxRecDepth 20000 in
theorem ggX4_next_X3_evaluate : GoodIn wsX4_next wsX3_evaluate := goodIn_r _ [14, 15, 16, 17, 18, 19, 20, 21, 22, 23, 13, 24, 25, 26, 27, 28, 29, 30, 31, 32, 33, 72, 73, 74, 57, 58, 59, 60, 61, 62, 63, 64, 65, 66, 67, 68, 69, 70, 71] (by decide +kernel) (by decide +kernel)
set_option maxRecDepth 20000 in
theorem gX4_next_X3_evaluate : GoodIn wsX4_next (wsV RX4 159 RX3 yX3_evaluate wsX3_evaluate) := goodIn_app (goodIn_of _ (by decide +kernel)) ggX4_next_X3_evaluate
set_option maxRecDepth 20000 in
theorem ggX4_next_X0_storesOf : GoodIn wsX4_next wsX0_storesOf := goodIn_r _ [37, 9, 38, 57, 58, 59, 60, 61, 62, 63, 64, 65, 66, 67, 68, 69, 70, 71] (by decide +kernel) (by decide +kernel)
set_option maxRecDepth 20000 in
theorem gX4_next_X0_storesOf : GoodIn wsX4_next (wsV RX4 115 RX0 yX0_storesOf wsX0_storesOf) := goodIn_app (goodIn_of _ (by decide +kernel)) ggX4_next_X0_storesOf
set_option maxRecDepth 20000 in
theorem ggX4_next_X3_led : GoodIn wsX4_next wsX3_led := goodIn_r _ [42, 15, 43, 19, 44, 72, 73, 74, 57, 58, 59, 60, 61, 62, 63, 64, 65, 66, 67, 68, 69, 70, 71] (by decide +kernel) (by decide +kernel)
set_option maxRecDepth 20000 in
theorem gX4_next_X3_led : GoodIn wsX4_next (wsV RX4 163 RX3 yX3_led wsX3_led) := goodIn_app (goodIn_of _ (by decide +kernel)) ggX4_next_X3_led
set_option maxRecDepth 20000 in
theorem ggX4_next_X0_beginBits : GoodIn wsX4_next wsX0_beginBits := goodIn_r _ [48, 9, 49, 57, 58, 59, 60, 61, 62, 63, 64, 65, 66, 67, 68, 69, 70, 71] (by decide +kernel) (by decide +kernel)
set_option maxRecDepth 20000 in
theorem gX4_next_X0_beginBits : GoodIn wsX4_next (wsV RX4 166 RX0 yX0_beginBits wsX0_beginBits) := goodIn_app (goodIn_of _ (by decide +kernel)) ggX4_next_X0_beginBits
theorem dX4_next_0 : decode cX4_next 0 = .ok (.iload_n 1, 1) := by decide +kernel
theorem dX4_next_1 : decode cX4_next 1 = .ok (.ifCond .lt 14, 3) := by decide +kernel
theorem dX4_next_4 : decode cX4_next 4 = .ok (.iload_n 1, 1) := by decide +kernel
theorem dX4_next_5 : decode cX4_next 5 = .ok (.aload_n 0, 1) := by decide +kernel
theorem dX4_next_6 : decode cX4_next 6 = .ok (.getfield 10, 3) := by decide +kernel
theorem dX4_next_9 : decode cX4_next 9 = .ok (.invokevirtual 156, 3) := by decide +kernel
theorem dX4_next_12 : decode cX4_next 12 = .ok (.if_icmp .lt 6, 3) := by decide +kernel
theorem dX4_next_15 : decode cX4_next 15 = .ok (.bipush (-2), 2) := by decide +kernel
theorem dX4_next_17 : decode cX4_next 17 = .ok (.ireturn, 1) := by decide +kernel
theorem dX4_next_18 : decode cX4_next 18 = .ok (.aload_n 0, 1) := by decide +kernel
theorem dX4_next_19 : decode cX4_next 19 = .ok (.getfield 21, 3) := by decide +kernel
theorem dX4_next_22 : decode cX4_next 22 = .ok (.iconst 0, 1) := by decide +kernel
theorem dX4_next_23 : decode cX4_next 23 = .ok (.iconst 0, 1) := by decide +kernel
theorem dX4_next_24 : decode cX4_next 24 = .ok (.invokevirtual 159, 3) := by decide +kernel
theorem dX4_next_27 : decode cX4_next 27 = .ok (.aload_n 0, 1) := by decide +kernel
theorem dX4_next_28 : decode cX4_next 28 = .ok (.getfield 10, 3) := by decide +kernel
theorem dX4_next_31 : decode cX4_next 31 = .ok (.aload_n 0, 1) := by decide +kernel
theorem dX4_next_32 : decode cX4_next 32 = .ok (.getfield 47, 3) := by decide +kernel
theorem dX4_next_35 : decode cX4_next 35 = .ok (.invokevirtual 115, 3) := by decide +kernel
theorem dX4_next_38 : decode cX4_next 38 = .ok (.istore_n 2, 1) := by decide +kernel
theorem dX4_next_39 : decode cX4_next 39 = .ok (.aload_n 0, 1) := by decide +kernel
theorem dX4_next_40 : decode cX4_next 40 = .ok (.getfield 21, 3) := by decide +kernel
theorem dX4_next_43 : decode cX4_next 43 = .ok (.iload_n 1, 1) := by decide +kernel
theorem dX4_next_44 : decode cX4_next 44 = .ok (.invokevirtual 163, 3) := by decide +kernel
theorem dX4_next_47 : decode cX4_next 47 = .ok (.iload_n 2, 1) := by decide +kernel
theorem dX4_next_48 : decode cX4_next 48 = .ok (.iconst (-1), 1) := by decide +kernel
theorem dX4_next_49 : decode cX4_next 49 = .ok (.ixor, 1) := by decide +kernel
theorem dX4_next_50 : decode cX4_next 50 = .ok (.iand, 1) := by decide +kernel
theorem dX4_next_51 : decode cX4_next 51 = .ok (.aload_n 0, 1) := by decide +kernel
theorem dX4_next_52 : decode cX4_next 52 = .ok (.getfield 10, 3) := by decide +kernel
theorem dX4_next_55 : decode cX4_next 55 = .ok (.invokevirtual 166, 3) := by decide +kernel
theorem dX4_next_58 : decode cX4_next 58 = .ok (.iload_n 2, 1) := by decide +kernel
theorem dX4_next_59 : decode cX4_next 59 = .ok (.iand, 1) := by decide +kernel
theorem dX4_next_60 : decode cX4_next 60 = .ok (.ior, 1) := by decide +kernel
theorem dX4_next_61 : decode cX4_next 61 = .ok (.ireturn, 1) := by decide +kernel
set_option maxRecDepth 20000 in
theorem ggX4_depends_X0_isNode : GoodIn wsX4_depends wsX0_isNode := goodIn_r _ [7, 8, 36, 37, 38, 39, 40, 41, 42, 43, 44, 45, 46, 47, 48, 49, 50] (by decide +kernel) (by decide +kernel)
set_option maxRecDepth 20000 in
theorem gX4_depends_X0_isNode : GoodIn wsX4_depends (wsV RX4 72 RX0 yX0_isNode wsX0_isNode) := goodIn_app (goodIn_of _ (by decide +kernel)) ggX4_depends_X0_isNode
set_option maxRecDepth 20000 in
theorem ggX4_depends_X0_isSort : GoodIn wsX4_depends wsX0_isSort := goodIn_r _ [12, 13, 14, 4, 5, 6, 7, 8, 36, 37, 38, 39, 40, 41, 42, 43, 44, 45, 46, 47, 48, 49, 50] (by decide +kernel) (by decide +kernel)
set_option maxRecDepth 20000 in
theorem gX4_depends_X0_isSort : GoodIn wsX4_depends (wsV RX4 89 RX0 yX0_isSort wsX0_isSort) := goodIn_app (goodIn_of _ (by decide +kernel)) ggX4_depends_X0_isSort
set_option maxRecDepth 20000 in
theorem ggX4_depends_X0_traceSources : GoodIn wsX4_depends wsX0_traceSources := goodIn_r _ [18, 8, 13, 19, 20, 21, 22, 23, 36, 37, 38, 39, 40, 41, 42, 43, 44, 45, 46, 47, 48, 49, 50] (by decide +kernel) (by decide +kernel)
set_option maxRecDepth 20000 in
theorem gX4_depends_X0_traceSources : GoodIn wsX4_depends (wsV RX4 169 RX0 yX0_traceSources wsX0_traceSources) := goodIn_app (goodIn_of _ (by decide +kernel)) ggX4_depends_X0_traceSources
set_option maxRecDepth 20000 in
theorem ggX4_depends_X0_leans : GoodIn wsX4_depends wsX0_leans := goodIn_r _ [27, 19, 28, 36, 37, 38, 39, 40, 41, 42, 43, 44, 45, 46, 47, 48, 49, 50] (by decide +kernel) (by decide +kernel)
set_option maxRecDepth 20000 in
theorem gX4_depends_X0_leans : GoodIn wsX4_depends (wsV RX4 172 RX0 yX0_leans wsX0_leans) := goodIn_app (goodIn_of _ (by decide +kernel)) ggX4_depends_X0_leans
theorem dX4_depends_0 : decode cX4_depends 0 = .ok (.aload_n 0, 1) := by decide +kernel
theorem dX4_depends_1 : decode cX4_depends 1 = .ok (.getfield 10, 3) := by decide +kernel
theorem dX4_depends_4 : decode cX4_depends 4 = .ok (.iload_n 1, 1) := by decide +kernel
theorem dX4_depends_5 : decode cX4_depends 5 = .ok (.invokevirtual 72, 3) := by decide +kernel
theorem dX4_depends_8 : decode cX4_depends 8 = .ok (.ifCond .eq 14, 3) := by decide +kernel
theorem dX4_depends_11 : decode cX4_depends 11 = .ok (.aload_n 0, 1) := by decide +kernel
theorem dX4_depends_12 : decode cX4_depends 12 = .ok (.getfield 10, 3) := by decide +kernel
theorem dX4_depends_15 : decode cX4_depends 15 = .ok (.iload_n 2, 1) := by decide +kernel
theorem dX4_depends_16 : decode cX4_depends 16 = .ok (.invokevirtual 72, 3) := by decide +kernel
theorem dX4_depends_19 : decode cX4_depends 19 = .ok (.ifCond .ne 5, 3) := by decide +kernel
theorem dX4_depends_22 : decode cX4_depends 22 = .ok (.iconst (-1), 1) := by decide +kernel
theorem dX4_depends_23 : decode cX4_depends 23 = .ok (.ireturn, 1) := by decide +kernel
theorem dX4_depends_24 : decode cX4_depends 24 = .ok (.aload_n 0, 1) := by decide +kernel
theorem dX4_depends_25 : decode cX4_depends 25 = .ok (.getfield 10, 3) := by decide +kernel
theorem dX4_depends_28 : decode cX4_depends 28 = .ok (.iload_n 1, 1) := by decide +kernel
theorem dX4_depends_29 : decode cX4_depends 29 = .ok (.iconst 3, 1) := by decide +kernel
theorem dX4_depends_30 : decode cX4_depends 30 = .ok (.invokevirtual 89, 3) := by decide +kernel
theorem dX4_depends_33 : decode cX4_depends 33 = .ok (.ifCond .eq 15, 3) := by decide +kernel
theorem dX4_depends_36 : decode cX4_depends 36 = .ok (.aload_n 0, 1) := by decide +kernel
theorem dX4_depends_37 : decode cX4_depends 37 = .ok (.getfield 10, 3) := by decide +kernel
theorem dX4_depends_40 : decode cX4_depends 40 = .ok (.iload_n 2, 1) := by decide +kernel
theorem dX4_depends_41 : decode cX4_depends 41 = .ok (.iconst 3, 1) := by decide +kernel
theorem dX4_depends_42 : decode cX4_depends 42 = .ok (.invokevirtual 89, 3) := by decide +kernel
theorem dX4_depends_45 : decode cX4_depends 45 = .ok (.ifCond .ne 6, 3) := by decide +kernel
theorem dX4_depends_48 : decode cX4_depends 48 = .ok (.bipush (-3), 2) := by decide +kernel
theorem dX4_depends_50 : decode cX4_depends 50 = .ok (.ireturn, 1) := by decide +kernel
theorem dX4_depends_51 : decode cX4_depends 51 = .ok (.aload_n 0, 1) := by decide +kernel
theorem dX4_depends_52 : decode cX4_depends 52 = .ok (.getfield 10, 3) := by decide +kernel
theorem dX4_depends_55 : decode cX4_depends 55 = .ok (.invokevirtual 169, 3) := by decide +kernel
theorem dX4_depends_58 : decode cX4_depends 58 = .ok (.aload_n 0, 1) := by decide +kernel
theorem dX4_depends_59 : decode cX4_depends 59 = .ok (.getfield 10, 3) := by decide +kernel
theorem dX4_depends_62 : decode cX4_depends 62 = .ok (.aload_n 0, 1) := by decide +kernel
theorem dX4_depends_63 : decode cX4_depends 63 = .ok (.getfield 10, 3) := by decide +kernel
theorem dX4_depends_66 : decode cX4_depends 66 = .ok (.getfield 93, 3) := by decide +kernel
theorem dX4_depends_69 : decode cX4_depends 69 = .ok (.iload_n 1, 1) := by decide +kernel
theorem dX4_depends_70 : decode cX4_depends 70 = .ok (.iaload, 1) := by decide +kernel
theorem dX4_depends_71 : decode cX4_depends 71 = .ok (.aload_n 0, 1) := by decide +kernel
theorem dX4_depends_72 : decode cX4_depends 72 = .ok (.getfield 10, 3) := by decide +kernel
theorem dX4_depends_75 : decode cX4_depends 75 = .ok (.getfield 93, 3) := by decide +kernel
theorem dX4_depends_78 : decode cX4_depends 78 = .ok (.iload_n 2, 1) := by decide +kernel
theorem dX4_depends_79 : decode cX4_depends 79 = .ok (.iaload, 1) := by decide +kernel
theorem dX4_depends_80 : decode cX4_depends 80 = .ok (.invokevirtual 172, 3) := by decide +kernel
theorem dX4_depends_83 : decode cX4_depends 83 = .ok (.ifCond .eq 7, 3) := by decide +kernel
theorem dX4_depends_86 : decode cX4_depends 86 = .ok (.iconst 1, 1) := by decide +kernel
theorem dX4_depends_87 : decode cX4_depends 87 = .ok (.goto 4, 3) := by decide +kernel
theorem dX4_depends_90 : decode cX4_depends 90 = .ok (.iconst 0, 1) := by decide +kernel
theorem dX4_depends_91 : decode cX4_depends 91 = .ok (.ireturn, 1) := by decide +kernel
set_option maxRecDepth 20000 in
theorem ggX4_crossings_X0_traceSources : GoodIn wsX4_crossings wsX0_traceSources := goodIn_r _ [7, 8, 9, 10, 11, 12, 13, 14, 32, 33, 34, 35, 36, 37, 38, 39, 40, 41, 42, 43, 44, 45, 46] (by decide +kernel) (by decide +kernel)
set_option maxRecDepth 20000 in
theorem gX4_crossings_X0_traceSources : GoodIn wsX4_crossings (wsV RX4 169 RX0 yX0_traceSources wsX0_traceSources) := goodIn_app (goodIn_of _ (by decide +kernel)) ggX4_crossings_X0_traceSources
set_option maxRecDepth 20000 in
theorem ggX4_crossings_X0_crosses : GoodIn wsX4_crossings wsX0_crosses := goodIn_r _ [18, 19, 20, 21, 22, 6, 23, 10, 24, 32, 33, 34, 35, 36, 37, 38, 39, 40, 41, 42, 43, 44, 45, 46] (by decide +kernel) (by decide +kernel)
set_option maxRecDepth 20000 in
theorem gX4_crossings_X0_crosses : GoodIn wsX4_crossings (wsV RX4 175 RX0 yX0_crosses wsX0_crosses) := goodIn_app (goodIn_of _ (by decide +kernel)) ggX4_crossings_X0_crosses
theorem dX4_crossings_0 : decode cX4_crossings 0 = .ok (.aload_n 0, 1) := by decide +kernel
theorem dX4_crossings_1 : decode cX4_crossings 1 = .ok (.getfield 10, 3) := by decide +kernel
theorem dX4_crossings_4 : decode cX4_crossings 4 = .ok (.invokevirtual 169, 3) := by decide +kernel
theorem dX4_crossings_7 : decode cX4_crossings 7 = .ok (.iconst 0, 1) := by decide +kernel
theorem dX4_crossings_8 : decode cX4_crossings 8 = .ok (.istore_n 1, 1) := by decide +kernel
theorem dX4_crossings_9 : decode cX4_crossings 9 = .ok (.iconst 0, 1) := by decide +kernel
theorem dX4_crossings_10 : decode cX4_crossings 10 = .ok (.istore_n 2, 1) := by decide +kernel
theorem dX4_crossings_11 : decode cX4_crossings 11 = .ok (.iload_n 2, 1) := by decide +kernel
theorem dX4_crossings_12 : decode cX4_crossings 12 = .ok (.aload_n 0, 1) := by decide +kernel
theorem dX4_crossings_13 : decode cX4_crossings 13 = .ok (.getfield 10, 3) := by decide +kernel
theorem dX4_crossings_16 : decode cX4_crossings 16 = .ok (.getfield 82, 3) := by decide +kernel
theorem dX4_crossings_19 : decode cX4_crossings 19 = .ok (.if_icmp .ge 43, 3) := by decide +kernel
theorem dX4_crossings_22 : decode cX4_crossings 22 = .ok (.iconst 0, 1) := by decide +kernel
theorem dX4_crossings_23 : decode cX4_crossings 23 = .ok (.istore_n 3, 1) := by decide +kernel
theorem dX4_crossings_24 : decode cX4_crossings 24 = .ok (.iload_n 3, 1) := by decide +kernel
theorem dX4_crossings_25 : decode cX4_crossings 25 = .ok (.aload_n 0, 1) := by decide +kernel
theorem dX4_crossings_26 : decode cX4_crossings 26 = .ok (.getfield 10, 3) := by decide +kernel
theorem dX4_crossings_29 : decode cX4_crossings 29 = .ok (.getfield 82, 3) := by decide +kernel
theorem dX4_crossings_32 : decode cX4_crossings 32 = .ok (.if_icmp .ge 24, 3) := by decide +kernel
theorem dX4_crossings_35 : decode cX4_crossings 35 = .ok (.aload_n 0, 1) := by decide +kernel
theorem dX4_crossings_36 : decode cX4_crossings 36 = .ok (.getfield 10, 3) := by decide +kernel
theorem dX4_crossings_39 : decode cX4_crossings 39 = .ok (.iload_n 2, 1) := by decide +kernel
theorem dX4_crossings_40 : decode cX4_crossings 40 = .ok (.iload_n 3, 1) := by decide +kernel
theorem dX4_crossings_41 : decode cX4_crossings 41 = .ok (.invokevirtual 175, 3) := by decide +kernel
theorem dX4_crossings_44 : decode cX4_crossings 44 = .ok (.ifCond .eq 6, 3) := by decide +kernel
theorem dX4_crossings_47 : decode cX4_crossings 47 = .ok (.iinc 1 1, 3) := by decide +kernel
theorem dX4_crossings_50 : decode cX4_crossings 50 = .ok (.iinc 3 1, 3) := by decide +kernel
theorem dX4_crossings_53 : decode cX4_crossings 53 = .ok (.goto (-29), 3) := by decide +kernel
theorem dX4_crossings_56 : decode cX4_crossings 56 = .ok (.iinc 2 1, 3) := by decide +kernel
theorem dX4_crossings_59 : decode cX4_crossings 59 = .ok (.goto (-48), 3) := by decide +kernel
theorem dX4_crossings_62 : decode cX4_crossings 62 = .ok (.iload_n 1, 1) := by decide +kernel
theorem dX4_crossings_63 : decode cX4_crossings 63 = .ok (.ireturn, 1) := by decide +kernel
set_option maxRecDepth 20000 in
theorem ggX4_crossing_X0_traceSources : GoodIn wsX4_crossing wsX0_traceSources := goodIn_r _ [8, 9, 10, 11, 12, 13, 14, 15, 33, 34, 35, 36, 37, 38, 39, 40, 41, 42, 43, 44, 45, 46, 47] (by decide +kernel) (by decide +kernel)
set_option maxRecDepth 20000 in
theorem gX4_crossing_X0_traceSources : GoodIn wsX4_crossing (wsV RX4 169 RX0 yX0_traceSources wsX0_traceSources) := goodIn_app (goodIn_of _ (by decide +kernel)) ggX4_crossing_X0_traceSources
set_option maxRecDepth 20000 in
theorem ggX4_crossing_X0_crosses : GoodIn wsX4_crossing wsX0_crosses := goodIn_r _ [19, 20, 21, 22, 23, 7, 24, 11, 25, 33, 34, 35, 36, 37, 38, 39, 40, 41, 42, 43, 44, 45, 46, 47] (by decide +kernel) (by decide +kernel)
set_option maxRecDepth 20000 in
theorem gX4_crossing_X0_crosses : GoodIn wsX4_crossing (wsV RX4 175 RX0 yX0_crosses wsX0_crosses) := goodIn_app (goodIn_of _ (by decide +kernel)) ggX4_crossing_X0_crosses
theorem dX4_crossing_0 : decode cX4_crossing 0 = .ok (.iload_n 1, 1) := by decide +kernel
theorem dX4_crossing_1 : decode cX4_crossing 1 = .ok (.ifCond .ge 6, 3) := by decide +kernel
theorem dX4_crossing_4 : decode cX4_crossing 4 = .ok (.bipush (-9), 2) := by decide +kernel
theorem dX4_crossing_6 : decode cX4_crossing 6 = .ok (.ireturn, 1) := by decide +kernel
theorem dX4_crossing_7 : decode cX4_crossing 7 = .ok (.aload_n 0, 1) := by decide +kernel
theorem dX4_crossing_8 : decode cX4_crossing 8 = .ok (.getfield 10, 3) := by decide +kernel
theorem dX4_crossing_11 : decode cX4_crossing 11 = .ok (.invokevirtual 169, 3) := by decide +kernel
theorem dX4_crossing_14 : decode cX4_crossing 14 = .ok (.iload_n 1, 1) := by decide +kernel
theorem dX4_crossing_15 : decode cX4_crossing 15 = .ok (.istore_n 2, 1) := by decide +kernel
theorem dX4_crossing_16 : decode cX4_crossing 16 = .ok (.iconst 0, 1) := by decide +kernel
theorem dX4_crossing_17 : decode cX4_crossing 17 = .ok (.istore_n 3, 1) := by decide +kernel
theorem dX4_crossing_18 : decode cX4_crossing 18 = .ok (.iload_n 3, 1) := by decide +kernel
theorem dX4_crossing_19 : decode cX4_crossing 19 = .ok (.aload_n 0, 1) := by decide +kernel
theorem dX4_crossing_20 : decode cX4_crossing 20 = .ok (.getfield 10, 3) := by decide +kernel
theorem dX4_crossing_23 : decode cX4_crossing 23 = .ok (.getfield 82, 3) := by decide +kernel
theorem dX4_crossing_26 : decode cX4_crossing 26 = .ok (.if_icmp .ge 74, 3) := by decide +kernel
theorem dX4_crossing_29 : decode cX4_crossing 29 = .ok (.iconst 0, 1) := by decide +kernel
theorem dX4_crossing_30 : decode cX4_crossing 30 = .ok (.istore 4, 2) := by decide +kernel
theorem dX4_crossing_32 : decode cX4_crossing 32 = .ok (.iload 4, 2) := by decide +kernel
theorem dX4_crossing_34 : decode cX4_crossing 34 = .ok (.aload_n 0, 1) := by decide +kernel
theorem dX4_crossing_35 : decode cX4_crossing 35 = .ok (.getfield 10, 3) := by decide +kernel
theorem dX4_crossing_38 : decode cX4_crossing 38 = .ok (.getfield 82, 3) := by decide +kernel
theorem dX4_crossing_41 : decode cX4_crossing 41 = .ok (.if_icmp .ge 53, 3) := by decide +kernel
theorem dX4_crossing_44 : decode cX4_crossing 44 = .ok (.aload_n 0, 1) := by decide +kernel
theorem dX4_crossing_45 : decode cX4_crossing 45 = .ok (.getfield 10, 3) := by decide +kernel
theorem dX4_crossing_48 : decode cX4_crossing 48 = .ok (.iload_n 3, 1) := by decide +kernel
theorem dX4_crossing_49 : decode cX4_crossing 49 = .ok (.iload 4, 2) := by decide +kernel
theorem dX4_crossing_51 : decode cX4_crossing 51 = .ok (.invokevirtual 175, 3) := by decide +kernel
theorem dX4_crossing_54 : decode cX4_crossing 54 = .ok (.ifCond .eq 34, 3) := by decide +kernel
theorem dX4_crossing_57 : decode cX4_crossing 57 = .ok (.iload_n 2, 1) := by decide +kernel
theorem dX4_crossing_58 : decode cX4_crossing 58 = .ok (.ifCond .ne 27, 3) := by decide +kernel
theorem dX4_crossing_61 : decode cX4_crossing 61 = .ok (.bipush 100, 2) := by decide +kernel
theorem dX4_crossing_63 : decode cX4_crossing 63 = .ok (.aload_n 0, 1) := by decide +kernel
theorem dX4_crossing_64 : decode cX4_crossing 64 = .ok (.getfield 10, 3) := by decide +kernel
theorem dX4_crossing_67 : decode cX4_crossing 67 = .ok (.getfield 178, 3) := by decide +kernel
theorem dX4_crossing_70 : decode cX4_crossing 70 = .ok (.iload_n 3, 1) := by decide +kernel
theorem dX4_crossing_71 : decode cX4_crossing 71 = .ok (.iaload, 1) := by decide +kernel
theorem dX4_crossing_72 : decode cX4_crossing 72 = .ok (.imul, 1) := by decide +kernel
theorem dX4_crossing_73 : decode cX4_crossing 73 = .ok (.aload_n 0, 1) := by decide +kernel
theorem dX4_crossing_74 : decode cX4_crossing 74 = .ok (.getfield 10, 3) := by decide +kernel
theorem dX4_crossing_77 : decode cX4_crossing 77 = .ok (.getfield 178, 3) := by decide +kernel
theorem dX4_crossing_80 : decode cX4_crossing 80 = .ok (.iload 4, 2) := by decide +kernel
theorem dX4_crossing_82 : decode cX4_crossing 82 = .ok (.iaload, 1) := by decide +kernel
theorem dX4_crossing_83 : decode cX4_crossing 83 = .ok (.iadd, 1) := by decide +kernel
theorem dX4_crossing_84 : decode cX4_crossing 84 = .ok (.ireturn, 1) := by decide +kernel
theorem dX4_crossing_85 : decode cX4_crossing 85 = .ok (.iinc 2 (-1), 3) := by decide +kernel
theorem dX4_crossing_88 : decode cX4_crossing 88 = .ok (.iinc 4 1, 3) := by decide +kernel
theorem dX4_crossing_91 : decode cX4_crossing 91 = .ok (.goto (-59), 3) := by decide +kernel
theorem dX4_crossing_94 : decode cX4_crossing 94 = .ok (.iinc 3 1, 3) := by decide +kernel
theorem dX4_crossing_97 : decode cX4_crossing 97 = .ok (.goto (-79), 3) := by decide +kernel
theorem dX4_crossing_100 : decode cX4_crossing 100 = .ok (.bipush (-9), 2) := by decide +kernel
theorem dX4_crossing_102 : decode cX4_crossing 102 = .ok (.ireturn, 1) := by decide +kernel
set_option maxRecDepth 20000 in
theorem ggX4_alone_X4_isLine : GoodIn wsX4_alone wsX4_isLine := goodIn_r _ [6] (by decide +kernel) (by decide +kernel)
set_option maxRecDepth 20000 in
theorem gX4_alone_X4_isLine : GoodIn wsX4_alone (va_wsS RX4 79 yX4_isLine wsX4_isLine) := goodIn_app (goodIn_of _ (by decide +kernel)) ggX4_alone_X4_isLine
set_option maxRecDepth 20000 in
theorem ggX4_alone_X3_prepare : GoodIn wsX4_alone wsX3_prepare := goodIn_r _ [11, 12, 13, 14, 15, 16, 17, 18, 19, 20, 21, 22, 23, 24, 25, 26, 27, 28, 29, 10, 30, 31, 32, 33, 34, 35, 36, 37, 38, 39, 40, 41, 42, 43, 44, 45, 46, 47, 48, 49, 50, 51, 52, 53, 54, 91, 92, 93, 94, 95, 96, 97, 98, 99, 100, 101, 102, 103, 104, 105, 106, 107, 108] (by decide +kernel) (by decide +kernel)
set_option maxRecDepth 20000 in
theorem gX4_alone_X3_prepare : GoodIn wsX4_alone (wsV RX4 118 RX3 yX3_prepare wsX3_prepare) := goodIn_app (goodIn_of _ (by decide +kernel)) ggX4_alone_X3_prepare
set_option maxRecDepth 20000 in
theorem ggX4_alone_X3_allRows : GoodIn wsX4_alone wsX3_allRows := goodIn_r _ [58, 12, 40, 14, 15, 16, 17, 18, 19, 91, 92, 93, 94, 95, 96, 97, 98, 99, 100, 101, 102, 103, 104, 105, 106, 107, 108] (by decide +kernel) (by decide +kernel)
set_option maxRecDepth 20000 in
theorem gX4_alone_X3_allRows : GoodIn wsX4_alone (wsV RX4 181 RX3 yX3_allRows wsX3_allRows) := goodIn_app (goodIn_of _ (by decide +kernel)) ggX4_alone_X3_allRows
set_option maxRecDepth 20000 in
theorem ggX4_alone_X0_storesOf : GoodIn wsX4_alone wsX0_storesOf := goodIn_r _ [62, 19, 63, 94, 95, 96, 97, 98, 99, 100, 101, 102, 103, 104, 105, 106, 107, 108] (by decide +kernel) (by decide +kernel)
set_option maxRecDepth 20000 in
theorem gX4_alone_X0_storesOf : GoodIn wsX4_alone (wsV RX4 115 RX0 yX0_storesOf wsX0_storesOf) := goodIn_app (goodIn_of _ (by decide +kernel)) ggX4_alone_X0_storesOf
set_option maxRecDepth 20000 in
theorem ggX4_alone_X3_ticksTillOne : GoodIn wsX4_alone wsX3_ticksTillOne := goodIn_r _ [67, 68, 69, 70, 71, 72, 73, 74, 75, 76, 77, 10, 78, 12, 13, 53, 14, 15, 16, 17, 18, 19, 79, 80, 81, 82, 83, 35, 40, 91, 92, 93, 94, 95, 96, 97, 98, 99, 100, 101, 102, 103, 104, 105, 106, 107, 108] (by decide +kernel) (by decide +kernel)
set_option maxRecDepth 20000 in
theorem gX4_alone_X3_ticksTillOne : GoodIn wsX4_alone (wsV RX4 152 RX3 yX3_ticksTillOne wsX3_ticksTillOne) := goodIn_app (goodIn_of _ (by decide +kernel)) ggX4_alone_X3_ticksTillOne
theorem dX4_alone_0 : decode cX4_alone 0 = .ok (.iload_n 1, 1) := by decide +kernel
theorem dX4_alone_1 : decode cX4_alone 1 = .ok (.invokestatic 79, 3) := by decide +kernel
theorem dX4_alone_4 : decode cX4_alone 4 = .ok (.ifCond .ne 5, 3) := by decide +kernel
theorem dX4_alone_7 : decode cX4_alone 7 = .ok (.iconst (-1), 1) := by decide +kernel
theorem dX4_alone_8 : decode cX4_alone 8 = .ok (.ireturn, 1) := by decide +kernel
theorem dX4_alone_9 : decode cX4_alone 9 = .ok (.aload_n 0, 1) := by decide +kernel
theorem dX4_alone_10 : decode cX4_alone 10 = .ok (.getfield 21, 3) := by decide +kernel
theorem dX4_alone_13 : decode cX4_alone 13 = .ok (.iconst 1, 1) := by decide +kernel
theorem dX4_alone_14 : decode cX4_alone 14 = .ok (.invokevirtual 118, 3) := by decide +kernel
theorem dX4_alone_17 : decode cX4_alone 17 = .ok (.aload_n 0, 1) := by decide +kernel
theorem dX4_alone_18 : decode cX4_alone 18 = .ok (.getfield 21, 3) := by decide +kernel
theorem dX4_alone_21 : decode cX4_alone 21 = .ok (.aload_n 0, 1) := by decide +kernel
theorem dX4_alone_22 : decode cX4_alone 22 = .ok (.getfield 21, 3) := by decide +kernel
theorem dX4_alone_25 : decode cX4_alone 25 = .ok (.invokevirtual 181, 3) := by decide +kernel
theorem dX4_alone_28 : decode cX4_alone 28 = .ok (.aload_n 0, 1) := by decide +kernel
theorem dX4_alone_29 : decode cX4_alone 29 = .ok (.getfield 10, 3) := by decide +kernel
theorem dX4_alone_32 : decode cX4_alone 32 = .ok (.iconst 1, 1) := by decide +kernel
theorem dX4_alone_33 : decode cX4_alone 33 = .ok (.iload_n 1, 1) := by decide +kernel
theorem dX4_alone_34 : decode cX4_alone 34 = .ok (.ishl, 1) := by decide +kernel
theorem dX4_alone_35 : decode cX4_alone 35 = .ok (.invokevirtual 115, 3) := by decide +kernel
theorem dX4_alone_38 : decode cX4_alone 38 = .ok (.invokevirtual 152, 3) := by decide +kernel
theorem dX4_alone_41 : decode cX4_alone 41 = .ok (.ireturn, 1) := by decide +kernel
set_option maxRecDepth 20000 in
theorem ggX4_mend_X4_isTickCount : GoodIn wsX4_mend wsX4_isTickCount := goodIn_r _ [7] (by decide +kernel) (by decide +kernel)
set_option maxRecDepth 20000 in
theorem gX4_mend_X4_isTickCount : GoodIn wsX4_mend (va_wsS RX4 112 yX4_isTickCount wsX4_isTickCount) := goodIn_app (goodIn_of _ (by decide +kernel)) ggX4_mend_X4_isTickCount
set_option maxRecDepth 20000 in
theorem ggX4_mend_X3_prepare : GoodIn wsX4_mend wsX3_prepare := goodIn_r _ [12, 13, 14, 15, 16, 17, 18, 19, 20, 21, 22, 23, 24, 25, 26, 27, 28, 29, 30, 11, 31, 32, 33, 34, 35, 36, 37, 38, 39, 40, 41, 42, 43, 44, 45, 46, 47, 48, 49, 50, 51, 52, 53, 54, 55, 115, 116, 117, 100, 101, 102, 103, 104, 105, 106, 107, 108, 109, 110, 111, 112, 113, 114] (by decide +kernel) (by decide +kernel)
set_option maxRecDepth 20000 in
theorem gX4_mend_X3_prepare : GoodIn wsX4_mend (wsV RX4 118 RX3 yX3_prepare wsX3_prepare) := goodIn_app (goodIn_of _ (by decide +kernel)) ggX4_mend_X3_prepare
set_option maxRecDepth 20000 in
theorem ggX4_mend_X0_storesOf : GoodIn wsX4_mend wsX0_storesOf := goodIn_r _ [59, 20, 60, 100, 101, 102, 103, 104, 105, 106, 107, 108, 109, 110, 111, 112, 113, 114] (by decide +kernel) (by decide +kernel)
set_option maxRecDepth 20000 in
theorem gX4_mend_X0_storesOf : GoodIn wsX4_mend (wsV RX4 115 RX0 yX0_storesOf wsX0_storesOf) := goodIn_app (goodIn_of _ (by decide +kernel)) ggX4_mend_X0_storesOf
set_option maxRecDepth 20000 in
theorem ggX4_mend_X0_rowCount : GoodIn wsX4_mend wsX0_rowCount := goodIn_r _ [19, 20, 100, 101, 102, 103, 104, 105, 106, 107, 108, 109, 110, 111, 112, 113, 114] (by decide +kernel) (by decide +kernel)
set_option maxRecDepth 20000 in
theorem gX4_mend_X0_rowCount : GoodIn wsX4_mend (wsV RX4 156 RX0 yX0_rowCount wsX0_rowCount) := goodIn_app (goodIn_of _ (by decide +kernel)) ggX4_mend_X0_rowCount
set_option maxRecDepth 20000 in
theorem ggX4_mend_J6_bitCount_0f7a4 : GoodIn wsX4_mend wsJ6_bitCount_0f7a4 := goodIn_r _ [65, 66, 67, 68] (by decide +kernel) (by decide +kernel)
set_option maxRecDepth 20000 in
theorem gX4_mend_J6_bitCount_0f7a4 : GoodIn wsX4_mend (va_wsS RX4 185 yJ6_bitCount_0f7a4 wsJ6_bitCount_0f7a4) := goodIn_app (goodIn_of _ (by decide +kernel)) ggX4_mend_J6_bitCount_0f7a4
set_option maxRecDepth 20000 in
theorem ggX4_mend_X3_leavesOne : GoodIn wsX4_mend wsX3_leavesOne := goodIn_r _ [72, 73, 74, 75, 11, 76, 13, 41, 15, 16, 17, 18, 19, 20, 77, 78, 79, 80, 14, 54, 81, 82, 83, 84, 85, 36, 86, 87, 88, 89, 90, 91, 92, 115, 116, 117, 100, 101, 102, 103, 104, 105, 106, 107, 108, 109, 110, 111, 112, 113, 114] (by decide +kernel) (by decide +kernel)
set_option maxRecDepth 20000 in
theorem gX4_mend_X3_leavesOne : GoodIn wsX4_mend (wsV RX4 189 RX3 yX3_leavesOne wsX3_leavesOne) := goodIn_app (goodIn_of _ (by decide +kernel)) ggX4_mend_X3_leavesOne
theorem dX4_mend_0 : decode cX4_mend 0 = .ok (.iload_n 1, 1) := by decide +kernel
theorem dX4_mend_1 : decode cX4_mend 1 = .ok (.invokestatic 112, 3) := by decide +kernel
theorem dX4_mend_4 : decode cX4_mend 4 = .ok (.ifCond .ne 6, 3) := by decide +kernel
theorem dX4_mend_7 : decode cX4_mend 7 = .ok (.bipush (-2), 2) := by decide +kernel
theorem dX4_mend_9 : decode cX4_mend 9 = .ok (.ireturn, 1) := by decide +kernel
theorem dX4_mend_10 : decode cX4_mend 10 = .ok (.aload_n 0, 1) := by decide +kernel
theorem dX4_mend_11 : decode cX4_mend 11 = .ok (.getfield 21, 3) := by decide +kernel
theorem dX4_mend_14 : decode cX4_mend 14 = .ok (.iconst 0, 1) := by decide +kernel
theorem dX4_mend_15 : decode cX4_mend 15 = .ok (.invokevirtual 118, 3) := by decide +kernel
theorem dX4_mend_18 : decode cX4_mend 18 = .ok (.aload_n 0, 1) := by decide +kernel
theorem dX4_mend_19 : decode cX4_mend 19 = .ok (.getfield 10, 3) := by decide +kernel
theorem dX4_mend_22 : decode cX4_mend 22 = .ok (.bipush 15, 2) := by decide +kernel
theorem dX4_mend_24 : decode cX4_mend 24 = .ok (.invokevirtual 115, 3) := by decide +kernel
theorem dX4_mend_27 : decode cX4_mend 27 = .ok (.istore_n 2, 1) := by decide +kernel
theorem dX4_mend_28 : decode cX4_mend 28 = .ok (.iconst 0, 1) := by decide +kernel
theorem dX4_mend_29 : decode cX4_mend 29 = .ok (.istore_n 3, 1) := by decide +kernel
theorem dX4_mend_30 : decode cX4_mend 30 = .ok (.iload_n 3, 1) := by decide +kernel
theorem dX4_mend_31 : decode cX4_mend 31 = .ok (.aload_n 0, 1) := by decide +kernel
theorem dX4_mend_32 : decode cX4_mend 32 = .ok (.getfield 10, 3) := by decide +kernel
theorem dX4_mend_35 : decode cX4_mend 35 = .ok (.getfield 82, 3) := by decide +kernel
theorem dX4_mend_38 : decode cX4_mend 38 = .ok (.if_icmp .gt 64, 3) := by decide +kernel
theorem dX4_mend_41 : decode cX4_mend 41 = .ok (.iconst 0, 1) := by decide +kernel
theorem dX4_mend_42 : decode cX4_mend 42 = .ok (.istore 4, 2) := by decide +kernel
theorem dX4_mend_44 : decode cX4_mend 44 = .ok (.iload 4, 2) := by decide +kernel
theorem dX4_mend_46 : decode cX4_mend 46 = .ok (.aload_n 0, 1) := by decide +kernel
theorem dX4_mend_47 : decode cX4_mend 47 = .ok (.getfield 10, 3) := by decide +kernel
theorem dX4_mend_50 : decode cX4_mend 50 = .ok (.invokevirtual 156, 3) := by decide +kernel
theorem dX4_mend_53 : decode cX4_mend 53 = .ok (.if_icmp .ge 43, 3) := by decide +kernel
theorem dX4_mend_56 : decode cX4_mend 56 = .ok (.iload 4, 2) := by decide +kernel
theorem dX4_mend_58 : decode cX4_mend 58 = .ok (.iload_n 2, 1) := by decide +kernel
theorem dX4_mend_59 : decode cX4_mend 59 = .ok (.iand, 1) := by decide +kernel
theorem dX4_mend_60 : decode cX4_mend 60 = .ok (.ifCond .ne 30, 3) := by decide +kernel
theorem dX4_mend_63 : decode cX4_mend 63 = .ok (.iload 4, 2) := by decide +kernel
theorem dX4_mend_65 : decode cX4_mend 65 = .ok (.invokestatic 185, 3) := by decide +kernel
theorem dX4_mend_68 : decode cX4_mend 68 = .ok (.iload_n 3, 1) := by decide +kernel
theorem dX4_mend_69 : decode cX4_mend 69 = .ok (.if_icmp .ne 21, 3) := by decide +kernel
theorem dX4_mend_72 : decode cX4_mend 72 = .ok (.aload_n 0, 1) := by decide +kernel
theorem dX4_mend_73 : decode cX4_mend 73 = .ok (.getfield 21, 3) := by decide +kernel
theorem dX4_mend_76 : decode cX4_mend 76 = .ok (.iload_n 1, 1) := by decide +kernel
theorem dX4_mend_77 : decode cX4_mend 77 = .ok (.iload_n 2, 1) := by decide +kernel
theorem dX4_mend_78 : decode cX4_mend 78 = .ok (.iload 4, 2) := by decide +kernel
theorem dX4_mend_80 : decode cX4_mend 80 = .ok (.ior, 1) := by decide +kernel
theorem dX4_mend_81 : decode cX4_mend 81 = .ok (.invokevirtual 189, 3) := by decide +kernel
theorem dX4_mend_84 : decode cX4_mend 84 = .ok (.ifCond .eq 6, 3) := by decide +kernel
theorem dX4_mend_87 : decode cX4_mend 87 = .ok (.iload 4, 2) := by decide +kernel
theorem dX4_mend_89 : decode cX4_mend 89 = .ok (.ireturn, 1) := by decide +kernel
theorem dX4_mend_90 : decode cX4_mend 90 = .ok (.iinc 4 1, 3) := by decide +kernel
theorem dX4_mend_93 : decode cX4_mend 93 = .ok (.goto (-49), 3) := by decide +kernel
theorem dX4_mend_96 : decode cX4_mend 96 = .ok (.iinc 3 1, 3) := by decide +kernel
theorem dX4_mend_99 : decode cX4_mend 99 = .ok (.goto (-69), 3) := by decide +kernel
theorem dX4_mend_102 : decode cX4_mend 102 = .ok (.bipush (-9), 2) := by decide +kernel
theorem dX4_mend_104 : decode cX4_mend 104 = .ok (.ireturn, 1) := by decide +kernel
set_option maxRecDepth 20000 in
theorem ggX4_need_X4_isLine : GoodIn wsX4_need wsX4_isLine := goodIn_r _ [5] (by decide +kernel) (by decide +kernel)
set_option maxRecDepth 20000 in
theorem gX4_need_X4_isLine : GoodIn wsX4_need (va_wsS RX4 79 yX4_isLine wsX4_isLine) := goodIn_app (goodIn_of _ (by decide +kernel)) ggX4_need_X4_isLine
set_option maxRecDepth 20000 in
theorem ggX4_need_X1_change : GoodIn wsX4_need wsX1_change := goodIn_r _ [10, 11, 19, 20] (by decide +kernel) (by decide +kernel)
set_option maxRecDepth 20000 in
theorem gX4_need_X1_change : GoodIn wsX4_need (wsV RX4 192 RX1 yX1_change wsX1_change) := goodIn_app (goodIn_of _ (by decide +kernel)) ggX4_need_X1_change
theorem dX4_need_0 : decode cX4_need 0 = .ok (.iload_n 1, 1) := by decide +kernel
theorem dX4_need_1 : decode cX4_need 1 = .ok (.invokestatic 79, 3) := by decide +kernel
theorem dX4_need_4 : decode cX4_need 4 = .ok (.ifCond .eq 10, 3) := by decide +kernel
theorem dX4_need_7 : decode cX4_need 7 = .ok (.iload_n 2, 1) := by decide +kernel
theorem dX4_need_8 : decode cX4_need 8 = .ok (.invokestatic 79, 3) := by decide +kernel
theorem dX4_need_11 : decode cX4_need 11 = .ok (.ifCond .ne 5, 3) := by decide +kernel
theorem dX4_need_14 : decode cX4_need 14 = .ok (.iconst (-1), 1) := by decide +kernel
theorem dX4_need_15 : decode cX4_need 15 = .ok (.ireturn, 1) := by decide +kernel
theorem dX4_need_16 : decode cX4_need 16 = .ok (.iload_n 3, 1) := by decide +kernel
theorem dX4_need_17 : decode cX4_need 17 = .ok (.bipush (-9), 2) := by decide +kernel
theorem dX4_need_19 : decode cX4_need 19 = .ok (.if_icmp .eq 16, 3) := by decide +kernel
theorem dX4_need_22 : decode cX4_need 22 = .ok (.iload_n 3, 1) := by decide +kernel
theorem dX4_need_23 : decode cX4_need 23 = .ok (.ifCond .lt 9, 3) := by decide +kernel
theorem dX4_need_26 : decode cX4_need 26 = .ok (.iload_n 3, 1) := by decide +kernel
theorem dX4_need_27 : decode cX4_need 27 = .ok (.bipush 20, 2) := by decide +kernel
theorem dX4_need_29 : decode cX4_need 29 = .ok (.if_icmp .le 6, 3) := by decide +kernel
theorem dX4_need_32 : decode cX4_need 32 = .ok (.bipush (-2), 2) := by decide +kernel
theorem dX4_need_34 : decode cX4_need 34 = .ok (.ireturn, 1) := by decide +kernel
theorem dX4_need_35 : decode cX4_need 35 = .ok (.aload_n 0, 1) := by decide +kernel
theorem dX4_need_36 : decode cX4_need 36 = .ok (.getfield 35, 3) := by decide +kernel
theorem dX4_need_39 : decode cX4_need 39 = .ok (.iload_n 1, 1) := by decide +kernel
theorem dX4_need_40 : decode cX4_need 40 = .ok (.iload_n 2, 1) := by decide +kernel
theorem dX4_need_41 : decode cX4_need 41 = .ok (.iload_n 3, 1) := by decide +kernel
theorem dX4_need_42 : decode cX4_need 42 = .ok (.invokevirtual 192, 3) := by decide +kernel
theorem dX4_need_45 : decode cX4_need 45 = .ok (.ireturn, 1) := by decide +kernel
set_option maxRecDepth 20000 in
theorem ggX4_go_X4_isLine : GoodIn wsX4_go wsX4_isLine := goodIn_r _ [6] (by decide +kernel) (by decide +kernel)
set_option maxRecDepth 20000 in
theorem gX4_go_X4_isLine : GoodIn wsX4_go (va_wsS RX4 79 yX4_isLine wsX4_isLine) := goodIn_app (goodIn_of _ (by decide +kernel)) ggX4_go_X4_isLine
set_option maxRecDepth 20000 in
theorem ggX4_go_X1_reckon : GoodIn wsX4_go wsX1_reckon := goodIn_r _ [11, 12, 13, 14, 15, 10, 16, 17, 25, 26] (by decide +kernel) (by decide +kernel)
set_option maxRecDepth 20000 in
theorem gX4_go_X1_reckon : GoodIn wsX4_go (wsV RX4 196 RX1 yX1_reckon wsX1_reckon) := goodIn_app (goodIn_of _ (by decide +kernel)) ggX4_go_X1_reckon
theorem dX4_go_0 : decode cX4_go 0 = .ok (.iload_n 1, 1) := by decide +kernel
theorem dX4_go_1 : decode cX4_go 1 = .ok (.invokestatic 79, 3) := by decide +kernel
theorem dX4_go_4 : decode cX4_go 4 = .ok (.ifCond .ne 5, 3) := by decide +kernel
theorem dX4_go_7 : decode cX4_go 7 = .ok (.iconst (-1), 1) := by decide +kernel
theorem dX4_go_8 : decode cX4_go 8 = .ok (.ireturn, 1) := by decide +kernel
theorem dX4_go_9 : decode cX4_go 9 = .ok (.aload_n 0, 1) := by decide +kernel
theorem dX4_go_10 : decode cX4_go 10 = .ok (.getfield 35, 3) := by decide +kernel
theorem dX4_go_13 : decode cX4_go 13 = .ok (.invokevirtual 196, 3) := by decide +kernel
theorem dX4_go_16 : decode cX4_go 16 = .ok (.aload_n 0, 1) := by decide +kernel
theorem dX4_go_17 : decode cX4_go 17 = .ok (.getfield 35, 3) := by decide +kernel
theorem dX4_go_20 : decode cX4_go 20 = .ok (.getfield 199, 3) := by decide +kernel
theorem dX4_go_23 : decode cX4_go 23 = .ok (.iload_n 1, 1) := by decide +kernel
theorem dX4_go_24 : decode cX4_go 24 = .ok (.iaload, 1) := by decide +kernel
theorem dX4_go_25 : decode cX4_go 25 = .ok (.ireturn, 1) := by decide +kernel
set_option maxRecDepth 20000 in
theorem ggX4_gone_X1_reckon : GoodIn wsX4_gone wsX1_reckon := goodIn_r _ [7, 8, 9, 10, 11, 6, 12, 13, 21, 22] (by decide +kernel) (by decide +kernel)
set_option maxRecDepth 20000 in
theorem gX4_gone_X1_reckon : GoodIn wsX4_gone (wsV RX4 196 RX1 yX1_reckon wsX1_reckon) := goodIn_app (goodIn_of _ (by decide +kernel)) ggX4_gone_X1_reckon
theorem dX4_gone_0 : decode cX4_gone 0 = .ok (.iload_n 1, 1) := by decide +kernel
theorem dX4_gone_1 : decode cX4_gone 1 = .ok (.ifCond .ge 6, 3) := by decide +kernel
theorem dX4_gone_4 : decode cX4_gone 4 = .ok (.bipush (-2), 2) := by decide +kernel
theorem dX4_gone_6 : decode cX4_gone 6 = .ok (.ireturn, 1) := by decide +kernel
theorem dX4_gone_7 : decode cX4_gone 7 = .ok (.aload_n 0, 1) := by decide +kernel
theorem dX4_gone_8 : decode cX4_gone 8 = .ok (.getfield 35, 3) := by decide +kernel
theorem dX4_gone_11 : decode cX4_gone 11 = .ok (.invokevirtual 196, 3) := by decide +kernel
theorem dX4_gone_14 : decode cX4_gone 14 = .ok (.iconst 0, 1) := by decide +kernel
theorem dX4_gone_15 : decode cX4_gone 15 = .ok (.istore_n 2, 1) := by decide +kernel
theorem dX4_gone_16 : decode cX4_gone 16 = .ok (.iconst 0, 1) := by decide +kernel
theorem dX4_gone_17 : decode cX4_gone 17 = .ok (.istore_n 3, 1) := by decide +kernel
theorem dX4_gone_18 : decode cX4_gone 18 = .ok (.iload_n 3, 1) := by decide +kernel
theorem dX4_gone_19 : decode cX4_gone 19 = .ok (.iconst 4, 1) := by decide +kernel
theorem dX4_gone_20 : decode cX4_gone 20 = .ok (.if_icmp .ge 39, 3) := by decide +kernel
theorem dX4_gone_23 : decode cX4_gone 23 = .ok (.aload_n 0, 1) := by decide +kernel
theorem dX4_gone_24 : decode cX4_gone 24 = .ok (.getfield 35, 3) := by decide +kernel
theorem dX4_gone_27 : decode cX4_gone 27 = .ok (.getfield 199, 3) := by decide +kernel
theorem dX4_gone_30 : decode cX4_gone 30 = .ok (.iload_n 3, 1) := by decide +kernel
theorem dX4_gone_31 : decode cX4_gone 31 = .ok (.iaload, 1) := by decide +kernel
theorem dX4_gone_32 : decode cX4_gone 32 = .ok (.bipush (-9), 2) := by decide +kernel
theorem dX4_gone_34 : decode cX4_gone 34 = .ok (.if_icmp .eq 19, 3) := by decide +kernel
theorem dX4_gone_37 : decode cX4_gone 37 = .ok (.aload_n 0, 1) := by decide +kernel
theorem dX4_gone_38 : decode cX4_gone 38 = .ok (.getfield 35, 3) := by decide +kernel
theorem dX4_gone_41 : decode cX4_gone 41 = .ok (.getfield 199, 3) := by decide +kernel
theorem dX4_gone_44 : decode cX4_gone 44 = .ok (.iload_n 3, 1) := by decide +kernel
theorem dX4_gone_45 : decode cX4_gone 45 = .ok (.iaload, 1) := by decide +kernel
theorem dX4_gone_46 : decode cX4_gone 46 = .ok (.iload_n 1, 1) := by decide +kernel
theorem dX4_gone_47 : decode cX4_gone 47 = .ok (.if_icmp .gt 6, 3) := by decide +kernel
theorem dX4_gone_50 : decode cX4_gone 50 = .ok (.iinc 2 1, 3) := by decide +kernel
theorem dX4_gone_53 : decode cX4_gone 53 = .ok (.iinc 3 1, 3) := by decide +kernel
theorem dX4_gone_56 : decode cX4_gone 56 = .ok (.goto (-38), 3) := by decide +kernel
theorem dX4_gone_59 : decode cX4_gone 59 = .ok (.iload_n 2, 1) := by decide +kernel
theorem dX4_gone_60 : decode cX4_gone 60 = .ok (.ireturn, 1) := by decide +kernel
set_option maxRecDepth 20000 in
theorem ggX4_count_J6_bitCount_0f7a4 : GoodIn wsX4_count wsJ6_bitCount_0f7a4 := goodIn_r _ [11, 12, 13, 14] (by decide +kernel) (by decide +kernel)
set_option maxRecDepth 20000 in
theorem gX4_count_J6_bitCount_0f7a4 : GoodIn wsX4_count (va_wsS RX4 185 yJ6_bitCount_0f7a4 wsJ6_bitCount_0f7a4) := goodIn_app (goodIn_of _ (by decide +kernel)) ggX4_count_J6_bitCount_0f7a4
set_option maxRecDepth 20000 in
theorem ggX4_count_X1_standing : GoodIn wsX4_count wsX1_standing := goodIn_r _ [19, 20, 43, 44] (by decide +kernel) (by decide +kernel)
set_option maxRecDepth 20000 in
theorem gX4_count_X1_standing : GoodIn wsX4_count (wsV RX4 205 RX1 yX1_standing wsX1_standing) := goodIn_app (goodIn_of _ (by decide +kernel)) ggX4_count_X1_standing
theorem dX4_count_0 : decode cX4_count 0 = .ok (.iload_n 1, 1) := by decide +kernel
theorem dX4_count_1 : decode cX4_count 1 = .ok (.tableswitch 84 0 5 #[39, 47, 55, 63, 68, 76], 39) := by decide +kernel
theorem dX4_count_40 : decode cX4_count 40 = .ok (.aload_n 0, 1) := by decide +kernel
theorem dX4_count_41 : decode cX4_count 41 = .ok (.getfield 10, 3) := by decide +kernel
theorem dX4_count_44 : decode cX4_count 44 = .ok (.getfield 202, 3) := by decide +kernel
theorem dX4_count_47 : decode cX4_count 47 = .ok (.ireturn, 1) := by decide +kernel
theorem dX4_count_48 : decode cX4_count 48 = .ok (.aload_n 0, 1) := by decide +kernel
theorem dX4_count_49 : decode cX4_count 49 = .ok (.getfield 10, 3) := by decide +kernel
theorem dX4_count_52 : decode cX4_count 52 = .ok (.getfield 82, 3) := by decide +kernel
theorem dX4_count_55 : decode cX4_count 55 = .ok (.ireturn, 1) := by decide +kernel
theorem dX4_count_56 : decode cX4_count 56 = .ok (.aload_n 0, 1) := by decide +kernel
theorem dX4_count_57 : decode cX4_count 57 = .ok (.getfield 10, 3) := by decide +kernel
theorem dX4_count_60 : decode cX4_count 60 = .ok (.getfield 50, 3) := by decide +kernel
theorem dX4_count_63 : decode cX4_count 63 = .ok (.ireturn, 1) := by decide +kernel
theorem dX4_count_64 : decode cX4_count 64 = .ok (.aload_n 0, 1) := by decide +kernel
theorem dX4_count_65 : decode cX4_count 65 = .ok (.getfield 43, 3) := by decide +kernel
theorem dX4_count_68 : decode cX4_count 68 = .ok (.ireturn, 1) := by decide +kernel
theorem dX4_count_69 : decode cX4_count 69 = .ok (.aload_n 0, 1) := by decide +kernel
theorem dX4_count_70 : decode cX4_count 70 = .ok (.getfield 47, 3) := by decide +kernel
theorem dX4_count_73 : decode cX4_count 73 = .ok (.invokestatic 185, 3) := by decide +kernel
theorem dX4_count_76 : decode cX4_count 76 = .ok (.ireturn, 1) := by decide +kernel
theorem dX4_count_77 : decode cX4_count 77 = .ok (.aload_n 0, 1) := by decide +kernel
theorem dX4_count_78 : decode cX4_count 78 = .ok (.getfield 35, 3) := by decide +kernel
theorem dX4_count_81 : decode cX4_count 81 = .ok (.invokevirtual 205, 3) := by decide +kernel
theorem dX4_count_84 : decode cX4_count 84 = .ok (.ireturn, 1) := by decide +kernel
theorem dX4_count_85 : decode cX4_count 85 = .ok (.bipush (-2), 2) := by decide +kernel
theorem dX4_count_87 : decode cX4_count 87 = .ok (.ireturn, 1) := by decide +kernel
set_option maxRecDepth 20000 in
theorem ggX4_beginAgain_X3_allRows : GoodIn wsX4_beginAgain wsX3_allRows := goodIn_r _ [9, 10, 11, 12, 13, 14, 15, 16, 17, 31, 32, 33, 34, 35, 36, 37, 38, 39, 40, 41, 42, 43, 44, 45, 46, 47, 48] (by decide +kernel) (by decide +kernel)
set_option maxRecDepth 20000 in
theorem gX4_beginAgain_X3_allRows : GoodIn wsX4_beginAgain (wsV RX4 181 RX3 yX3_allRows wsX3_allRows) := goodIn_app (goodIn_of _ (by decide +kernel)) ggX4_beginAgain_X3_allRows
set_option maxRecDepth 20000 in
theorem ggX4_beginAgain_X2_forget : GoodIn wsX4_beginAgain wsX2_forget := goodIn_r _ [22, 23, 49, 50, 51] (by decide +kernel) (by decide +kernel)
set_option maxRecDepth 20000 in
theorem gX4_beginAgain_X2_forget : GoodIn wsX4_beginAgain (wsV RX4 208 RX2 yX2_forget wsX2_forget) := goodIn_app (goodIn_of _ (by decide +kernel)) ggX4_beginAgain_X2_forget
theorem dX4_beginAgain_0 : decode cX4_beginAgain 0 = .ok (.aload_n 0, 1) := by decide +kernel
theorem dX4_beginAgain_1 : decode cX4_beginAgain 1 = .ok (.aload_n 0, 1) := by decide +kernel
theorem dX4_beginAgain_2 : decode cX4_beginAgain 2 = .ok (.getfield 21, 3) := by decide +kernel
theorem dX4_beginAgain_5 : decode cX4_beginAgain 5 = .ok (.invokevirtual 181, 3) := by decide +kernel
theorem dX4_beginAgain_8 : decode cX4_beginAgain 8 = .ok (.putfield 39, 3) := by decide +kernel
theorem dX4_beginAgain_11 : decode cX4_beginAgain 11 = .ok (.aload_n 0, 1) := by decide +kernel
theorem dX4_beginAgain_12 : decode cX4_beginAgain 12 = .ok (.iconst 0, 1) := by decide +kernel
theorem dX4_beginAgain_13 : decode cX4_beginAgain 13 = .ok (.putfield 43, 3) := by decide +kernel
theorem dX4_beginAgain_16 : decode cX4_beginAgain 16 = .ok (.aload_n 0, 1) := by decide +kernel
theorem dX4_beginAgain_17 : decode cX4_beginAgain 17 = .ok (.getfield 28, 3) := by decide +kernel
theorem dX4_beginAgain_20 : decode cX4_beginAgain 20 = .ok (.invokevirtual 208, 3) := by decide +kernel
theorem dX4_beginAgain_23 : decode cX4_beginAgain 23 = .ok (.return_, 1) := by decide +kernel
theorem dX4_isBit_0 : decode cX4_isBit 0 = .ok (.iload_n 0, 1) := by decide +kernel
theorem dX4_isBit_1 : decode cX4_isBit 1 = .ok (.ifCond .eq 8, 3) := by decide +kernel
theorem dX4_isBit_4 : decode cX4_isBit 4 = .ok (.iload_n 0, 1) := by decide +kernel
theorem dX4_isBit_5 : decode cX4_isBit 5 = .ok (.iconst 1, 1) := by decide +kernel
theorem dX4_isBit_6 : decode cX4_isBit 6 = .ok (.if_icmp .ne 7, 3) := by decide +kernel
theorem dX4_isBit_9 : decode cX4_isBit 9 = .ok (.iconst 1, 1) := by decide +kernel
theorem dX4_isBit_10 : decode cX4_isBit 10 = .ok (.goto 4, 3) := by decide +kernel
theorem dX4_isBit_13 : decode cX4_isBit 13 = .ok (.iconst 0, 1) := by decide +kernel
theorem dX4_isBit_14 : decode cX4_isBit 14 = .ok (.ireturn, 1) := by decide +kernel
theorem dX4_isLine_0 : decode cX4_isLine 0 = .ok (.iload_n 0, 1) := by decide +kernel
theorem dX4_isLine_1 : decode cX4_isLine 1 = .ok (.ifCond .lt 12, 3) := by decide +kernel
theorem dX4_isLine_4 : decode cX4_isLine 4 = .ok (.iload_n 0, 1) := by decide +kernel
theorem dX4_isLine_5 : decode cX4_isLine 5 = .ok (.iconst 4, 1) := by decide +kernel
theorem dX4_isLine_6 : decode cX4_isLine 6 = .ok (.if_icmp .ge 7, 3) := by decide +kernel
theorem dX4_isLine_9 : decode cX4_isLine 9 = .ok (.iconst 1, 1) := by decide +kernel
theorem dX4_isLine_10 : decode cX4_isLine 10 = .ok (.goto 4, 3) := by decide +kernel
theorem dX4_isLine_13 : decode cX4_isLine 13 = .ok (.iconst 0, 1) := by decide +kernel
theorem dX4_isLine_14 : decode cX4_isLine 14 = .ok (.ireturn, 1) := by decide +kernel
theorem dX4_isTickCount_0 : decode cX4_isTickCount 0 = .ok (.iload_n 0, 1) := by decide +kernel
theorem dX4_isTickCount_1 : decode cX4_isTickCount 1 = .ok (.iconst 1, 1) := by decide +kernel
theorem dX4_isTickCount_2 : decode cX4_isTickCount 2 = .ok (.if_icmp .lt 13, 3) := by decide +kernel
theorem dX4_isTickCount_5 : decode cX4_isTickCount 5 = .ok (.iload_n 0, 1) := by decide +kernel
theorem dX4_isTickCount_6 : decode cX4_isTickCount 6 = .ok (.bipush 64, 2) := by decide +kernel
theorem dX4_isTickCount_8 : decode cX4_isTickCount 8 = .ok (.if_icmp .gt 7, 3) := by decide +kernel
theorem dX4_isTickCount_11 : decode cX4_isTickCount 11 = .ok (.iconst 1, 1) := by decide +kernel
theorem dX4_isTickCount_12 : decode cX4_isTickCount 12 = .ok (.goto 4, 3) := by decide +kernel
theorem dX4_isTickCount_15 : decode cX4_isTickCount 15 = .ok (.iconst 0, 1) := by decide +kernel
theorem dX4_isTickCount_16 : decode cX4_isTickCount 16 = .ok (.ireturn, 1) := by decide +kernel
end
section
set_option maxRecDepth 20000 in
theorem ggX5_init_X5_begin : GoodIn wsX5_init wsX5_begin := goodIn_r _ [30, 31, 17, 32, 18, 33, 34, 35, 36, 37, 38, 39, 40, 41, 42, 43, 44, 45, 46, 47, 48, 49, 50, 51, 52, 53, 54, 55, 56] (by decide +kernel) (by decide +kernel)
set_option maxRecDepth 20000 in
theorem gX5_init_X5_begin : GoodIn wsX5_init (wsV RX5 71 RX5 yX5_begin wsX5_begin) := goodIn_app (goodIn_of _ (by decide +kernel)) ggX5_init_X5_begin
theorem dX5_init_0 : decode cX5_init 0 = .ok (.aload_n 0, 1) := by decide +kernel
theorem dX5_init_1 : decode cX5_init 1 = .ok (.invokespecial 1, 3) := by decide +kernel
theorem dX5_init_4 : decode cX5_init 4 = .ok (.aload_n 0, 1) := by decide +kernel
theorem dX5_init_5 : decode cX5_init 5 = .ok (.bipush 32, 2) := by decide +kernel
theorem dX5_init_7 : decode cX5_init 7 = .ok (.newarray .int, 2) := by decide +kernel
theorem dX5_init_9 : decode cX5_init 9 = .ok (.putfield 7, 3) := by decide +kernel
theorem dX5_init_12 : decode cX5_init 12 = .ok (.aload_n 0, 1) := by decide +kernel
theorem dX5_init_13 : decode cX5_init 13 = .ok (.bipush 32, 2) := by decide +kernel
theorem dX5_init_15 : decode cX5_init 15 = .ok (.newarray .int, 2) := by decide +kernel
theorem dX5_init_17 : decode cX5_init 17 = .ok (.putfield 13, 3) := by decide +kernel
theorem dX5_init_20 : decode cX5_init 20 = .ok (.aload_n 0, 1) := by decide +kernel
theorem dX5_init_21 : decode cX5_init 21 = .ok (.bipush 32, 2) := by decide +kernel
theorem dX5_init_23 : decode cX5_init 23 = .ok (.newarray .int, 2) := by decide +kernel
theorem dX5_init_25 : decode cX5_init 25 = .ok (.putfield 16, 3) := by decide +kernel
theorem dX5_init_28 : decode cX5_init 28 = .ok (.aload_n 0, 1) := by decide +kernel
theorem dX5_init_29 : decode cX5_init 29 = .ok (.bipush 32, 2) := by decide +kernel
theorem dX5_init_31 : decode cX5_init 31 = .ok (.newarray .int, 2) := by decide +kernel
theorem dX5_init_33 : decode cX5_init 33 = .ok (.putfield 19, 3) := by decide +kernel
theorem dX5_init_36 : decode cX5_init 36 = .ok (.aload_n 0, 1) := by decide +kernel
theorem dX5_init_37 : decode cX5_init 37 = .ok (.bipush 32, 2) := by decide +kernel
theorem dX5_init_39 : decode cX5_init 39 = .ok (.newarray .int, 2) := by decide +kernel
theorem dX5_init_41 : decode cX5_init 41 = .ok (.putfield 22, 3) := by decide +kernel
theorem dX5_init_44 : decode cX5_init 44 = .ok (.aload_n 0, 1) := by decide +kernel
theorem dX5_init_45 : decode cX5_init 45 = .ok (.iconst 4, 1) := by decide +kernel
theorem dX5_init_46 : decode cX5_init 46 = .ok (.newarray .int, 2) := by decide +kernel
theorem dX5_init_48 : decode cX5_init 48 = .ok (.putfield 25, 3) := by decide +kernel
theorem dX5_init_51 : decode cX5_init 51 = .ok (.aload_n 0, 1) := by decide +kernel
theorem dX5_init_52 : decode cX5_init 52 = .ok (.bipush 6, 2) := by decide +kernel
theorem dX5_init_54 : decode cX5_init 54 = .ok (.newarray .int, 2) := by decide +kernel
theorem dX5_init_56 : decode cX5_init 56 = .ok (.putfield 28, 3) := by decide +kernel
theorem dX5_init_59 : decode cX5_init 59 = .ok (.aload_n 0, 1) := by decide +kernel
theorem dX5_init_60 : decode cX5_init 60 = .ok (.bipush 6, 2) := by decide +kernel
theorem dX5_init_62 : decode cX5_init 62 = .ok (.newarray .int, 2) := by decide +kernel
theorem dX5_init_64 : decode cX5_init 64 = .ok (.putfield 31, 3) := by decide +kernel
theorem dX5_init_67 : decode cX5_init 67 = .ok (.aload_n 0, 1) := by decide +kernel
theorem dX5_init_68 : decode cX5_init 68 = .ok (.bipush 6, 2) := by decide +kernel
theorem dX5_init_70 : decode cX5_init 70 = .ok (.newarray .int, 2) := by decide +kernel
theorem dX5_init_72 : decode cX5_init 72 = .ok (.putfield 34, 3) := by decide +kernel
theorem dX5_init_75 : decode cX5_init 75 = .ok (.aload_n 0, 1) := by decide +kernel
theorem dX5_init_76 : decode cX5_init 76 = .ok (.bipush 6, 2) := by decide +kernel
theorem dX5_init_78 : decode cX5_init 78 = .ok (.newarray .int, 2) := by decide +kernel
theorem dX5_init_80 : decode cX5_init 80 = .ok (.putfield 37, 3) := by decide +kernel
theorem dX5_init_83 : decode cX5_init 83 = .ok (.aload_n 0, 1) := by decide +kernel
theorem dX5_init_84 : decode cX5_init 84 = .ok (.iconst 4, 1) := by decide +kernel
theorem dX5_init_85 : decode cX5_init 85 = .ok (.newarray .boolean, 2) := by decide +kernel
theorem dX5_init_87 : decode cX5_init 87 = .ok (.putfield 40, 3) := by decide +kernel
theorem dX5_init_90 : decode cX5_init 90 = .ok (.aload_n 0, 1) := by decide +kernel
theorem dX5_init_91 : decode cX5_init 91 = .ok (.bipush 64, 2) := by decide +kernel
theorem dX5_init_93 : decode cX5_init 93 = .ok (.newarray .boolean, 2) := by decide +kernel
theorem dX5_init_95 : decode cX5_init 95 = .ok (.putfield 44, 3) := by decide +kernel
theorem dX5_init_98 : decode cX5_init 98 = .ok (.aload_n 0, 1) := by decide +kernel
theorem dX5_init_99 : decode cX5_init 99 = .ok (.bipush 6, 2) := by decide +kernel
theorem dX5_init_101 : decode cX5_init 101 = .ok (.newarray .int, 2) := by decide +kernel
theorem dX5_init_103 : decode cX5_init 103 = .ok (.putfield 47, 3) := by decide +kernel
theorem dX5_init_106 : decode cX5_init 106 = .ok (.aload_n 0, 1) := by decide +kernel
theorem dX5_init_107 : decode cX5_init 107 = .ok (.bipush 32, 2) := by decide +kernel
theorem dX5_init_109 : decode cX5_init 109 = .ok (.newarray .int, 2) := by decide +kernel
theorem dX5_init_111 : decode cX5_init 111 = .ok (.putfield 50, 3) := by decide +kernel
theorem dX5_init_114 : decode cX5_init 114 = .ok (.aload_n 0, 1) := by decide +kernel
theorem dX5_init_115 : decode cX5_init 115 = .ok (.sipush 1024, 3) := by decide +kernel
theorem dX5_init_118 : decode cX5_init 118 = .ok (.newarray .int, 2) := by decide +kernel
theorem dX5_init_120 : decode cX5_init 120 = .ok (.putfield 53, 3) := by decide +kernel
theorem dX5_init_123 : decode cX5_init 123 = .ok (.aload_n 0, 1) := by decide +kernel
theorem dX5_init_124 : decode cX5_init 124 = .ok (.bipush 64, 2) := by decide +kernel
theorem dX5_init_126 : decode cX5_init 126 = .ok (.newarray .boolean, 2) := by decide +kernel
theorem dX5_init_128 : decode cX5_init 128 = .ok (.putfield 56, 3) := by decide +kernel
theorem dX5_init_131 : decode cX5_init 131 = .ok (.aload_n 0, 1) := by decide +kernel
theorem dX5_init_132 : decode cX5_init 132 = .ok (.bipush 64, 2) := by decide +kernel
theorem dX5_init_134 : decode cX5_init 134 = .ok (.newarray .boolean, 2) := by decide +kernel
theorem dX5_init_136 : decode cX5_init 136 = .ok (.putfield 59, 3) := by decide +kernel
theorem dX5_init_139 : decode cX5_init 139 = .ok (.aload_n 0, 1) := by decide +kernel
theorem dX5_init_140 : decode cX5_init 140 = .ok (.bipush 32, 2) := by decide +kernel
theorem dX5_init_142 : decode cX5_init 142 = .ok (.newarray .int, 2) := by decide +kernel
theorem dX5_init_144 : decode cX5_init 144 = .ok (.putfield 62, 3) := by decide +kernel
theorem dX5_init_147 : decode cX5_init 147 = .ok (.aload_n 0, 1) := by decide +kernel
theorem dX5_init_148 : decode cX5_init 148 = .ok (.bipush 16, 2) := by decide +kernel
theorem dX5_init_150 : decode cX5_init 150 = .ok (.newarray .int, 2) := by decide +kernel
theorem dX5_init_152 : decode cX5_init 152 = .ok (.putfield 65, 3) := by decide +kernel
theorem dX5_init_155 : decode cX5_init 155 = .ok (.aload_n 0, 1) := by decide +kernel
theorem dX5_init_156 : decode cX5_init 156 = .ok (.iconst 4, 1) := by decide +kernel
theorem dX5_init_157 : decode cX5_init 157 = .ok (.newarray .int, 2) := by decide +kernel
theorem dX5_init_159 : decode cX5_init 159 = .ok (.putfield 68, 3) := by decide +kernel
theorem dX5_init_162 : decode cX5_init 162 = .ok (.iconst 0, 1) := by decide +kernel
theorem dX5_init_163 : decode cX5_init 163 = .ok (.istore_n 1, 1) := by decide +kernel
theorem dX5_init_164 : decode cX5_init 164 = .ok (.iload_n 1, 1) := by decide +kernel
theorem dX5_init_165 : decode cX5_init 165 = .ok (.bipush 16, 2) := by decide +kernel
theorem dX5_init_167 : decode cX5_init 167 = .ok (.if_icmp .ge 17, 3) := by decide +kernel
theorem dX5_init_170 : decode cX5_init 170 = .ok (.aload_n 0, 1) := by decide +kernel
theorem dX5_init_171 : decode cX5_init 171 = .ok (.getfield 65, 3) := by decide +kernel
theorem dX5_init_174 : decode cX5_init 174 = .ok (.iload_n 1, 1) := by decide +kernel
theorem dX5_init_175 : decode cX5_init 175 = .ok (.bipush (-9), 2) := by decide +kernel
theorem dX5_init_177 : decode cX5_init 177 = .ok (.iastore, 1) := by decide +kernel
theorem dX5_init_178 : decode cX5_init 178 = .ok (.iinc 1 1, 3) := by decide +kernel
theorem dX5_init_181 : decode cX5_init 181 = .ok (.goto (-17), 3) := by decide +kernel
theorem dX5_init_184 : decode cX5_init 184 = .ok (.aload_n 0, 1) := by decide +kernel
theorem dX5_init_185 : decode cX5_init 185 = .ok (.invokevirtual 71, 3) := by decide +kernel
theorem dX5_init_188 : decode cX5_init 188 = .ok (.return_, 1) := by decide +kernel
theorem dX5_in_0 : decode cX5_in 0 = .ok (.iload_n 0, 1) := by decide +kernel
theorem dX5_in_1 : decode cX5_in 1 = .ok (.iload_n 1, 1) := by decide +kernel
theorem dX5_in_2 : decode cX5_in 2 = .ok (.if_icmp .lt 12, 3) := by decide +kernel
theorem dX5_in_5 : decode cX5_in 5 = .ok (.iload_n 0, 1) := by decide +kernel
theorem dX5_in_6 : decode cX5_in 6 = .ok (.iload_n 2, 1) := by decide +kernel
theorem dX5_in_7 : decode cX5_in 7 = .ok (.if_icmp .gt 7, 3) := by decide +kernel
theorem dX5_in_10 : decode cX5_in 10 = .ok (.iconst 1, 1) := by decide +kernel
theorem dX5_in_11 : decode cX5_in 11 = .ok (.goto 4, 3) := by decide +kernel
theorem dX5_in_14 : decode cX5_in 14 = .ok (.iconst 0, 1) := by decide +kernel
theorem dX5_in_15 : decode cX5_in 15 = .ok (.ireturn, 1) := by decide +kernel
set_option maxRecDepth 20000 in
theorem ggX5_isNode_X5_in : GoodIn wsX5_isNode wsX5_in := goodIn_r _ [5] (by decide +kernel) (by decide +kernel)
set_option maxRecDepth 20000 in
theorem gX5_isNode_X5_in : GoodIn wsX5_isNode (va_wsS RX5 78 yX5_in wsX5_in) := goodIn_app (goodIn_of _ (by decide +kernel)) ggX5_isNode_X5_in
theorem dX5_isNode_0 : decode cX5_isNode 0 = .ok (.iload_n 1, 1) := by decide +kernel
theorem dX5_isNode_1 : decode cX5_isNode 1 = .ok (.iconst 0, 1) := by decide +kernel
theorem dX5_isNode_2 : decode cX5_isNode 2 = .ok (.aload_n 0, 1) := by decide +kernel
theorem dX5_isNode_3 : decode cX5_isNode 3 = .ok (.getfield 74, 3) := by decide +kernel
theorem dX5_isNode_6 : decode cX5_isNode 6 = .ok (.iconst 1, 1) := by decide +kernel
theorem dX5_isNode_7 : decode cX5_isNode 7 = .ok (.isub, 1) := by decide +kernel
theorem dX5_isNode_8 : decode cX5_isNode 8 = .ok (.invokestatic 78, 3) := by decide +kernel
theorem dX5_isNode_11 : decode cX5_isNode 11 = .ok (.ireturn, 1) := by decide +kernel
theorem dX5_begin_0 : decode cX5_begin 0 = .ok (.aload_n 0, 1) := by decide +kernel
theorem dX5_begin_1 : decode cX5_begin 1 = .ok (.iconst 0, 1) := by decide +kernel
theorem dX5_begin_2 : decode cX5_begin 2 = .ok (.putfield 82, 3) := by decide +kernel
theorem dX5_begin_5 : decode cX5_begin 5 = .ok (.iconst 0, 1) := by decide +kernel
theorem dX5_begin_6 : decode cX5_begin 6 = .ok (.istore_n 1, 1) := by decide +kernel
theorem dX5_begin_7 : decode cX5_begin 7 = .ok (.iload_n 1, 1) := by decide +kernel
theorem dX5_begin_8 : decode cX5_begin 8 = .ok (.bipush 64, 2) := by decide +kernel
theorem dX5_begin_10 : decode cX5_begin 10 = .ok (.if_icmp .ge 30, 3) := by decide +kernel
theorem dX5_begin_13 : decode cX5_begin 13 = .ok (.aload_n 0, 1) := by decide +kernel
theorem dX5_begin_14 : decode cX5_begin 14 = .ok (.getfield 44, 3) := by decide +kernel
theorem dX5_begin_17 : decode cX5_begin 17 = .ok (.iload_n 1, 1) := by decide +kernel
theorem dX5_begin_18 : decode cX5_begin 18 = .ok (.iload_n 1, 1) := by decide +kernel
theorem dX5_begin_19 : decode cX5_begin 19 = .ok (.iconst 1, 1) := by decide +kernel
theorem dX5_begin_20 : decode cX5_begin 20 = .ok (.aload_n 0, 1) := by decide +kernel
theorem dX5_begin_21 : decode cX5_begin 21 = .ok (.getfield 85, 3) := by decide +kernel
theorem dX5_begin_24 : decode cX5_begin 24 = .ok (.ishl, 1) := by decide +kernel
theorem dX5_begin_25 : decode cX5_begin 25 = .ok (.if_icmp .ge 7, 3) := by decide +kernel
theorem dX5_begin_28 : decode cX5_begin 28 = .ok (.iconst 1, 1) := by decide +kernel
theorem dX5_begin_29 : decode cX5_begin 29 = .ok (.goto 4, 3) := by decide +kernel
theorem dX5_begin_32 : decode cX5_begin 32 = .ok (.iconst 0, 1) := by decide +kernel
theorem dX5_begin_33 : decode cX5_begin 33 = .ok (.bastore, 1) := by decide +kernel
theorem dX5_begin_34 : decode cX5_begin 34 = .ok (.iinc 1 1, 3) := by decide +kernel
theorem dX5_begin_37 : decode cX5_begin 37 = .ok (.goto (-30), 3) := by decide +kernel
theorem dX5_begin_40 : decode cX5_begin 40 = .ok (.iconst 0, 1) := by decide +kernel
theorem dX5_begin_41 : decode cX5_begin 41 = .ok (.istore_n 1, 1) := by decide +kernel
theorem dX5_begin_42 : decode cX5_begin 42 = .ok (.iload_n 1, 1) := by decide +kernel
theorem dX5_begin_43 : decode cX5_begin 43 = .ok (.bipush 6, 2) := by decide +kernel
theorem dX5_begin_45 : decode cX5_begin 45 = .ok (.if_icmp .ge 16, 3) := by decide +kernel
theorem dX5_begin_48 : decode cX5_begin 48 = .ok (.aload_n 0, 1) := by decide +kernel
theorem dX5_begin_49 : decode cX5_begin 49 = .ok (.getfield 47, 3) := by decide +kernel
theorem dX5_begin_52 : decode cX5_begin 52 = .ok (.iload_n 1, 1) := by decide +kernel
theorem dX5_begin_53 : decode cX5_begin 53 = .ok (.iconst 2, 1) := by decide +kernel
theorem dX5_begin_54 : decode cX5_begin 54 = .ok (.iastore, 1) := by decide +kernel
theorem dX5_begin_55 : decode cX5_begin 55 = .ok (.iinc 1 1, 3) := by decide +kernel
theorem dX5_begin_58 : decode cX5_begin 58 = .ok (.goto (-16), 3) := by decide +kernel
theorem dX5_begin_61 : decode cX5_begin 61 = .ok (.return_, 1) := by decide +kernel
set_option maxRecDepth 20000 in
theorem ggX5_add_X5_begin : GoodIn wsX5_add wsX5_begin := goodIn_r _ [11, 12, 13, 14, 15, 16, 17, 18, 19, 20, 21, 22, 23, 24, 25, 26, 27, 28, 29, 30, 31, 32, 33, 34, 35, 36, 37, 38, 39] (by decide +kernel) (by decide +kernel)
set_option maxRecDepth 20000 in
theorem gX5_add_X5_begin : GoodIn wsX5_add (wsV RX5 71 RX5 yX5_begin wsX5_begin) := goodIn_app (goodIn_of _ (by decide +kernel)) ggX5_add_X5_begin
theorem dX5_add_0 : decode cX5_add 0 = .ok (.aload_n 0, 1) := by decide +kernel
theorem dX5_add_1 : decode cX5_add 1 = .ok (.getfield 7, 3) := by decide +kernel
theorem dX5_add_4 : decode cX5_add 4 = .ok (.aload_n 0, 1) := by decide +kernel
theorem dX5_add_5 : decode cX5_add 5 = .ok (.getfield 74, 3) := by decide +kernel
theorem dX5_add_8 : decode cX5_add 8 = .ok (.iload_n 1, 1) := by decide +kernel
theorem dX5_add_9 : decode cX5_add 9 = .ok (.iastore, 1) := by decide +kernel
theorem dX5_add_10 : decode cX5_add 10 = .ok (.aload_n 0, 1) := by decide +kernel
theorem dX5_add_11 : decode cX5_add 11 = .ok (.getfield 13, 3) := by decide +kernel
theorem dX5_add_14 : decode cX5_add 14 = .ok (.aload_n 0, 1) := by decide +kernel
theorem dX5_add_15 : decode cX5_add 15 = .ok (.getfield 74, 3) := by decide +kernel
theorem dX5_add_18 : decode cX5_add 18 = .ok (.iload_n 2, 1) := by decide +kernel
theorem dX5_add_19 : decode cX5_add 19 = .ok (.iastore, 1) := by decide +kernel
theorem dX5_add_20 : decode cX5_add 20 = .ok (.aload_n 0, 1) := by decide +kernel
theorem dX5_add_21 : decode cX5_add 21 = .ok (.getfield 16, 3) := by decide +kernel
theorem dX5_add_24 : decode cX5_add 24 = .ok (.aload_n 0, 1) := by decide +kernel
theorem dX5_add_25 : decode cX5_add 25 = .ok (.getfield 74, 3) := by decide +kernel
theorem dX5_add_28 : decode cX5_add 28 = .ok (.iload_n 3, 1) := by decide +kernel
theorem dX5_add_29 : decode cX5_add 29 = .ok (.iastore, 1) := by decide +kernel
theorem dX5_add_30 : decode cX5_add 30 = .ok (.aload_n 0, 1) := by decide +kernel
theorem dX5_add_31 : decode cX5_add 31 = .ok (.getfield 19, 3) := by decide +kernel
theorem dX5_add_34 : decode cX5_add 34 = .ok (.aload_n 0, 1) := by decide +kernel
theorem dX5_add_35 : decode cX5_add 35 = .ok (.getfield 74, 3) := by decide +kernel
theorem dX5_add_38 : decode cX5_add 38 = .ok (.iload 4, 2) := by decide +kernel
theorem dX5_add_40 : decode cX5_add 40 = .ok (.iastore, 1) := by decide +kernel
theorem dX5_add_41 : decode cX5_add 41 = .ok (.aload_n 0, 1) := by decide +kernel
theorem dX5_add_42 : decode cX5_add 42 = .ok (.getfield 22, 3) := by decide +kernel
theorem dX5_add_45 : decode cX5_add 45 = .ok (.aload_n 0, 1) := by decide +kernel
theorem dX5_add_46 : decode cX5_add 46 = .ok (.getfield 74, 3) := by decide +kernel
theorem dX5_add_49 : decode cX5_add 49 = .ok (.iload 5, 2) := by decide +kernel
theorem dX5_add_51 : decode cX5_add 51 = .ok (.iastore, 1) := by decide +kernel
theorem dX5_add_52 : decode cX5_add 52 = .ok (.aload_n 0, 1) := by decide +kernel
theorem dX5_add_53 : decode cX5_add 53 = .ok (.dup, 1) := by decide +kernel
theorem dX5_add_54 : decode cX5_add 54 = .ok (.getfield 74, 3) := by decide +kernel
theorem dX5_add_57 : decode cX5_add 57 = .ok (.iconst 1, 1) := by decide +kernel
theorem dX5_add_58 : decode cX5_add 58 = .ok (.iadd, 1) := by decide +kernel
theorem dX5_add_59 : decode cX5_add 59 = .ok (.putfield 74, 3) := by decide +kernel
theorem dX5_add_62 : decode cX5_add 62 = .ok (.aload_n 0, 1) := by decide +kernel
theorem dX5_add_63 : decode cX5_add 63 = .ok (.invokevirtual 71, 3) := by decide +kernel
theorem dX5_add_66 : decode cX5_add 66 = .ok (.aload_n 0, 1) := by decide +kernel
theorem dX5_add_67 : decode cX5_add 67 = .ok (.getfield 74, 3) := by decide +kernel
theorem dX5_add_70 : decode cX5_add 70 = .ok (.iconst 1, 1) := by decide +kernel
theorem dX5_add_71 : decode cX5_add 71 = .ok (.isub, 1) := by decide +kernel
theorem dX5_add_72 : decode cX5_add 72 = .ok (.ireturn, 1) := by decide +kernel
set_option maxRecDepth 20000 in
theorem ggX5_input_X5_add : GoodIn wsX5_input wsX5_add := goodIn_r _ [8, 9, 2, 10, 11, 12, 13, 14, 15, 16, 7, 17, 18, 19, 20, 21, 22, 23, 24, 25, 26, 27, 28, 29, 30, 31, 32, 33, 34, 35, 36, 37, 38, 39, 40, 41, 42, 43, 44, 45] (by decide +kernel) (by decide +kernel)
set_option maxRecDepth 20000 in
theorem gX5_input_X5_add : GoodIn wsX5_input (wsV RX5 91 RX5 yX5_add wsX5_add) := goodIn_app (goodIn_of _ (by decide +kernel)) ggX5_input_X5_add
theorem dX5_input_0 : decode cX5_input 0 = .ok (.aload_n 0, 1) := by decide +kernel
theorem dX5_input_1 : decode cX5_input 1 = .ok (.getfield 88, 3) := by decide +kernel
theorem dX5_input_4 : decode cX5_input 4 = .ok (.iconst 4, 1) := by decide +kernel
theorem dX5_input_5 : decode cX5_input 5 = .ok (.if_icmp .eq 12, 3) := by decide +kernel
theorem dX5_input_8 : decode cX5_input 8 = .ok (.aload_n 0, 1) := by decide +kernel
theorem dX5_input_9 : decode cX5_input 9 = .ok (.getfield 74, 3) := by decide +kernel
theorem dX5_input_12 : decode cX5_input 12 = .ok (.bipush 32, 2) := by decide +kernel
theorem dX5_input_14 : decode cX5_input 14 = .ok (.if_icmp .ne 6, 3) := by decide +kernel
theorem dX5_input_17 : decode cX5_input 17 = .ok (.bipush (-4), 2) := by decide +kernel
theorem dX5_input_19 : decode cX5_input 19 = .ok (.ireturn, 1) := by decide +kernel
theorem dX5_input_20 : decode cX5_input 20 = .ok (.aload_n 0, 1) := by decide +kernel
theorem dX5_input_21 : decode cX5_input 21 = .ok (.getfield 25, 3) := by decide +kernel
theorem dX5_input_24 : decode cX5_input 24 = .ok (.aload_n 0, 1) := by decide +kernel
theorem dX5_input_25 : decode cX5_input 25 = .ok (.getfield 88, 3) := by decide +kernel
theorem dX5_input_28 : decode cX5_input 28 = .ok (.iconst 2, 1) := by decide +kernel
theorem dX5_input_29 : decode cX5_input 29 = .ok (.iastore, 1) := by decide +kernel
theorem dX5_input_30 : decode cX5_input 30 = .ok (.aload_n 0, 1) := by decide +kernel
theorem dX5_input_31 : decode cX5_input 31 = .ok (.dup, 1) := by decide +kernel
theorem dX5_input_32 : decode cX5_input 32 = .ok (.getfield 88, 3) := by decide +kernel
theorem dX5_input_35 : decode cX5_input 35 = .ok (.iconst 1, 1) := by decide +kernel
theorem dX5_input_36 : decode cX5_input 36 = .ok (.iadd, 1) := by decide +kernel
theorem dX5_input_37 : decode cX5_input 37 = .ok (.putfield 88, 3) := by decide +kernel
theorem dX5_input_40 : decode cX5_input 40 = .ok (.aload_n 0, 1) := by decide +kernel
theorem dX5_input_41 : decode cX5_input 41 = .ok (.iconst 0, 1) := by decide +kernel
theorem dX5_input_42 : decode cX5_input 42 = .ok (.aload_n 0, 1) := by decide +kernel
theorem dX5_input_43 : decode cX5_input 43 = .ok (.getfield 88, 3) := by decide +kernel
theorem dX5_input_46 : decode cX5_input 46 = .ok (.iconst 1, 1) := by decide +kernel
theorem dX5_input_47 : decode cX5_input 47 = .ok (.isub, 1) := by decide +kernel
theorem dX5_input_48 : decode cX5_input 48 = .ok (.iconst 0, 1) := by decide +kernel
theorem dX5_input_49 : decode cX5_input 49 = .ok (.iconst 0, 1) := by decide +kernel
theorem dX5_input_50 : decode cX5_input 50 = .ok (.iconst 0, 1) := by decide +kernel
theorem dX5_input_51 : decode cX5_input 51 = .ok (.invokevirtual 91, 3) := by decide +kernel
theorem dX5_input_54 : decode cX5_input 54 = .ok (.ireturn, 1) := by decide +kernel
set_option maxRecDepth 20000 in
theorem ggX5_fixed_X5_in : GoodIn wsX5_fixed wsX5_in := goodIn_r _ [5] (by decide +kernel) (by decide +kernel)
set_option maxRecDepth 20000 in
theorem gX5_fixed_X5_in : GoodIn wsX5_fixed (va_wsS RX5 78 yX5_in wsX5_in) := goodIn_app (goodIn_of _ (by decide +kernel)) ggX5_fixed_X5_in
set_option maxRecDepth 20000 in
theorem ggX5_fixed_X5_add : GoodIn wsX5_fixed wsX5_add := goodIn_r _ [9, 10, 1, 11, 12, 13, 14, 15, 16, 17, 4, 18, 19, 20, 21, 22, 23, 24, 25, 26, 27, 28, 29, 30, 31, 32, 33, 34, 35, 36, 37, 38, 39, 40, 41, 42, 43, 44, 45, 46] (by decide +kernel) (by decide +kernel)
set_option maxRecDepth 20000 in
theorem gX5_fixed_X5_add : GoodIn wsX5_fixed (wsV RX5 91 RX5 yX5_add wsX5_add) := goodIn_app (goodIn_of _ (by decide +kernel)) ggX5_fixed_X5_add
theorem dX5_fixed_0 : decode cX5_fixed 0 = .ok (.iload_n 1, 1) := by decide +kernel
theorem dX5_fixed_1 : decode cX5_fixed 1 = .ok (.iconst 0, 1) := by decide +kernel
theorem dX5_fixed_2 : decode cX5_fixed 2 = .ok (.iconst 1, 1) := by decide +kernel
theorem dX5_fixed_3 : decode cX5_fixed 3 = .ok (.invokestatic 78, 3) := by decide +kernel
theorem dX5_fixed_6 : decode cX5_fixed 6 = .ok (.ifCond .ne 6, 3) := by decide +kernel
theorem dX5_fixed_9 : decode cX5_fixed 9 = .ok (.bipush (-2), 2) := by decide +kernel
theorem dX5_fixed_11 : decode cX5_fixed 11 = .ok (.ireturn, 1) := by decide +kernel
theorem dX5_fixed_12 : decode cX5_fixed 12 = .ok (.aload_n 0, 1) := by decide +kernel
theorem dX5_fixed_13 : decode cX5_fixed 13 = .ok (.getfield 74, 3) := by decide +kernel
theorem dX5_fixed_16 : decode cX5_fixed 16 = .ok (.bipush 32, 2) := by decide +kernel
theorem dX5_fixed_18 : decode cX5_fixed 18 = .ok (.if_icmp .ne 8, 3) := by decide +kernel
theorem dX5_fixed_21 : decode cX5_fixed 21 = .ok (.bipush (-4), 2) := by decide +kernel
theorem dX5_fixed_23 : decode cX5_fixed 23 = .ok (.goto 12, 3) := by decide +kernel
theorem dX5_fixed_26 : decode cX5_fixed 26 = .ok (.aload_n 0, 1) := by decide +kernel
theorem dX5_fixed_27 : decode cX5_fixed 27 = .ok (.iconst 1, 1) := by decide +kernel
theorem dX5_fixed_28 : decode cX5_fixed 28 = .ok (.iload_n 1, 1) := by decide +kernel
theorem dX5_fixed_29 : decode cX5_fixed 29 = .ok (.iconst 0, 1) := by decide +kernel
theorem dX5_fixed_30 : decode cX5_fixed 30 = .ok (.iconst 0, 1) := by decide +kernel
theorem dX5_fixed_31 : decode cX5_fixed 31 = .ok (.iconst 0, 1) := by decide +kernel
theorem dX5_fixed_32 : decode cX5_fixed 32 = .ok (.invokevirtual 91, 3) := by decide +kernel
theorem dX5_fixed_35 : decode cX5_fixed 35 = .ok (.ireturn, 1) := by decide +kernel
set_option maxRecDepth 20000 in
theorem ggX5_gate_X5_in : GoodIn wsX5_gate wsX5_in := goodIn_r _ [5] (by decide +kernel) (by decide +kernel)
set_option maxRecDepth 20000 in
theorem gX5_gate_X5_in : GoodIn wsX5_gate (va_wsS RX5 78 yX5_in wsX5_in) := goodIn_app (goodIn_of _ (by decide +kernel)) ggX5_gate_X5_in
set_option maxRecDepth 20000 in
theorem ggX5_gate_X5_isNode : GoodIn wsX5_gate wsX5_isNode := goodIn_r _ [9, 1, 2, 3, 4, 5, 27, 28, 29, 30, 31, 32, 33, 34, 35, 36, 37, 38, 39, 40, 41, 42, 43, 44, 45, 46, 47, 48, 49, 50] (by decide +kernel) (by decide +kernel)
set_option maxRecDepth 20000 in
theorem gX5_gate_X5_isNode : GoodIn wsX5_gate (wsV RX5 95 RX5 yX5_isNode wsX5_isNode) := goodIn_app (goodIn_of _ (by decide +kernel)) ggX5_gate_X5_isNode
set_option maxRecDepth 20000 in
theorem ggX5_gate_X5_add : GoodIn wsX5_gate wsX5_add := goodIn_r _ [13, 14, 1, 15, 16, 17, 18, 19, 20, 21, 4, 22, 23, 24, 25, 26, 27, 28, 29, 30, 31, 32, 33, 34, 35, 36, 37, 38, 39, 40, 41, 42, 43, 44, 45, 46, 47, 48, 49, 50] (by decide +kernel) (by decide +kernel)
set_option maxRecDepth 20000 in
theorem gX5_gate_X5_add : GoodIn wsX5_gate (wsV RX5 91 RX5 yX5_add wsX5_add) := goodIn_app (goodIn_of _ (by decide +kernel)) ggX5_gate_X5_add
theorem dX5_gate_0 : decode cX5_gate 0 = .ok (.iload_n 1, 1) := by decide +kernel
theorem dX5_gate_1 : decode cX5_gate 1 = .ok (.iconst 0, 1) := by decide +kernel
theorem dX5_gate_2 : decode cX5_gate 2 = .ok (.iconst 4, 1) := by decide +kernel
theorem dX5_gate_3 : decode cX5_gate 3 = .ok (.invokestatic 78, 3) := by decide +kernel
theorem dX5_gate_6 : decode cX5_gate 6 = .ok (.ifCond .ne 6, 3) := by decide +kernel
theorem dX5_gate_9 : decode cX5_gate 9 = .ok (.bipush (-2), 2) := by decide +kernel
theorem dX5_gate_11 : decode cX5_gate 11 = .ok (.ireturn, 1) := by decide +kernel
theorem dX5_gate_12 : decode cX5_gate 12 = .ok (.aload_n 0, 1) := by decide +kernel
theorem dX5_gate_13 : decode cX5_gate 13 = .ok (.iload_n 2, 1) := by decide +kernel
theorem dX5_gate_14 : decode cX5_gate 14 = .ok (.invokevirtual 95, 3) := by decide +kernel
theorem dX5_gate_17 : decode cX5_gate 17 = .ok (.ifCond .eq 29, 3) := by decide +kernel
theorem dX5_gate_20 : decode cX5_gate 20 = .ok (.iload_n 1, 1) := by decide +kernel
theorem dX5_gate_21 : decode cX5_gate 21 = .ok (.ifCond .le 11, 3) := by decide +kernel
theorem dX5_gate_24 : decode cX5_gate 24 = .ok (.aload_n 0, 1) := by decide +kernel
theorem dX5_gate_25 : decode cX5_gate 25 = .ok (.iload_n 3, 1) := by decide +kernel
theorem dX5_gate_26 : decode cX5_gate 26 = .ok (.invokevirtual 95, 3) := by decide +kernel
theorem dX5_gate_29 : decode cX5_gate 29 = .ok (.ifCond .eq 17, 3) := by decide +kernel
theorem dX5_gate_32 : decode cX5_gate 32 = .ok (.iload_n 1, 1) := by decide +kernel
theorem dX5_gate_33 : decode cX5_gate 33 = .ok (.iconst 4, 1) := by decide +kernel
theorem dX5_gate_34 : decode cX5_gate 34 = .ok (.if_icmp .ne 14, 3) := by decide +kernel
theorem dX5_gate_37 : decode cX5_gate 37 = .ok (.aload_n 0, 1) := by decide +kernel
theorem dX5_gate_38 : decode cX5_gate 38 = .ok (.iload 4, 2) := by decide +kernel
theorem dX5_gate_40 : decode cX5_gate 40 = .ok (.invokevirtual 95, 3) := by decide +kernel
theorem dX5_gate_43 : decode cX5_gate 43 = .ok (.ifCond .ne 5, 3) := by decide +kernel
theorem dX5_gate_46 : decode cX5_gate 46 = .ok (.iconst (-1), 1) := by decide +kernel
theorem dX5_gate_47 : decode cX5_gate 47 = .ok (.ireturn, 1) := by decide +kernel
theorem dX5_gate_48 : decode cX5_gate 48 = .ok (.aload_n 0, 1) := by decide +kernel
theorem dX5_gate_49 : decode cX5_gate 49 = .ok (.getfield 74, 3) := by decide +kernel
theorem dX5_gate_52 : decode cX5_gate 52 = .ok (.bipush 32, 2) := by decide +kernel
theorem dX5_gate_54 : decode cX5_gate 54 = .ok (.if_icmp .ne 8, 3) := by decide +kernel
theorem dX5_gate_57 : decode cX5_gate 57 = .ok (.bipush (-4), 2) := by decide +kernel
theorem dX5_gate_59 : decode cX5_gate 59 = .ok (.goto 30, 3) := by decide +kernel
theorem dX5_gate_62 : decode cX5_gate 62 = .ok (.aload_n 0, 1) := by decide +kernel
theorem dX5_gate_63 : decode cX5_gate 63 = .ok (.iconst 2, 1) := by decide +kernel
theorem dX5_gate_64 : decode cX5_gate 64 = .ok (.iload_n 1, 1) := by decide +kernel
theorem dX5_gate_65 : decode cX5_gate 65 = .ok (.iload_n 2, 1) := by decide +kernel
theorem dX5_gate_66 : decode cX5_gate 66 = .ok (.iload_n 1, 1) := by decide +kernel
theorem dX5_gate_67 : decode cX5_gate 67 = .ok (.ifCond .le 7, 3) := by decide +kernel
theorem dX5_gate_70 : decode cX5_gate 70 = .ok (.iload_n 3, 1) := by decide +kernel
theorem dX5_gate_71 : decode cX5_gate 71 = .ok (.goto 4, 3) := by decide +kernel
theorem dX5_gate_74 : decode cX5_gate 74 = .ok (.iload_n 2, 1) := by decide +kernel
theorem dX5_gate_75 : decode cX5_gate 75 = .ok (.iload_n 1, 1) := by decide +kernel
theorem dX5_gate_76 : decode cX5_gate 76 = .ok (.iconst 4, 1) := by decide +kernel
theorem dX5_gate_77 : decode cX5_gate 77 = .ok (.if_icmp .ne 8, 3) := by decide +kernel
theorem dX5_gate_80 : decode cX5_gate 80 = .ok (.iload 4, 2) := by decide +kernel
theorem dX5_gate_82 : decode cX5_gate 82 = .ok (.goto 4, 3) := by decide +kernel
theorem dX5_gate_85 : decode cX5_gate 85 = .ok (.iload_n 2, 1) := by decide +kernel
theorem dX5_gate_86 : decode cX5_gate 86 = .ok (.invokevirtual 91, 3) := by decide +kernel
theorem dX5_gate_89 : decode cX5_gate 89 = .ok (.ireturn, 1) := by decide +kernel
set_option maxRecDepth 20000 in
theorem ggX5_store_X5_in : GoodIn wsX5_store wsX5_in := goodIn_r _ [10] (by decide +kernel) (by decide +kernel)
set_option maxRecDepth 20000 in
theorem gX5_store_X5_in : GoodIn wsX5_store (va_wsS RX5 78 yX5_in wsX5_in) := goodIn_app (goodIn_of _ (by decide +kernel)) ggX5_store_X5_in
set_option maxRecDepth 20000 in
theorem ggX5_store_X5_add : GoodIn wsX5_store wsX5_add := goodIn_r _ [14, 15, 2, 16, 17, 18, 19, 20, 21, 22, 9, 23, 24, 25, 1, 26, 27, 28, 29, 30, 31, 32, 33, 34, 35, 36, 37, 38, 39, 40, 41, 42, 43, 44, 45, 46, 47, 48, 49, 50] (by decide +kernel) (by decide +kernel)
set_option maxRecDepth 20000 in
theorem gX5_store_X5_add : GoodIn wsX5_store (wsV RX5 91 RX5 yX5_add wsX5_add) := goodIn_app (goodIn_of _ (by decide +kernel)) ggX5_store_X5_add
theorem dX5_store_0 : decode cX5_store 0 = .ok (.iload_n 1, 1) := by decide +kernel
theorem dX5_store_1 : decode cX5_store 1 = .ok (.bipush (-9), 2) := by decide +kernel
theorem dX5_store_3 : decode cX5_store 3 = .ok (.if_icmp .eq 14, 3) := by decide +kernel
theorem dX5_store_6 : decode cX5_store 6 = .ok (.iload_n 1, 1) := by decide +kernel
theorem dX5_store_7 : decode cX5_store 7 = .ok (.iconst 0, 1) := by decide +kernel
theorem dX5_store_8 : decode cX5_store 8 = .ok (.iconst 3, 1) := by decide +kernel
theorem dX5_store_9 : decode cX5_store 9 = .ok (.invokestatic 78, 3) := by decide +kernel
theorem dX5_store_12 : decode cX5_store 12 = .ok (.ifCond .ne 5, 3) := by decide +kernel
theorem dX5_store_15 : decode cX5_store 15 = .ok (.iconst (-1), 1) := by decide +kernel
theorem dX5_store_16 : decode cX5_store 16 = .ok (.ireturn, 1) := by decide +kernel
theorem dX5_store_17 : decode cX5_store 17 = .ok (.iload_n 2, 1) := by decide +kernel
theorem dX5_store_18 : decode cX5_store 18 = .ok (.iconst 0, 1) := by decide +kernel
theorem dX5_store_19 : decode cX5_store 19 = .ok (.iconst 1, 1) := by decide +kernel
theorem dX5_store_20 : decode cX5_store 20 = .ok (.invokestatic 78, 3) := by decide +kernel
theorem dX5_store_23 : decode cX5_store 23 = .ok (.ifCond .ne 6, 3) := by decide +kernel
theorem dX5_store_26 : decode cX5_store 26 = .ok (.bipush (-2), 2) := by decide +kernel
theorem dX5_store_28 : decode cX5_store 28 = .ok (.ireturn, 1) := by decide +kernel
theorem dX5_store_29 : decode cX5_store 29 = .ok (.aload_n 0, 1) := by decide +kernel
theorem dX5_store_30 : decode cX5_store 30 = .ok (.getfield 85, 3) := by decide +kernel
theorem dX5_store_33 : decode cX5_store 33 = .ok (.bipush 6, 2) := by decide +kernel
theorem dX5_store_35 : decode cX5_store 35 = .ok (.if_icmp .eq 12, 3) := by decide +kernel
theorem dX5_store_38 : decode cX5_store 38 = .ok (.aload_n 0, 1) := by decide +kernel
theorem dX5_store_39 : decode cX5_store 39 = .ok (.getfield 74, 3) := by decide +kernel
theorem dX5_store_42 : decode cX5_store 42 = .ok (.bipush 32, 2) := by decide +kernel
theorem dX5_store_44 : decode cX5_store 44 = .ok (.if_icmp .ne 6, 3) := by decide +kernel
theorem dX5_store_47 : decode cX5_store 47 = .ok (.bipush (-4), 2) := by decide +kernel
theorem dX5_store_49 : decode cX5_store 49 = .ok (.ireturn, 1) := by decide +kernel
theorem dX5_store_50 : decode cX5_store 50 = .ok (.aload_n 0, 1) := by decide +kernel
theorem dX5_store_51 : decode cX5_store 51 = .ok (.getfield 28, 3) := by decide +kernel
theorem dX5_store_54 : decode cX5_store 54 = .ok (.aload_n 0, 1) := by decide +kernel
theorem dX5_store_55 : decode cX5_store 55 = .ok (.getfield 85, 3) := by decide +kernel
theorem dX5_store_58 : decode cX5_store 58 = .ok (.aload_n 0, 1) := by decide +kernel
theorem dX5_store_59 : decode cX5_store 59 = .ok (.getfield 74, 3) := by decide +kernel
theorem dX5_store_62 : decode cX5_store 62 = .ok (.iastore, 1) := by decide +kernel
theorem dX5_store_63 : decode cX5_store 63 = .ok (.aload_n 0, 1) := by decide +kernel
theorem dX5_store_64 : decode cX5_store 64 = .ok (.getfield 31, 3) := by decide +kernel
theorem dX5_store_67 : decode cX5_store 67 = .ok (.aload_n 0, 1) := by decide +kernel
theorem dX5_store_68 : decode cX5_store 68 = .ok (.getfield 85, 3) := by decide +kernel
theorem dX5_store_71 : decode cX5_store 71 = .ok (.iload_n 1, 1) := by decide +kernel
theorem dX5_store_72 : decode cX5_store 72 = .ok (.iastore, 1) := by decide +kernel
theorem dX5_store_73 : decode cX5_store 73 = .ok (.aload_n 0, 1) := by decide +kernel
theorem dX5_store_74 : decode cX5_store 74 = .ok (.getfield 34, 3) := by decide +kernel
theorem dX5_store_77 : decode cX5_store 77 = .ok (.aload_n 0, 1) := by decide +kernel
theorem dX5_store_78 : decode cX5_store 78 = .ok (.getfield 85, 3) := by decide +kernel
theorem dX5_store_81 : decode cX5_store 81 = .ok (.iload_n 2, 1) := by decide +kernel
theorem dX5_store_82 : decode cX5_store 82 = .ok (.iastore, 1) := by decide +kernel
theorem dX5_store_83 : decode cX5_store 83 = .ok (.aload_n 0, 1) := by decide +kernel
theorem dX5_store_84 : decode cX5_store 84 = .ok (.getfield 37, 3) := by decide +kernel
theorem dX5_store_87 : decode cX5_store 87 = .ok (.aload_n 0, 1) := by decide +kernel
theorem dX5_store_88 : decode cX5_store 88 = .ok (.getfield 85, 3) := by decide +kernel
theorem dX5_store_91 : decode cX5_store 91 = .ok (.aload_n 0, 1) := by decide +kernel
theorem dX5_store_92 : decode cX5_store 92 = .ok (.getfield 74, 3) := by decide +kernel
theorem dX5_store_95 : decode cX5_store 95 = .ok (.iastore, 1) := by decide +kernel
theorem dX5_store_96 : decode cX5_store 96 = .ok (.aload_n 0, 1) := by decide +kernel
theorem dX5_store_97 : decode cX5_store 97 = .ok (.dup, 1) := by decide +kernel
theorem dX5_store_98 : decode cX5_store 98 = .ok (.getfield 85, 3) := by decide +kernel
theorem dX5_store_101 : decode cX5_store 101 = .ok (.iconst 1, 1) := by decide +kernel
theorem dX5_store_102 : decode cX5_store 102 = .ok (.iadd, 1) := by decide +kernel
theorem dX5_store_103 : decode cX5_store 103 = .ok (.putfield 85, 3) := by decide +kernel
theorem dX5_store_106 : decode cX5_store 106 = .ok (.aload_n 0, 1) := by decide +kernel
theorem dX5_store_107 : decode cX5_store 107 = .ok (.iconst 3, 1) := by decide +kernel
theorem dX5_store_108 : decode cX5_store 108 = .ok (.aload_n 0, 1) := by decide +kernel
theorem dX5_store_109 : decode cX5_store 109 = .ok (.getfield 85, 3) := by decide +kernel
theorem dX5_store_112 : decode cX5_store 112 = .ok (.iconst 1, 1) := by decide +kernel
theorem dX5_store_113 : decode cX5_store 113 = .ok (.isub, 1) := by decide +kernel
theorem dX5_store_114 : decode cX5_store 114 = .ok (.iconst 0, 1) := by decide +kernel
theorem dX5_store_115 : decode cX5_store 115 = .ok (.iconst 0, 1) := by decide +kernel
theorem dX5_store_116 : decode cX5_store 116 = .ok (.iconst 0, 1) := by decide +kernel
theorem dX5_store_117 : decode cX5_store 117 = .ok (.invokevirtual 91, 3) := by decide +kernel
theorem dX5_store_120 : decode cX5_store 120 = .ok (.ireturn, 1) := by decide +kernel
set_option maxRecDepth 20000 in
theorem ggX5_reads_X5_isNode : GoodIn wsX5_reads wsX5_isNode := goodIn_r _ [8, 9, 10, 11, 7, 12, 21, 22, 23, 24, 25, 26, 27, 28, 29, 30, 31, 32, 33, 34, 35, 36, 37, 38, 39, 40, 41, 42, 43, 44] (by decide +kernel) (by decide +kernel)
set_option maxRecDepth 20000 in
theorem gX5_reads_X5_isNode : GoodIn wsX5_reads (wsV RX5 95 RX5 yX5_isNode wsX5_isNode) := goodIn_app (goodIn_of _ (by decide +kernel)) ggX5_reads_X5_isNode
set_option maxRecDepth 20000 in
theorem ggX5_reads_X5_begin : GoodIn wsX5_reads wsX5_begin := goodIn_r _ [16, 17, 18, 19, 20, 21, 22, 23, 24, 25, 26, 27, 28, 29, 30, 31, 32, 33, 34, 35, 36, 37, 38, 39, 40, 41, 42, 43, 44] (by decide +kernel) (by decide +kernel)
set_option maxRecDepth 20000 in
theorem gX5_reads_X5_begin : GoodIn wsX5_reads (wsV RX5 71 RX5 yX5_begin wsX5_begin) := goodIn_app (goodIn_of _ (by decide +kernel)) ggX5_reads_X5_begin
theorem dX5_reads_0 : decode cX5_reads 0 = .ok (.aload_n 0, 1) := by decide +kernel
theorem dX5_reads_1 : decode cX5_reads 1 = .ok (.iload_n 1, 1) := by decide +kernel
theorem dX5_reads_2 : decode cX5_reads 2 = .ok (.invokevirtual 95, 3) := by decide +kernel
theorem dX5_reads_5 : decode cX5_reads 5 = .ok (.ifCond .eq 11, 3) := by decide +kernel
theorem dX5_reads_8 : decode cX5_reads 8 = .ok (.aload_n 0, 1) := by decide +kernel
theorem dX5_reads_9 : decode cX5_reads 9 = .ok (.iload_n 2, 1) := by decide +kernel
theorem dX5_reads_10 : decode cX5_reads 10 = .ok (.invokevirtual 95, 3) := by decide +kernel
theorem dX5_reads_13 : decode cX5_reads 13 = .ok (.ifCond .ne 5, 3) := by decide +kernel
theorem dX5_reads_16 : decode cX5_reads 16 = .ok (.iconst (-1), 1) := by decide +kernel
theorem dX5_reads_17 : decode cX5_reads 17 = .ok (.ireturn, 1) := by decide +kernel
theorem dX5_reads_18 : decode cX5_reads 18 = .ok (.aload_n 0, 1) := by decide +kernel
theorem dX5_reads_19 : decode cX5_reads 19 = .ok (.getfield 7, 3) := by decide +kernel
theorem dX5_reads_22 : decode cX5_reads 22 = .ok (.iload_n 1, 1) := by decide +kernel
theorem dX5_reads_23 : decode cX5_reads 23 = .ok (.iaload, 1) := by decide +kernel
theorem dX5_reads_24 : decode cX5_reads 24 = .ok (.iconst 3, 1) := by decide +kernel
theorem dX5_reads_25 : decode cX5_reads 25 = .ok (.if_icmp .eq 6, 3) := by decide +kernel
theorem dX5_reads_28 : decode cX5_reads 28 = .ok (.bipush (-3), 2) := by decide +kernel
theorem dX5_reads_30 : decode cX5_reads 30 = .ok (.ireturn, 1) := by decide +kernel
theorem dX5_reads_31 : decode cX5_reads 31 = .ok (.aload_n 0, 1) := by decide +kernel
theorem dX5_reads_32 : decode cX5_reads 32 = .ok (.getfield 37, 3) := by decide +kernel
theorem dX5_reads_35 : decode cX5_reads 35 = .ok (.aload_n 0, 1) := by decide +kernel
theorem dX5_reads_36 : decode cX5_reads 36 = .ok (.getfield 13, 3) := by decide +kernel
theorem dX5_reads_39 : decode cX5_reads 39 = .ok (.iload_n 1, 1) := by decide +kernel
theorem dX5_reads_40 : decode cX5_reads 40 = .ok (.iaload, 1) := by decide +kernel
theorem dX5_reads_41 : decode cX5_reads 41 = .ok (.iaload, 1) := by decide +kernel
theorem dX5_reads_42 : decode cX5_reads 42 = .ok (.istore_n 3, 1) := by decide +kernel
theorem dX5_reads_43 : decode cX5_reads 43 = .ok (.iload_n 3, 1) := by decide +kernel
theorem dX5_reads_44 : decode cX5_reads 44 = .ok (.iload_n 2, 1) := by decide +kernel
theorem dX5_reads_45 : decode cX5_reads 45 = .ok (.if_icmp .eq 19, 3) := by decide +kernel
theorem dX5_reads_48 : decode cX5_reads 48 = .ok (.aload_n 0, 1) := by decide +kernel
theorem dX5_reads_49 : decode cX5_reads 49 = .ok (.getfield 37, 3) := by decide +kernel
theorem dX5_reads_52 : decode cX5_reads 52 = .ok (.aload_n 0, 1) := by decide +kernel
theorem dX5_reads_53 : decode cX5_reads 53 = .ok (.getfield 13, 3) := by decide +kernel
theorem dX5_reads_56 : decode cX5_reads 56 = .ok (.iload_n 1, 1) := by decide +kernel
theorem dX5_reads_57 : decode cX5_reads 57 = .ok (.iaload, 1) := by decide +kernel
theorem dX5_reads_58 : decode cX5_reads 58 = .ok (.iload_n 2, 1) := by decide +kernel
theorem dX5_reads_59 : decode cX5_reads 59 = .ok (.iastore, 1) := by decide +kernel
theorem dX5_reads_60 : decode cX5_reads 60 = .ok (.aload_n 0, 1) := by decide +kernel
theorem dX5_reads_61 : decode cX5_reads 61 = .ok (.invokevirtual 71, 3) := by decide +kernel
theorem dX5_reads_64 : decode cX5_reads 64 = .ok (.iload_n 3, 1) := by decide +kernel
theorem dX5_reads_65 : decode cX5_reads 65 = .ok (.ireturn, 1) := by decide +kernel
set_option maxRecDepth 20000 in
theorem ggX5_about_X5_isNode : GoodIn wsX5_about wsX5_isNode := goodIn_r _ [10, 11, 12, 13, 9, 14, 15, 16, 17, 18, 19, 20, 21, 22, 23, 24, 25, 26, 27, 28, 29, 30, 31, 32, 33, 34, 35, 36, 37, 38] (by decide +kernel) (by decide +kernel)
set_option maxRecDepth 20000 in
theorem gX5_about_X5_isNode : GoodIn wsX5_about (wsV RX5 95 RX5 yX5_isNode wsX5_isNode) := goodIn_app (goodIn_of _ (by decide +kernel)) ggX5_about_X5_isNode
theorem dX5_about_0 : decode cX5_about 0 = .ok (.aload_n 0, 1) := by decide +kernel
theorem dX5_about_1 : decode cX5_about 1 = .ok (.iload_n 1, 1) := by decide +kernel
theorem dX5_about_2 : decode cX5_about 2 = .ok (.invokevirtual 95, 3) := by decide +kernel
theorem dX5_about_5 : decode cX5_about 5 = .ok (.ifCond .ne 5, 3) := by decide +kernel
theorem dX5_about_8 : decode cX5_about 8 = .ok (.iconst (-1), 1) := by decide +kernel
theorem dX5_about_9 : decode cX5_about 9 = .ok (.ireturn, 1) := by decide +kernel
theorem dX5_about_10 : decode cX5_about 10 = .ok (.aload_n 0, 1) := by decide +kernel
theorem dX5_about_11 : decode cX5_about 11 = .ok (.getfield 7, 3) := by decide +kernel
theorem dX5_about_14 : decode cX5_about 14 = .ok (.iload_n 1, 1) := by decide +kernel
theorem dX5_about_15 : decode cX5_about 15 = .ok (.iaload, 1) := by decide +kernel
theorem dX5_about_16 : decode cX5_about 16 = .ok (.iconst 3, 1) := by decide +kernel
theorem dX5_about_17 : decode cX5_about 17 = .ok (.if_icmp .ne 7, 3) := by decide +kernel
theorem dX5_about_20 : decode cX5_about 20 = .ok (.iconst 1, 1) := by decide +kernel
theorem dX5_about_21 : decode cX5_about 21 = .ok (.goto 4, 3) := by decide +kernel
theorem dX5_about_24 : decode cX5_about 24 = .ok (.iconst 0, 1) := by decide +kernel
theorem dX5_about_25 : decode cX5_about 25 = .ok (.istore_n 3, 1) := by decide +kernel
theorem dX5_about_26 : decode cX5_about 26 = .ok (.iload_n 2, 1) := by decide +kernel
theorem dX5_about_27 : decode cX5_about 27 = .ok (.tableswitch 125 0 4 #[33, 40, 62, 83, 104], 33) := by decide +kernel
theorem dX5_about_60 : decode cX5_about 60 = .ok (.aload_n 0, 1) := by decide +kernel
theorem dX5_about_61 : decode cX5_about 61 = .ok (.getfield 7, 3) := by decide +kernel
theorem dX5_about_64 : decode cX5_about 64 = .ok (.iload_n 1, 1) := by decide +kernel
theorem dX5_about_65 : decode cX5_about 65 = .ok (.iaload, 1) := by decide +kernel
theorem dX5_about_66 : decode cX5_about 66 = .ok (.ireturn, 1) := by decide +kernel
theorem dX5_about_67 : decode cX5_about 67 = .ok (.aload_n 0, 1) := by decide +kernel
theorem dX5_about_68 : decode cX5_about 68 = .ok (.getfield 7, 3) := by decide +kernel
theorem dX5_about_71 : decode cX5_about 71 = .ok (.iload_n 1, 1) := by decide +kernel
theorem dX5_about_72 : decode cX5_about 72 = .ok (.iaload, 1) := by decide +kernel
theorem dX5_about_73 : decode cX5_about 73 = .ok (.iconst 2, 1) := by decide +kernel
theorem dX5_about_74 : decode cX5_about 74 = .ok (.if_icmp .ne 12, 3) := by decide +kernel
theorem dX5_about_77 : decode cX5_about 77 = .ok (.aload_n 0, 1) := by decide +kernel
theorem dX5_about_78 : decode cX5_about 78 = .ok (.getfield 13, 3) := by decide +kernel
theorem dX5_about_81 : decode cX5_about 81 = .ok (.iload_n 1, 1) := by decide +kernel
theorem dX5_about_82 : decode cX5_about 82 = .ok (.iaload, 1) := by decide +kernel
theorem dX5_about_83 : decode cX5_about 83 = .ok (.goto 5, 3) := by decide +kernel
theorem dX5_about_86 : decode cX5_about 86 = .ok (.bipush (-9), 2) := by decide +kernel
theorem dX5_about_88 : decode cX5_about 88 = .ok (.ireturn, 1) := by decide +kernel
theorem dX5_about_89 : decode cX5_about 89 = .ok (.iload_n 3, 1) := by decide +kernel
theorem dX5_about_90 : decode cX5_about 90 = .ok (.ifCond .eq 17, 3) := by decide +kernel
theorem dX5_about_93 : decode cX5_about 93 = .ok (.aload_n 0, 1) := by decide +kernel
theorem dX5_about_94 : decode cX5_about 94 = .ok (.getfield 31, 3) := by decide +kernel
theorem dX5_about_97 : decode cX5_about 97 = .ok (.aload_n 0, 1) := by decide +kernel
theorem dX5_about_98 : decode cX5_about 98 = .ok (.getfield 13, 3) := by decide +kernel
theorem dX5_about_101 : decode cX5_about 101 = .ok (.iload_n 1, 1) := by decide +kernel
theorem dX5_about_102 : decode cX5_about 102 = .ok (.iaload, 1) := by decide +kernel
theorem dX5_about_103 : decode cX5_about 103 = .ok (.iaload, 1) := by decide +kernel
theorem dX5_about_104 : decode cX5_about 104 = .ok (.goto 5, 3) := by decide +kernel
theorem dX5_about_107 : decode cX5_about 107 = .ok (.bipush (-9), 2) := by decide +kernel
theorem dX5_about_109 : decode cX5_about 109 = .ok (.ireturn, 1) := by decide +kernel
theorem dX5_about_110 : decode cX5_about 110 = .ok (.iload_n 3, 1) := by decide +kernel
theorem dX5_about_111 : decode cX5_about 111 = .ok (.ifCond .eq 17, 3) := by decide +kernel
theorem dX5_about_114 : decode cX5_about 114 = .ok (.aload_n 0, 1) := by decide +kernel
theorem dX5_about_115 : decode cX5_about 115 = .ok (.getfield 34, 3) := by decide +kernel
theorem dX5_about_118 : decode cX5_about 118 = .ok (.aload_n 0, 1) := by decide +kernel
theorem dX5_about_119 : decode cX5_about 119 = .ok (.getfield 13, 3) := by decide +kernel
theorem dX5_about_122 : decode cX5_about 122 = .ok (.iload_n 1, 1) := by decide +kernel
theorem dX5_about_123 : decode cX5_about 123 = .ok (.iaload, 1) := by decide +kernel
theorem dX5_about_124 : decode cX5_about 124 = .ok (.iaload, 1) := by decide +kernel
theorem dX5_about_125 : decode cX5_about 125 = .ok (.goto 5, 3) := by decide +kernel
theorem dX5_about_128 : decode cX5_about 128 = .ok (.bipush (-9), 2) := by decide +kernel
theorem dX5_about_130 : decode cX5_about 130 = .ok (.ireturn, 1) := by decide +kernel
theorem dX5_about_131 : decode cX5_about 131 = .ok (.iload_n 3, 1) := by decide +kernel
theorem dX5_about_132 : decode cX5_about 132 = .ok (.ifCond .eq 17, 3) := by decide +kernel
theorem dX5_about_135 : decode cX5_about 135 = .ok (.aload_n 0, 1) := by decide +kernel
theorem dX5_about_136 : decode cX5_about 136 = .ok (.getfield 37, 3) := by decide +kernel
theorem dX5_about_139 : decode cX5_about 139 = .ok (.aload_n 0, 1) := by decide +kernel
theorem dX5_about_140 : decode cX5_about 140 = .ok (.getfield 13, 3) := by decide +kernel
theorem dX5_about_143 : decode cX5_about 143 = .ok (.iload_n 1, 1) := by decide +kernel
theorem dX5_about_144 : decode cX5_about 144 = .ok (.iaload, 1) := by decide +kernel
theorem dX5_about_145 : decode cX5_about 145 = .ok (.iaload, 1) := by decide +kernel
theorem dX5_about_146 : decode cX5_about 146 = .ok (.goto 5, 3) := by decide +kernel
theorem dX5_about_149 : decode cX5_about 149 = .ok (.bipush (-9), 2) := by decide +kernel
theorem dX5_about_151 : decode cX5_about 151 = .ok (.ireturn, 1) := by decide +kernel
theorem dX5_about_152 : decode cX5_about 152 = .ok (.bipush (-2), 2) := by decide +kernel
theorem dX5_about_154 : decode cX5_about 154 = .ok (.ireturn, 1) := by decide +kernel
theorem dX5_gateOf_0 : decode cX5_gateOf 0 = .ok (.iload_n 0, 1) := by decide +kernel
theorem dX5_gateOf_1 : decode cX5_gateOf 1 = .ok (.tableswitch 47 0 3 #[31, 35, 39, 43], 31) := by decide +kernel
theorem dX5_gateOf_32 : decode cX5_gateOf 32 = .ok (.iconst 1, 1) := by decide +kernel
theorem dX5_gateOf_33 : decode cX5_gateOf 33 = .ok (.iload_n 1, 1) := by decide +kernel
theorem dX5_gateOf_34 : decode cX5_gateOf 34 = .ok (.isub, 1) := by decide +kernel
theorem dX5_gateOf_35 : decode cX5_gateOf 35 = .ok (.ireturn, 1) := by decide +kernel
theorem dX5_gateOf_36 : decode cX5_gateOf 36 = .ok (.iload_n 1, 1) := by decide +kernel
theorem dX5_gateOf_37 : decode cX5_gateOf 37 = .ok (.iload_n 2, 1) := by decide +kernel
theorem dX5_gateOf_38 : decode cX5_gateOf 38 = .ok (.iand, 1) := by decide +kernel
theorem dX5_gateOf_39 : decode cX5_gateOf 39 = .ok (.ireturn, 1) := by decide +kernel
theorem dX5_gateOf_40 : decode cX5_gateOf 40 = .ok (.iload_n 1, 1) := by decide +kernel
theorem dX5_gateOf_41 : decode cX5_gateOf 41 = .ok (.iload_n 2, 1) := by decide +kernel
theorem dX5_gateOf_42 : decode cX5_gateOf 42 = .ok (.ior, 1) := by decide +kernel
theorem dX5_gateOf_43 : decode cX5_gateOf 43 = .ok (.ireturn, 1) := by decide +kernel
theorem dX5_gateOf_44 : decode cX5_gateOf 44 = .ok (.iload_n 1, 1) := by decide +kernel
theorem dX5_gateOf_45 : decode cX5_gateOf 45 = .ok (.iload_n 2, 1) := by decide +kernel
theorem dX5_gateOf_46 : decode cX5_gateOf 46 = .ok (.ixor, 1) := by decide +kernel
theorem dX5_gateOf_47 : decode cX5_gateOf 47 = .ok (.ireturn, 1) := by decide +kernel
theorem dX5_gateOf_48 : decode cX5_gateOf 48 = .ok (.iload_n 1, 1) := by decide +kernel
theorem dX5_gateOf_49 : decode cX5_gateOf 49 = .ok (.iconst 1, 1) := by decide +kernel
theorem dX5_gateOf_50 : decode cX5_gateOf 50 = .ok (.if_icmp .ne 7, 3) := by decide +kernel
theorem dX5_gateOf_53 : decode cX5_gateOf 53 = .ok (.iload_n 2, 1) := by decide +kernel
theorem dX5_gateOf_54 : decode cX5_gateOf 54 = .ok (.goto 4, 3) := by decide +kernel
theorem dX5_gateOf_57 : decode cX5_gateOf 57 = .ok (.iload_n 3, 1) := by decide +kernel
theorem dX5_gateOf_58 : decode cX5_gateOf 58 = .ok (.ireturn, 1) := by decide +kernel
set_option maxRecDepth 20000 in
theorem ggX5_work_X5_gateOf : GoodIn wsX5_work wsX5_gateOf := goodIn_r _ [11] (by decide +kernel) (by decide +kernel)
set_option maxRecDepth 20000 in
theorem gX5_work_X5_gateOf : GoodIn wsX5_work (va_wsS RX5 99 yX5_gateOf wsX5_gateOf) := goodIn_app (goodIn_of _ (by decide +kernel)) ggX5_work_X5_gateOf
theorem dX5_work_0 : decode cX5_work 0 = .ok (.iconst 0, 1) := by decide +kernel
theorem dX5_work_1 : decode cX5_work 1 = .ok (.istore_n 3, 1) := by decide +kernel
theorem dX5_work_2 : decode cX5_work 2 = .ok (.iload_n 3, 1) := by decide +kernel
theorem dX5_work_3 : decode cX5_work 3 = .ok (.aload_n 0, 1) := by decide +kernel
theorem dX5_work_4 : decode cX5_work 4 = .ok (.getfield 74, 3) := by decide +kernel
theorem dX5_work_7 : decode cX5_work 7 = .ok (.if_icmp .ge 127, 3) := by decide +kernel
theorem dX5_work_10 : decode cX5_work 10 = .ok (.aload_n 0, 1) := by decide +kernel
theorem dX5_work_11 : decode cX5_work 11 = .ok (.getfield 7, 3) := by decide +kernel
theorem dX5_work_14 : decode cX5_work 14 = .ok (.iload_n 3, 1) := by decide +kernel
theorem dX5_work_15 : decode cX5_work 15 = .ok (.iaload, 1) := by decide +kernel
theorem dX5_work_16 : decode cX5_work 16 = .ok (.iconst 2, 1) := by decide +kernel
theorem dX5_work_17 : decode cX5_work 17 = .ok (.if_icmp .ne 54, 3) := by decide +kernel
theorem dX5_work_20 : decode cX5_work 20 = .ok (.aload_n 0, 1) := by decide +kernel
theorem dX5_work_21 : decode cX5_work 21 = .ok (.getfield 50, 3) := by decide +kernel
theorem dX5_work_24 : decode cX5_work 24 = .ok (.iload_n 3, 1) := by decide +kernel
theorem dX5_work_25 : decode cX5_work 25 = .ok (.aload_n 0, 1) := by decide +kernel
theorem dX5_work_26 : decode cX5_work 26 = .ok (.getfield 13, 3) := by decide +kernel
theorem dX5_work_29 : decode cX5_work 29 = .ok (.iload_n 3, 1) := by decide +kernel
theorem dX5_work_30 : decode cX5_work 30 = .ok (.iaload, 1) := by decide +kernel
theorem dX5_work_31 : decode cX5_work 31 = .ok (.aload_n 0, 1) := by decide +kernel
theorem dX5_work_32 : decode cX5_work 32 = .ok (.getfield 50, 3) := by decide +kernel
theorem dX5_work_35 : decode cX5_work 35 = .ok (.aload_n 0, 1) := by decide +kernel
theorem dX5_work_36 : decode cX5_work 36 = .ok (.getfield 16, 3) := by decide +kernel
theorem dX5_work_39 : decode cX5_work 39 = .ok (.iload_n 3, 1) := by decide +kernel
theorem dX5_work_40 : decode cX5_work 40 = .ok (.iaload, 1) := by decide +kernel
theorem dX5_work_41 : decode cX5_work 41 = .ok (.iaload, 1) := by decide +kernel
theorem dX5_work_42 : decode cX5_work 42 = .ok (.aload_n 0, 1) := by decide +kernel
theorem dX5_work_43 : decode cX5_work 43 = .ok (.getfield 50, 3) := by decide +kernel
theorem dX5_work_46 : decode cX5_work 46 = .ok (.aload_n 0, 1) := by decide +kernel
theorem dX5_work_47 : decode cX5_work 47 = .ok (.getfield 19, 3) := by decide +kernel
theorem dX5_work_50 : decode cX5_work 50 = .ok (.iload_n 3, 1) := by decide +kernel
theorem dX5_work_51 : decode cX5_work 51 = .ok (.iaload, 1) := by decide +kernel
theorem dX5_work_52 : decode cX5_work 52 = .ok (.iaload, 1) := by decide +kernel
theorem dX5_work_53 : decode cX5_work 53 = .ok (.aload_n 0, 1) := by decide +kernel
theorem dX5_work_54 : decode cX5_work 54 = .ok (.getfield 50, 3) := by decide +kernel
theorem dX5_work_57 : decode cX5_work 57 = .ok (.aload_n 0, 1) := by decide +kernel
theorem dX5_work_58 : decode cX5_work 58 = .ok (.getfield 22, 3) := by decide +kernel
theorem dX5_work_61 : decode cX5_work 61 = .ok (.iload_n 3, 1) := by decide +kernel
theorem dX5_work_62 : decode cX5_work 62 = .ok (.iaload, 1) := by decide +kernel
theorem dX5_work_63 : decode cX5_work 63 = .ok (.iaload, 1) := by decide +kernel
theorem dX5_work_64 : decode cX5_work 64 = .ok (.invokestatic 99, 3) := by decide +kernel
theorem dX5_work_67 : decode cX5_work 67 = .ok (.iastore, 1) := by decide +kernel
theorem dX5_work_68 : decode cX5_work 68 = .ok (.goto 60, 3) := by decide +kernel
theorem dX5_work_71 : decode cX5_work 71 = .ok (.aload_n 0, 1) := by decide +kernel
theorem dX5_work_72 : decode cX5_work 72 = .ok (.getfield 50, 3) := by decide +kernel
theorem dX5_work_75 : decode cX5_work 75 = .ok (.iload_n 3, 1) := by decide +kernel
theorem dX5_work_76 : decode cX5_work 76 = .ok (.aload_n 0, 1) := by decide +kernel
theorem dX5_work_77 : decode cX5_work 77 = .ok (.getfield 7, 3) := by decide +kernel
theorem dX5_work_80 : decode cX5_work 80 = .ok (.iload_n 3, 1) := by decide +kernel
theorem dX5_work_81 : decode cX5_work 81 = .ok (.iaload, 1) := by decide +kernel
theorem dX5_work_82 : decode cX5_work 82 = .ok (.iconst 1, 1) := by decide +kernel
theorem dX5_work_83 : decode cX5_work 83 = .ok (.if_icmp .ne 12, 3) := by decide +kernel
theorem dX5_work_86 : decode cX5_work 86 = .ok (.aload_n 0, 1) := by decide +kernel
theorem dX5_work_87 : decode cX5_work 87 = .ok (.getfield 13, 3) := by decide +kernel
theorem dX5_work_90 : decode cX5_work 90 = .ok (.iload_n 3, 1) := by decide +kernel
theorem dX5_work_91 : decode cX5_work 91 = .ok (.iaload, 1) := by decide +kernel
theorem dX5_work_92 : decode cX5_work 92 = .ok (.goto 35, 3) := by decide +kernel
theorem dX5_work_95 : decode cX5_work 95 = .ok (.aload_n 0, 1) := by decide +kernel
theorem dX5_work_96 : decode cX5_work 96 = .ok (.getfield 7, 3) := by decide +kernel
theorem dX5_work_99 : decode cX5_work 99 = .ok (.iload_n 3, 1) := by decide +kernel
theorem dX5_work_100 : decode cX5_work 100 = .ok (.iaload, 1) := by decide +kernel
theorem dX5_work_101 : decode cX5_work 101 = .ok (.ifCond .ne 16, 3) := by decide +kernel
theorem dX5_work_104 : decode cX5_work 104 = .ok (.iload_n 2, 1) := by decide +kernel
theorem dX5_work_105 : decode cX5_work 105 = .ok (.aload_n 0, 1) := by decide +kernel
theorem dX5_work_106 : decode cX5_work 106 = .ok (.getfield 13, 3) := by decide +kernel
theorem dX5_work_109 : decode cX5_work 109 = .ok (.iload_n 3, 1) := by decide +kernel
theorem dX5_work_110 : decode cX5_work 110 = .ok (.iaload, 1) := by decide +kernel
theorem dX5_work_111 : decode cX5_work 111 = .ok (.ishr, 1) := by decide +kernel
theorem dX5_work_112 : decode cX5_work 112 = .ok (.iconst 1, 1) := by decide +kernel
theorem dX5_work_113 : decode cX5_work 113 = .ok (.iand, 1) := by decide +kernel
theorem dX5_work_114 : decode cX5_work 114 = .ok (.goto 13, 3) := by decide +kernel
theorem dX5_work_117 : decode cX5_work 117 = .ok (.iload_n 1, 1) := by decide +kernel
theorem dX5_work_118 : decode cX5_work 118 = .ok (.aload_n 0, 1) := by decide +kernel
theorem dX5_work_119 : decode cX5_work 119 = .ok (.getfield 13, 3) := by decide +kernel
theorem dX5_work_122 : decode cX5_work 122 = .ok (.iload_n 3, 1) := by decide +kernel
theorem dX5_work_123 : decode cX5_work 123 = .ok (.iaload, 1) := by decide +kernel
theorem dX5_work_124 : decode cX5_work 124 = .ok (.ishr, 1) := by decide +kernel
theorem dX5_work_125 : decode cX5_work 125 = .ok (.iconst 1, 1) := by decide +kernel
theorem dX5_work_126 : decode cX5_work 126 = .ok (.iand, 1) := by decide +kernel
theorem dX5_work_127 : decode cX5_work 127 = .ok (.iastore, 1) := by decide +kernel
theorem dX5_work_128 : decode cX5_work 128 = .ok (.iinc 3 1, 3) := by decide +kernel
theorem dX5_work_131 : decode cX5_work 131 = .ok (.goto (-129), 3) := by decide +kernel
theorem dX5_work_134 : decode cX5_work 134 = .ok (.return_, 1) := by decide +kernel
theorem dX5_isPut_0 : decode cX5_isPut 0 = .ok (.iconst 1, 1) := by decide +kernel
theorem dX5_isPut_1 : decode cX5_isPut 1 = .ok (.istore_n 3, 1) := by decide +kernel
theorem dX5_isPut_2 : decode cX5_isPut 2 = .ok (.iconst 0, 1) := by decide +kernel
theorem dX5_isPut_3 : decode cX5_isPut 3 = .ok (.istore 4, 2) := by decide +kernel
theorem dX5_isPut_5 : decode cX5_isPut 5 = .ok (.iload 4, 2) := by decide +kernel
theorem dX5_isPut_7 : decode cX5_isPut 7 = .ok (.aload_n 0, 1) := by decide +kernel
theorem dX5_isPut_8 : decode cX5_isPut 8 = .ok (.getfield 88, 3) := by decide +kernel
theorem dX5_isPut_11 : decode cX5_isPut 11 = .ok (.if_icmp .ge 50, 3) := by decide +kernel
theorem dX5_isPut_14 : decode cX5_isPut 14 = .ok (.iload_n 3, 1) := by decide +kernel
theorem dX5_isPut_15 : decode cX5_isPut 15 = .ok (.ifCond .eq 38, 3) := by decide +kernel
theorem dX5_isPut_18 : decode cX5_isPut 18 = .ok (.iload_n 2, 1) := by decide +kernel
theorem dX5_isPut_19 : decode cX5_isPut 19 = .ok (.ifCond .ne 30, 3) := by decide +kernel
theorem dX5_isPut_22 : decode cX5_isPut 22 = .ok (.aload_n 0, 1) := by decide +kernel
theorem dX5_isPut_23 : decode cX5_isPut 23 = .ok (.getfield 25, 3) := by decide +kernel
theorem dX5_isPut_26 : decode cX5_isPut 26 = .ok (.iload 4, 2) := by decide +kernel
theorem dX5_isPut_28 : decode cX5_isPut 28 = .ok (.iaload, 1) := by decide +kernel
theorem dX5_isPut_29 : decode cX5_isPut 29 = .ok (.iconst 2, 1) := by decide +kernel
theorem dX5_isPut_30 : decode cX5_isPut 30 = .ok (.if_icmp .eq 19, 3) := by decide +kernel
theorem dX5_isPut_33 : decode cX5_isPut 33 = .ok (.aload_n 0, 1) := by decide +kernel
theorem dX5_isPut_34 : decode cX5_isPut 34 = .ok (.getfield 25, 3) := by decide +kernel
theorem dX5_isPut_37 : decode cX5_isPut 37 = .ok (.iload 4, 2) := by decide +kernel
theorem dX5_isPut_39 : decode cX5_isPut 39 = .ok (.iaload, 1) := by decide +kernel
theorem dX5_isPut_40 : decode cX5_isPut 40 = .ok (.iload_n 1, 1) := by decide +kernel
theorem dX5_isPut_41 : decode cX5_isPut 41 = .ok (.iload 4, 2) := by decide +kernel
theorem dX5_isPut_43 : decode cX5_isPut 43 = .ok (.ishr, 1) := by decide +kernel
theorem dX5_isPut_44 : decode cX5_isPut 44 = .ok (.iconst 1, 1) := by decide +kernel
theorem dX5_isPut_45 : decode cX5_isPut 45 = .ok (.iand, 1) := by decide +kernel
theorem dX5_isPut_46 : decode cX5_isPut 46 = .ok (.if_icmp .ne 7, 3) := by decide +kernel
theorem dX5_isPut_49 : decode cX5_isPut 49 = .ok (.iconst 1, 1) := by decide +kernel
theorem dX5_isPut_50 : decode cX5_isPut 50 = .ok (.goto 4, 3) := by decide +kernel
theorem dX5_isPut_53 : decode cX5_isPut 53 = .ok (.iconst 0, 1) := by decide +kernel
theorem dX5_isPut_54 : decode cX5_isPut 54 = .ok (.istore_n 3, 1) := by decide +kernel
theorem dX5_isPut_55 : decode cX5_isPut 55 = .ok (.iinc 4 1, 3) := by decide +kernel
theorem dX5_isPut_58 : decode cX5_isPut 58 = .ok (.goto (-53), 3) := by decide +kernel
theorem dX5_isPut_61 : decode cX5_isPut 61 = .ok (.iload_n 3, 1) := by decide +kernel
theorem dX5_isPut_62 : decode cX5_isPut 62 = .ok (.ireturn, 1) := by decide +kernel
set_option maxRecDepth 20000 in
theorem ggX5_layLeads_X5_work : GoodIn wsX5_layLeads wsX5_work := goodIn_r _ [10, 11, 12, 3, 13, 14, 15, 16, 17, 18, 9, 19, 20, 21, 22, 23, 24, 25, 26, 27, 28, 29, 30, 31, 32, 33, 34, 35, 36, 37, 38, 39, 40, 41, 42, 43] (by decide +kernel) (by decide +kernel)
set_option maxRecDepth 20000 in
theorem gX5_layLeads_X5_work : GoodIn wsX5_layLeads (wsV RX5 103 RX5 yX5_work wsX5_work) := goodIn_app (goodIn_of _ (by decide +kernel)) ggX5_layLeads_X5_work
theorem dX5_layLeads_0 : decode cX5_layLeads 0 = .ok (.iconst 0, 1) := by decide +kernel
theorem dX5_layLeads_1 : decode cX5_layLeads 1 = .ok (.istore_n 1, 1) := by decide +kernel
theorem dX5_layLeads_2 : decode cX5_layLeads 2 = .ok (.iload_n 1, 1) := by decide +kernel
theorem dX5_layLeads_3 : decode cX5_layLeads 3 = .ok (.iconst 1, 1) := by decide +kernel
theorem dX5_layLeads_4 : decode cX5_layLeads 4 = .ok (.aload_n 0, 1) := by decide +kernel
theorem dX5_layLeads_5 : decode cX5_layLeads 5 = .ok (.getfield 85, 3) := by decide +kernel
theorem dX5_layLeads_8 : decode cX5_layLeads 8 = .ok (.ishl, 1) := by decide +kernel
theorem dX5_layLeads_9 : decode cX5_layLeads 9 = .ok (.if_icmp .ge 83, 3) := by decide +kernel
theorem dX5_layLeads_12 : decode cX5_layLeads 12 = .ok (.iconst 0, 1) := by decide +kernel
theorem dX5_layLeads_13 : decode cX5_layLeads 13 = .ok (.istore_n 2, 1) := by decide +kernel
theorem dX5_layLeads_14 : decode cX5_layLeads 14 = .ok (.iload_n 2, 1) := by decide +kernel
theorem dX5_layLeads_15 : decode cX5_layLeads 15 = .ok (.iconst 1, 1) := by decide +kernel
theorem dX5_layLeads_16 : decode cX5_layLeads 16 = .ok (.aload_n 0, 1) := by decide +kernel
theorem dX5_layLeads_17 : decode cX5_layLeads 17 = .ok (.getfield 88, 3) := by decide +kernel
theorem dX5_layLeads_20 : decode cX5_layLeads 20 = .ok (.ishl, 1) := by decide +kernel
theorem dX5_layLeads_21 : decode cX5_layLeads 21 = .ok (.if_icmp .ge 65, 3) := by decide +kernel
theorem dX5_layLeads_24 : decode cX5_layLeads 24 = .ok (.aload_n 0, 1) := by decide +kernel
theorem dX5_layLeads_25 : decode cX5_layLeads 25 = .ok (.iload_n 1, 1) := by decide +kernel
theorem dX5_layLeads_26 : decode cX5_layLeads 26 = .ok (.iload_n 2, 1) := by decide +kernel
theorem dX5_layLeads_27 : decode cX5_layLeads 27 = .ok (.invokevirtual 103, 3) := by decide +kernel
theorem dX5_layLeads_30 : decode cX5_layLeads 30 = .ok (.iconst 0, 1) := by decide +kernel
theorem dX5_layLeads_31 : decode cX5_layLeads 31 = .ok (.istore_n 3, 1) := by decide +kernel
theorem dX5_layLeads_32 : decode cX5_layLeads 32 = .ok (.iconst 0, 1) := by decide +kernel
theorem dX5_layLeads_33 : decode cX5_layLeads 33 = .ok (.istore 4, 2) := by decide +kernel
theorem dX5_layLeads_35 : decode cX5_layLeads 35 = .ok (.iload 4, 2) := by decide +kernel
theorem dX5_layLeads_37 : decode cX5_layLeads 37 = .ok (.aload_n 0, 1) := by decide +kernel
theorem dX5_layLeads_38 : decode cX5_layLeads 38 = .ok (.getfield 85, 3) := by decide +kernel
theorem dX5_layLeads_41 : decode cX5_layLeads 41 = .ok (.if_icmp .ge 27, 3) := by decide +kernel
theorem dX5_layLeads_44 : decode cX5_layLeads 44 = .ok (.iload_n 3, 1) := by decide +kernel
theorem dX5_layLeads_45 : decode cX5_layLeads 45 = .ok (.aload_n 0, 1) := by decide +kernel
theorem dX5_layLeads_46 : decode cX5_layLeads 46 = .ok (.getfield 50, 3) := by decide +kernel
theorem dX5_layLeads_49 : decode cX5_layLeads 49 = .ok (.aload_n 0, 1) := by decide +kernel
theorem dX5_layLeads_50 : decode cX5_layLeads 50 = .ok (.getfield 37, 3) := by decide +kernel
theorem dX5_layLeads_53 : decode cX5_layLeads 53 = .ok (.iload 4, 2) := by decide +kernel
theorem dX5_layLeads_55 : decode cX5_layLeads 55 = .ok (.iaload, 1) := by decide +kernel
theorem dX5_layLeads_56 : decode cX5_layLeads 56 = .ok (.iaload, 1) := by decide +kernel
theorem dX5_layLeads_57 : decode cX5_layLeads 57 = .ok (.iload 4, 2) := by decide +kernel
theorem dX5_layLeads_59 : decode cX5_layLeads 59 = .ok (.ishl, 1) := by decide +kernel
theorem dX5_layLeads_60 : decode cX5_layLeads 60 = .ok (.ior, 1) := by decide +kernel
theorem dX5_layLeads_61 : decode cX5_layLeads 61 = .ok (.istore_n 3, 1) := by decide +kernel
theorem dX5_layLeads_62 : decode cX5_layLeads 62 = .ok (.iinc 4 1, 3) := by decide +kernel
theorem dX5_layLeads_65 : decode cX5_layLeads 65 = .ok (.goto (-30), 3) := by decide +kernel
theorem dX5_layLeads_68 : decode cX5_layLeads 68 = .ok (.aload_n 0, 1) := by decide +kernel
theorem dX5_layLeads_69 : decode cX5_layLeads 69 = .ok (.getfield 53, 3) := by decide +kernel
theorem dX5_layLeads_72 : decode cX5_layLeads 72 = .ok (.bipush 16, 2) := by decide +kernel
theorem dX5_layLeads_74 : decode cX5_layLeads 74 = .ok (.iload_n 1, 1) := by decide +kernel
theorem dX5_layLeads_75 : decode cX5_layLeads 75 = .ok (.imul, 1) := by decide +kernel
theorem dX5_layLeads_76 : decode cX5_layLeads 76 = .ok (.iload_n 2, 1) := by decide +kernel
theorem dX5_layLeads_77 : decode cX5_layLeads 77 = .ok (.iadd, 1) := by decide +kernel
theorem dX5_layLeads_78 : decode cX5_layLeads 78 = .ok (.iload_n 3, 1) := by decide +kernel
theorem dX5_layLeads_79 : decode cX5_layLeads 79 = .ok (.iastore, 1) := by decide +kernel
theorem dX5_layLeads_80 : decode cX5_layLeads 80 = .ok (.iinc 2 1, 3) := by decide +kernel
theorem dX5_layLeads_83 : decode cX5_layLeads 83 = .ok (.goto (-69), 3) := by decide +kernel
theorem dX5_layLeads_86 : decode cX5_layLeads 86 = .ok (.iinc 1 1, 3) := by decide +kernel
theorem dX5_layLeads_89 : decode cX5_layLeads 89 = .ok (.goto (-87), 3) := by decide +kernel
theorem dX5_layLeads_92 : decode cX5_layLeads 92 = .ok (.return_, 1) := by decide +kernel
set_option maxRecDepth 20000 in
theorem ggX5_step_X5_isPut : GoodIn wsX5_step wsX5_isPut := goodIn_r _ [11, 4, 12, 13, 14, 15, 16, 17, 18, 19, 20, 21, 22, 23, 24, 25, 26, 27, 28, 29, 30, 31, 32, 33, 34, 35, 36] (by decide +kernel) (by decide +kernel)
set_option maxRecDepth 20000 in
theorem gX5_step_X5_isPut : GoodIn wsX5_step (wsV RX5 107 RX5 yX5_isPut wsX5_isPut) := goodIn_app (goodIn_of _ (by decide +kernel)) ggX5_step_X5_isPut
theorem dX5_step_0 : decode cX5_step 0 = .ok (.iconst 0, 1) := by decide +kernel
theorem dX5_step_1 : decode cX5_step 1 = .ok (.istore_n 3, 1) := by decide +kernel
theorem dX5_step_2 : decode cX5_step 2 = .ok (.iconst 0, 1) := by decide +kernel
theorem dX5_step_3 : decode cX5_step 3 = .ok (.istore 4, 2) := by decide +kernel
theorem dX5_step_5 : decode cX5_step 5 = .ok (.iload 4, 2) := by decide +kernel
theorem dX5_step_7 : decode cX5_step 7 = .ok (.aload_n 0, 1) := by decide +kernel
theorem dX5_step_8 : decode cX5_step 8 = .ok (.getfield 85, 3) := by decide +kernel
theorem dX5_step_11 : decode cX5_step 11 = .ok (.if_icmp .ge 29, 3) := by decide +kernel
theorem dX5_step_14 : decode cX5_step 14 = .ok (.iload_n 3, 1) := by decide +kernel
theorem dX5_step_15 : decode cX5_step 15 = .ok (.iload_n 1, 1) := by decide +kernel
theorem dX5_step_16 : decode cX5_step 16 = .ok (.iload 4, 2) := by decide +kernel
theorem dX5_step_18 : decode cX5_step 18 = .ok (.ishr, 1) := by decide +kernel
theorem dX5_step_19 : decode cX5_step 19 = .ok (.iconst 1, 1) := by decide +kernel
theorem dX5_step_20 : decode cX5_step 20 = .ok (.iand, 1) := by decide +kernel
theorem dX5_step_21 : decode cX5_step 21 = .ok (.aload_n 0, 1) := by decide +kernel
theorem dX5_step_22 : decode cX5_step 22 = .ok (.getfield 34, 3) := by decide +kernel
theorem dX5_step_25 : decode cX5_step 25 = .ok (.iload 4, 2) := by decide +kernel
theorem dX5_step_27 : decode cX5_step 27 = .ok (.iaload, 1) := by decide +kernel
theorem dX5_step_28 : decode cX5_step 28 = .ok (.imul, 1) := by decide +kernel
theorem dX5_step_29 : decode cX5_step 29 = .ok (.iload 4, 2) := by decide +kernel
theorem dX5_step_31 : decode cX5_step 31 = .ok (.ishl, 1) := by decide +kernel
theorem dX5_step_32 : decode cX5_step 32 = .ok (.ior, 1) := by decide +kernel
theorem dX5_step_33 : decode cX5_step 33 = .ok (.istore_n 3, 1) := by decide +kernel
theorem dX5_step_34 : decode cX5_step 34 = .ok (.iinc 4 1, 3) := by decide +kernel
theorem dX5_step_37 : decode cX5_step 37 = .ok (.goto (-32), 3) := by decide +kernel
theorem dX5_step_40 : decode cX5_step 40 = .ok (.iconst 0, 1) := by decide +kernel
theorem dX5_step_41 : decode cX5_step 41 = .ok (.istore 4, 2) := by decide +kernel
theorem dX5_step_43 : decode cX5_step 43 = .ok (.iload 4, 2) := by decide +kernel
theorem dX5_step_45 : decode cX5_step 45 = .ok (.bipush 64, 2) := by decide +kernel
theorem dX5_step_47 : decode cX5_step 47 = .ok (.if_icmp .ge 17, 3) := by decide +kernel
theorem dX5_step_50 : decode cX5_step 50 = .ok (.aload_n 0, 1) := by decide +kernel
theorem dX5_step_51 : decode cX5_step 51 = .ok (.getfield 59, 3) := by decide +kernel
theorem dX5_step_54 : decode cX5_step 54 = .ok (.iload 4, 2) := by decide +kernel
theorem dX5_step_56 : decode cX5_step 56 = .ok (.iconst 0, 1) := by decide +kernel
theorem dX5_step_57 : decode cX5_step 57 = .ok (.bastore, 1) := by decide +kernel
theorem dX5_step_58 : decode cX5_step 58 = .ok (.iinc 4 1, 3) := by decide +kernel
theorem dX5_step_61 : decode cX5_step 61 = .ok (.goto (-18), 3) := by decide +kernel
theorem dX5_step_64 : decode cX5_step 64 = .ok (.iconst 0, 1) := by decide +kernel
theorem dX5_step_65 : decode cX5_step 65 = .ok (.istore 4, 2) := by decide +kernel
theorem dX5_step_67 : decode cX5_step 67 = .ok (.iload 4, 2) := by decide +kernel
theorem dX5_step_69 : decode cX5_step 69 = .ok (.iconst 1, 1) := by decide +kernel
theorem dX5_step_70 : decode cX5_step 70 = .ok (.aload_n 0, 1) := by decide +kernel
theorem dX5_step_71 : decode cX5_step 71 = .ok (.getfield 88, 3) := by decide +kernel
theorem dX5_step_74 : decode cX5_step 74 = .ok (.ishl, 1) := by decide +kernel
theorem dX5_step_75 : decode cX5_step 75 = .ok (.if_icmp .ge 74, 3) := by decide +kernel
theorem dX5_step_78 : decode cX5_step 78 = .ok (.aload_n 0, 1) := by decide +kernel
theorem dX5_step_79 : decode cX5_step 79 = .ok (.iload 4, 2) := by decide +kernel
theorem dX5_step_81 : decode cX5_step 81 = .ok (.iload_n 2, 1) := by decide +kernel
theorem dX5_step_82 : decode cX5_step 82 = .ok (.invokevirtual 107, 3) := by decide +kernel
theorem dX5_step_85 : decode cX5_step 85 = .ok (.ifCond .eq 58, 3) := by decide +kernel
theorem dX5_step_88 : decode cX5_step 88 = .ok (.iconst 0, 1) := by decide +kernel
theorem dX5_step_89 : decode cX5_step 89 = .ok (.istore 5, 2) := by decide +kernel
theorem dX5_step_91 : decode cX5_step 91 = .ok (.iload 5, 2) := by decide +kernel
theorem dX5_step_93 : decode cX5_step 93 = .ok (.iconst 1, 1) := by decide +kernel
theorem dX5_step_94 : decode cX5_step 94 = .ok (.aload_n 0, 1) := by decide +kernel
theorem dX5_step_95 : decode cX5_step 95 = .ok (.getfield 85, 3) := by decide +kernel
theorem dX5_step_98 : decode cX5_step 98 = .ok (.ishl, 1) := by decide +kernel
theorem dX5_step_99 : decode cX5_step 99 = .ok (.if_icmp .ge 44, 3) := by decide +kernel
theorem dX5_step_102 : decode cX5_step 102 = .ok (.aload_n 0, 1) := by decide +kernel
theorem dX5_step_103 : decode cX5_step 103 = .ok (.getfield 56, 3) := by decide +kernel
theorem dX5_step_106 : decode cX5_step 106 = .ok (.iload 5, 2) := by decide +kernel
theorem dX5_step_108 : decode cX5_step 108 = .ok (.baload, 1) := by decide +kernel
theorem dX5_step_109 : decode cX5_step 109 = .ok (.ifCond .eq 28, 3) := by decide +kernel
theorem dX5_step_112 : decode cX5_step 112 = .ok (.aload_n 0, 1) := by decide +kernel
theorem dX5_step_113 : decode cX5_step 113 = .ok (.getfield 59, 3) := by decide +kernel
theorem dX5_step_116 : decode cX5_step 116 = .ok (.aload_n 0, 1) := by decide +kernel
theorem dX5_step_117 : decode cX5_step 117 = .ok (.getfield 53, 3) := by decide +kernel
theorem dX5_step_120 : decode cX5_step 120 = .ok (.bipush 16, 2) := by decide +kernel
theorem dX5_step_122 : decode cX5_step 122 = .ok (.iload 5, 2) := by decide +kernel
theorem dX5_step_124 : decode cX5_step 124 = .ok (.imul, 1) := by decide +kernel
theorem dX5_step_125 : decode cX5_step 125 = .ok (.iload 4, 2) := by decide +kernel
theorem dX5_step_127 : decode cX5_step 127 = .ok (.iadd, 1) := by decide +kernel
theorem dX5_step_128 : decode cX5_step 128 = .ok (.iaload, 1) := by decide +kernel
theorem dX5_step_129 : decode cX5_step 129 = .ok (.iload_n 1, 1) := by decide +kernel
theorem dX5_step_130 : decode cX5_step 130 = .ok (.iconst (-1), 1) := by decide +kernel
theorem dX5_step_131 : decode cX5_step 131 = .ok (.ixor, 1) := by decide +kernel
theorem dX5_step_132 : decode cX5_step 132 = .ok (.iand, 1) := by decide +kernel
theorem dX5_step_133 : decode cX5_step 133 = .ok (.iload_n 3, 1) := by decide +kernel
theorem dX5_step_134 : decode cX5_step 134 = .ok (.ior, 1) := by decide +kernel
theorem dX5_step_135 : decode cX5_step 135 = .ok (.iconst 1, 1) := by decide +kernel
theorem dX5_step_136 : decode cX5_step 136 = .ok (.bastore, 1) := by decide +kernel
theorem dX5_step_137 : decode cX5_step 137 = .ok (.iinc 5 1, 3) := by decide +kernel
theorem dX5_step_140 : decode cX5_step 140 = .ok (.goto (-49), 3) := by decide +kernel
theorem dX5_step_143 : decode cX5_step 143 = .ok (.iinc 4 1, 3) := by decide +kernel
theorem dX5_step_146 : decode cX5_step 146 = .ok (.goto (-79), 3) := by decide +kernel
theorem dX5_step_149 : decode cX5_step 149 = .ok (.iconst 0, 1) := by decide +kernel
theorem dX5_step_150 : decode cX5_step 150 = .ok (.istore 4, 2) := by decide +kernel
theorem dX5_step_152 : decode cX5_step 152 = .ok (.iload 4, 2) := by decide +kernel
theorem dX5_step_154 : decode cX5_step 154 = .ok (.bipush 64, 2) := by decide +kernel
theorem dX5_step_156 : decode cX5_step 156 = .ok (.if_icmp .ge 23, 3) := by decide +kernel
theorem dX5_step_159 : decode cX5_step 159 = .ok (.aload_n 0, 1) := by decide +kernel
theorem dX5_step_160 : decode cX5_step 160 = .ok (.getfield 56, 3) := by decide +kernel
theorem dX5_step_163 : decode cX5_step 163 = .ok (.iload 4, 2) := by decide +kernel
theorem dX5_step_165 : decode cX5_step 165 = .ok (.aload_n 0, 1) := by decide +kernel
theorem dX5_step_166 : decode cX5_step 166 = .ok (.getfield 59, 3) := by decide +kernel
theorem dX5_step_169 : decode cX5_step 169 = .ok (.iload 4, 2) := by decide +kernel
theorem dX5_step_171 : decode cX5_step 171 = .ok (.baload, 1) := by decide +kernel
theorem dX5_step_172 : decode cX5_step 172 = .ok (.bastore, 1) := by decide +kernel
theorem dX5_step_173 : decode cX5_step 173 = .ok (.iinc 4 1, 3) := by decide +kernel
theorem dX5_step_176 : decode cX5_step 176 = .ok (.goto (-24), 3) := by decide +kernel
theorem dX5_step_179 : decode cX5_step 179 = .ok (.return_, 1) := by decide +kernel
theorem dX5_many_0 : decode cX5_many 0 = .ok (.iconst 0, 1) := by decide +kernel
theorem dX5_many_1 : decode cX5_many 1 = .ok (.istore_n 1, 1) := by decide +kernel
theorem dX5_many_2 : decode cX5_many 2 = .ok (.iconst 0, 1) := by decide +kernel
theorem dX5_many_3 : decode cX5_many 3 = .ok (.istore_n 2, 1) := by decide +kernel
theorem dX5_many_4 : decode cX5_many 4 = .ok (.iload_n 2, 1) := by decide +kernel
theorem dX5_many_5 : decode cX5_many 5 = .ok (.bipush 64, 2) := by decide +kernel
theorem dX5_many_7 : decode cX5_many 7 = .ok (.if_icmp .ge 26, 3) := by decide +kernel
theorem dX5_many_10 : decode cX5_many 10 = .ok (.iload_n 1, 1) := by decide +kernel
theorem dX5_many_11 : decode cX5_many 11 = .ok (.aload_n 0, 1) := by decide +kernel
theorem dX5_many_12 : decode cX5_many 12 = .ok (.getfield 56, 3) := by decide +kernel
theorem dX5_many_15 : decode cX5_many 15 = .ok (.iload_n 2, 1) := by decide +kernel
theorem dX5_many_16 : decode cX5_many 16 = .ok (.baload, 1) := by decide +kernel
theorem dX5_many_17 : decode cX5_many 17 = .ok (.ifCond .eq 7, 3) := by decide +kernel
theorem dX5_many_20 : decode cX5_many 20 = .ok (.iconst 1, 1) := by decide +kernel
theorem dX5_many_21 : decode cX5_many 21 = .ok (.goto 4, 3) := by decide +kernel
theorem dX5_many_24 : decode cX5_many 24 = .ok (.iconst 0, 1) := by decide +kernel
theorem dX5_many_25 : decode cX5_many 25 = .ok (.iadd, 1) := by decide +kernel
theorem dX5_many_26 : decode cX5_many 26 = .ok (.istore_n 1, 1) := by decide +kernel
theorem dX5_many_27 : decode cX5_many 27 = .ok (.iinc 2 1, 3) := by decide +kernel
theorem dX5_many_30 : decode cX5_many 30 = .ok (.goto (-26), 3) := by decide +kernel
theorem dX5_many_33 : decode cX5_many 33 = .ok (.iload_n 1, 1) := by decide +kernel
theorem dX5_many_34 : decode cX5_many 34 = .ok (.ireturn, 1) := by decide +kernel
theorem dX5_resets_0 : decode cX5_resets 0 = .ok (.iconst 0, 1) := by decide +kernel
theorem dX5_resets_1 : decode cX5_resets 1 = .ok (.istore_n 1, 1) := by decide +kernel
theorem dX5_resets_2 : decode cX5_resets 2 = .ok (.iconst 0, 1) := by decide +kernel
theorem dX5_resets_3 : decode cX5_resets 3 = .ok (.istore_n 2, 1) := by decide +kernel
theorem dX5_resets_4 : decode cX5_resets 4 = .ok (.iload_n 2, 1) := by decide +kernel
theorem dX5_resets_5 : decode cX5_resets 5 = .ok (.aload_n 0, 1) := by decide +kernel
theorem dX5_resets_6 : decode cX5_resets 6 = .ok (.getfield 85, 3) := by decide +kernel
theorem dX5_resets_9 : decode cX5_resets 9 = .ok (.if_icmp .ge 44, 3) := by decide +kernel
theorem dX5_resets_12 : decode cX5_resets 12 = .ok (.iload_n 1, 1) := by decide +kernel
theorem dX5_resets_13 : decode cX5_resets 13 = .ok (.aload_n 0, 1) := by decide +kernel
theorem dX5_resets_14 : decode cX5_resets 14 = .ok (.getfield 31, 3) := by decide +kernel
theorem dX5_resets_17 : decode cX5_resets 17 = .ok (.iload_n 2, 1) := by decide +kernel
theorem dX5_resets_18 : decode cX5_resets 18 = .ok (.iaload, 1) := by decide +kernel
theorem dX5_resets_19 : decode cX5_resets 19 = .ok (.bipush (-9), 2) := by decide +kernel
theorem dX5_resets_21 : decode cX5_resets 21 = .ok (.if_icmp .eq 23, 3) := by decide +kernel
theorem dX5_resets_24 : decode cX5_resets 24 = .ok (.aload_n 0, 1) := by decide +kernel
theorem dX5_resets_25 : decode cX5_resets 25 = .ok (.getfield 40, 3) := by decide +kernel
theorem dX5_resets_28 : decode cX5_resets 28 = .ok (.aload_n 0, 1) := by decide +kernel
theorem dX5_resets_29 : decode cX5_resets 29 = .ok (.getfield 31, 3) := by decide +kernel
theorem dX5_resets_32 : decode cX5_resets 32 = .ok (.iload_n 2, 1) := by decide +kernel
theorem dX5_resets_33 : decode cX5_resets 33 = .ok (.iaload, 1) := by decide +kernel
theorem dX5_resets_34 : decode cX5_resets 34 = .ok (.baload, 1) := by decide +kernel
theorem dX5_resets_35 : decode cX5_resets 35 = .ok (.ifCond .eq 9, 3) := by decide +kernel
theorem dX5_resets_38 : decode cX5_resets 38 = .ok (.iconst 1, 1) := by decide +kernel
theorem dX5_resets_39 : decode cX5_resets 39 = .ok (.iload_n 2, 1) := by decide +kernel
theorem dX5_resets_40 : decode cX5_resets 40 = .ok (.ishl, 1) := by decide +kernel
theorem dX5_resets_41 : decode cX5_resets 41 = .ok (.goto 4, 3) := by decide +kernel
theorem dX5_resets_44 : decode cX5_resets 44 = .ok (.iconst 0, 1) := by decide +kernel
theorem dX5_resets_45 : decode cX5_resets 45 = .ok (.ior, 1) := by decide +kernel
theorem dX5_resets_46 : decode cX5_resets 46 = .ok (.istore_n 1, 1) := by decide +kernel
theorem dX5_resets_47 : decode cX5_resets 47 = .ok (.iinc 2 1, 3) := by decide +kernel
theorem dX5_resets_50 : decode cX5_resets 50 = .ok (.goto (-46), 3) := by decide +kernel
theorem dX5_resets_53 : decode cX5_resets 53 = .ok (.iload_n 1, 1) := by decide +kernel
theorem dX5_resets_54 : decode cX5_resets 54 = .ok (.ireturn, 1) := by decide +kernel
theorem dX5_load_0 : decode cX5_load 0 = .ok (.iconst 0, 1) := by decide +kernel
theorem dX5_load_1 : decode cX5_load 1 = .ok (.istore_n 2, 1) := by decide +kernel
theorem dX5_load_2 : decode cX5_load 2 = .ok (.iload_n 2, 1) := by decide +kernel
theorem dX5_load_3 : decode cX5_load 3 = .ok (.bipush 64, 2) := by decide +kernel
theorem dX5_load_5 : decode cX5_load 5 = .ok (.if_icmp .ge 43, 3) := by decide +kernel
theorem dX5_load_8 : decode cX5_load 8 = .ok (.aload_n 0, 1) := by decide +kernel
theorem dX5_load_9 : decode cX5_load 9 = .ok (.getfield 56, 3) := by decide +kernel
theorem dX5_load_12 : decode cX5_load 12 = .ok (.iload_n 2, 1) := by decide +kernel
theorem dX5_load_13 : decode cX5_load 13 = .ok (.iload_n 1, 1) := by decide +kernel
theorem dX5_load_14 : decode cX5_load 14 = .ok (.ifCond .eq 21, 3) := by decide +kernel
theorem dX5_load_17 : decode cX5_load 17 = .ok (.iload_n 2, 1) := by decide +kernel
theorem dX5_load_18 : decode cX5_load 18 = .ok (.iconst 1, 1) := by decide +kernel
theorem dX5_load_19 : decode cX5_load 19 = .ok (.aload_n 0, 1) := by decide +kernel
theorem dX5_load_20 : decode cX5_load 20 = .ok (.getfield 85, 3) := by decide +kernel
theorem dX5_load_23 : decode cX5_load 23 = .ok (.ishl, 1) := by decide +kernel
theorem dX5_load_24 : decode cX5_load 24 = .ok (.if_icmp .ge 7, 3) := by decide +kernel
theorem dX5_load_27 : decode cX5_load 27 = .ok (.iconst 1, 1) := by decide +kernel
theorem dX5_load_28 : decode cX5_load 28 = .ok (.goto 13, 3) := by decide +kernel
theorem dX5_load_31 : decode cX5_load 31 = .ok (.iconst 0, 1) := by decide +kernel
theorem dX5_load_32 : decode cX5_load 32 = .ok (.goto 9, 3) := by decide +kernel
theorem dX5_load_35 : decode cX5_load 35 = .ok (.aload_n 0, 1) := by decide +kernel
theorem dX5_load_36 : decode cX5_load 36 = .ok (.getfield 44, 3) := by decide +kernel
theorem dX5_load_39 : decode cX5_load 39 = .ok (.iload_n 2, 1) := by decide +kernel
theorem dX5_load_40 : decode cX5_load 40 = .ok (.baload, 1) := by decide +kernel
theorem dX5_load_41 : decode cX5_load 41 = .ok (.bastore, 1) := by decide +kernel
theorem dX5_load_42 : decode cX5_load 42 = .ok (.iinc 2 1, 3) := by decide +kernel
theorem dX5_load_45 : decode cX5_load 45 = .ok (.goto (-43), 3) := by decide +kernel
theorem dX5_load_48 : decode cX5_load 48 = .ok (.return_, 1) := by decide +kernel
set_option maxRecDepth 20000 in
theorem ggX5_line_X5_in : GoodIn wsX5_line wsX5_in := goodIn_r _ [5] (by decide +kernel) (by decide +kernel)
set_option maxRecDepth 20000 in
theorem gX5_line_X5_in : GoodIn wsX5_line (va_wsS RX5 78 yX5_in wsX5_in) := goodIn_app (goodIn_of _ (by decide +kernel)) ggX5_line_X5_in
theorem dX5_line_0 : decode cX5_line 0 = .ok (.iload_n 1, 1) := by decide +kernel
theorem dX5_line_1 : decode cX5_line 1 = .ok (.iconst 0, 1) := by decide +kernel
theorem dX5_line_2 : decode cX5_line 2 = .ok (.iconst 3, 1) := by decide +kernel
theorem dX5_line_3 : decode cX5_line 3 = .ok (.invokestatic 78, 3) := by decide +kernel
theorem dX5_line_6 : decode cX5_line 6 = .ok (.ifCond .ne 5, 3) := by decide +kernel
theorem dX5_line_9 : decode cX5_line 9 = .ok (.iconst (-1), 1) := by decide +kernel
theorem dX5_line_10 : decode cX5_line 10 = .ok (.ireturn, 1) := by decide +kernel
theorem dX5_line_11 : decode cX5_line 11 = .ok (.aload_n 0, 1) := by decide +kernel
theorem dX5_line_12 : decode cX5_line 12 = .ok (.getfield 40, 3) := by decide +kernel
theorem dX5_line_15 : decode cX5_line 15 = .ok (.iload_n 1, 1) := by decide +kernel
theorem dX5_line_16 : decode cX5_line 16 = .ok (.baload, 1) := by decide +kernel
theorem dX5_line_17 : decode cX5_line 17 = .ok (.ifCond .eq 7, 3) := by decide +kernel
theorem dX5_line_20 : decode cX5_line 20 = .ok (.iconst 1, 1) := by decide +kernel
theorem dX5_line_21 : decode cX5_line 21 = .ok (.goto 4, 3) := by decide +kernel
theorem dX5_line_24 : decode cX5_line 24 = .ok (.iconst 0, 1) := by decide +kernel
theorem dX5_line_25 : decode cX5_line 25 = .ok (.istore_n 3, 1) := by decide +kernel
theorem dX5_line_26 : decode cX5_line 26 = .ok (.aload_n 0, 1) := by decide +kernel
theorem dX5_line_27 : decode cX5_line 27 = .ok (.getfield 40, 3) := by decide +kernel
theorem dX5_line_30 : decode cX5_line 30 = .ok (.iload_n 1, 1) := by decide +kernel
theorem dX5_line_31 : decode cX5_line 31 = .ok (.iload_n 2, 1) := by decide +kernel
theorem dX5_line_32 : decode cX5_line 32 = .ok (.bastore, 1) := by decide +kernel
theorem dX5_line_33 : decode cX5_line 33 = .ok (.iload_n 3, 1) := by decide +kernel
theorem dX5_line_34 : decode cX5_line 34 = .ok (.ireturn, 1) := by decide +kernel
set_option maxRecDepth 20000 in
theorem ggX5_set_X5_isNode : GoodIn wsX5_set wsX5_isNode := goodIn_r _ [8, 9, 10, 11, 7, 12, 13, 14, 15, 16, 17, 18, 19, 20, 21, 22, 23, 24, 25, 26, 27, 28, 29, 30, 31, 32, 33, 34, 35, 36] (by decide +kernel) (by decide +kernel)
set_option maxRecDepth 20000 in
theorem gX5_set_X5_isNode : GoodIn wsX5_set (wsV RX5 95 RX5 yX5_isNode wsX5_isNode) := goodIn_app (goodIn_of _ (by decide +kernel)) ggX5_set_X5_isNode
set_option maxRecDepth 20000 in
theorem ggX5_set_X5_in : GoodIn wsX5_set wsX5_in := goodIn_r _ [12] (by decide +kernel) (by decide +kernel)
set_option maxRecDepth 20000 in
theorem gX5_set_X5_in : GoodIn wsX5_set (va_wsS RX5 78 yX5_in wsX5_in) := goodIn_app (goodIn_of _ (by decide +kernel)) ggX5_set_X5_in
theorem dX5_set_0 : decode cX5_set 0 = .ok (.aload_n 0, 1) := by decide +kernel
theorem dX5_set_1 : decode cX5_set 1 = .ok (.iload_n 1, 1) := by decide +kernel
theorem dX5_set_2 : decode cX5_set 2 = .ok (.invokevirtual 95, 3) := by decide +kernel
theorem dX5_set_5 : decode cX5_set 5 = .ok (.ifCond .ne 5, 3) := by decide +kernel
theorem dX5_set_8 : decode cX5_set 8 = .ok (.iconst (-1), 1) := by decide +kernel
theorem dX5_set_9 : decode cX5_set 9 = .ok (.ireturn, 1) := by decide +kernel
theorem dX5_set_10 : decode cX5_set 10 = .ok (.aload_n 0, 1) := by decide +kernel
theorem dX5_set_11 : decode cX5_set 11 = .ok (.getfield 7, 3) := by decide +kernel
theorem dX5_set_14 : decode cX5_set 14 = .ok (.iload_n 1, 1) := by decide +kernel
theorem dX5_set_15 : decode cX5_set 15 = .ok (.iaload, 1) := by decide +kernel
theorem dX5_set_16 : decode cX5_set 16 = .ok (.ifCond .eq 6, 3) := by decide +kernel
theorem dX5_set_19 : decode cX5_set 19 = .ok (.bipush (-3), 2) := by decide +kernel
theorem dX5_set_21 : decode cX5_set 21 = .ok (.ireturn, 1) := by decide +kernel
theorem dX5_set_22 : decode cX5_set 22 = .ok (.iload_n 2, 1) := by decide +kernel
theorem dX5_set_23 : decode cX5_set 23 = .ok (.iconst 0, 1) := by decide +kernel
theorem dX5_set_24 : decode cX5_set 24 = .ok (.iconst 2, 1) := by decide +kernel
theorem dX5_set_25 : decode cX5_set 25 = .ok (.invokestatic 78, 3) := by decide +kernel
theorem dX5_set_28 : decode cX5_set 28 = .ok (.ifCond .ne 6, 3) := by decide +kernel
theorem dX5_set_31 : decode cX5_set 31 = .ok (.bipush (-2), 2) := by decide +kernel
theorem dX5_set_33 : decode cX5_set 33 = .ok (.ireturn, 1) := by decide +kernel
theorem dX5_set_34 : decode cX5_set 34 = .ok (.aload_n 0, 1) := by decide +kernel
theorem dX5_set_35 : decode cX5_set 35 = .ok (.getfield 25, 3) := by decide +kernel
theorem dX5_set_38 : decode cX5_set 38 = .ok (.aload_n 0, 1) := by decide +kernel
theorem dX5_set_39 : decode cX5_set 39 = .ok (.getfield 13, 3) := by decide +kernel
theorem dX5_set_42 : decode cX5_set 42 = .ok (.iload_n 1, 1) := by decide +kernel
theorem dX5_set_43 : decode cX5_set 43 = .ok (.iaload, 1) := by decide +kernel
theorem dX5_set_44 : decode cX5_set 44 = .ok (.iaload, 1) := by decide +kernel
theorem dX5_set_45 : decode cX5_set 45 = .ok (.istore_n 3, 1) := by decide +kernel
theorem dX5_set_46 : decode cX5_set 46 = .ok (.aload_n 0, 1) := by decide +kernel
theorem dX5_set_47 : decode cX5_set 47 = .ok (.getfield 25, 3) := by decide +kernel
theorem dX5_set_50 : decode cX5_set 50 = .ok (.aload_n 0, 1) := by decide +kernel
theorem dX5_set_51 : decode cX5_set 51 = .ok (.getfield 13, 3) := by decide +kernel
theorem dX5_set_54 : decode cX5_set 54 = .ok (.iload_n 1, 1) := by decide +kernel
theorem dX5_set_55 : decode cX5_set 55 = .ok (.iaload, 1) := by decide +kernel
theorem dX5_set_56 : decode cX5_set 56 = .ok (.iload_n 2, 1) := by decide +kernel
theorem dX5_set_57 : decode cX5_set 57 = .ok (.iastore, 1) := by decide +kernel
theorem dX5_set_58 : decode cX5_set 58 = .ok (.iload_n 3, 1) := by decide +kernel
theorem dX5_set_59 : decode cX5_set 59 = .ok (.ireturn, 1) := by decide +kernel
set_option maxRecDepth 20000 in
theorem ggX5_workParts_X5_partGate : GoodIn wsX5_workParts wsX5_partGate := goodIn_r _ [13] (by decide +kernel) (by decide +kernel)
set_option maxRecDepth 20000 in
theorem gX5_workParts_X5_partGate : GoodIn wsX5_workParts (va_wsS RX5 111 yX5_partGate wsX5_partGate) := goodIn_app (goodIn_of _ (by decide +kernel)) ggX5_workParts_X5_partGate
theorem dX5_workParts_0 : decode cX5_workParts 0 = .ok (.iconst 0, 1) := by decide +kernel
theorem dX5_workParts_1 : decode cX5_workParts 1 = .ok (.istore_n 1, 1) := by decide +kernel
theorem dX5_workParts_2 : decode cX5_workParts 2 = .ok (.iload_n 1, 1) := by decide +kernel
theorem dX5_workParts_3 : decode cX5_workParts 3 = .ok (.aload_n 0, 1) := by decide +kernel
theorem dX5_workParts_4 : decode cX5_workParts 4 = .ok (.getfield 74, 3) := by decide +kernel
theorem dX5_workParts_7 : decode cX5_workParts 7 = .ok (.if_icmp .ge 116, 3) := by decide +kernel
theorem dX5_workParts_10 : decode cX5_workParts 10 = .ok (.aload_n 0, 1) := by decide +kernel
theorem dX5_workParts_11 : decode cX5_workParts 11 = .ok (.getfield 13, 3) := by decide +kernel
theorem dX5_workParts_14 : decode cX5_workParts 14 = .ok (.iload_n 1, 1) := by decide +kernel
theorem dX5_workParts_15 : decode cX5_workParts 15 = .ok (.iaload, 1) := by decide +kernel
theorem dX5_workParts_16 : decode cX5_workParts 16 = .ok (.istore_n 2, 1) := by decide +kernel
theorem dX5_workParts_17 : decode cX5_workParts 17 = .ok (.aload_n 0, 1) := by decide +kernel
theorem dX5_workParts_18 : decode cX5_workParts 18 = .ok (.getfield 7, 3) := by decide +kernel
theorem dX5_workParts_21 : decode cX5_workParts 21 = .ok (.iload_n 1, 1) := by decide +kernel
theorem dX5_workParts_22 : decode cX5_workParts 22 = .ok (.iaload, 1) := by decide +kernel
theorem dX5_workParts_23 : decode cX5_workParts 23 = .ok (.iconst 2, 1) := by decide +kernel
theorem dX5_workParts_24 : decode cX5_workParts 24 = .ok (.if_icmp .ne 49, 3) := by decide +kernel
theorem dX5_workParts_27 : decode cX5_workParts 27 = .ok (.aload_n 0, 1) := by decide +kernel
theorem dX5_workParts_28 : decode cX5_workParts 28 = .ok (.getfield 50, 3) := by decide +kernel
theorem dX5_workParts_31 : decode cX5_workParts 31 = .ok (.iload_n 1, 1) := by decide +kernel
theorem dX5_workParts_32 : decode cX5_workParts 32 = .ok (.iload_n 2, 1) := by decide +kernel
theorem dX5_workParts_33 : decode cX5_workParts 33 = .ok (.aload_n 0, 1) := by decide +kernel
theorem dX5_workParts_34 : decode cX5_workParts 34 = .ok (.getfield 50, 3) := by decide +kernel
theorem dX5_workParts_37 : decode cX5_workParts 37 = .ok (.aload_n 0, 1) := by decide +kernel
theorem dX5_workParts_38 : decode cX5_workParts 38 = .ok (.getfield 16, 3) := by decide +kernel
theorem dX5_workParts_41 : decode cX5_workParts 41 = .ok (.iload_n 1, 1) := by decide +kernel
theorem dX5_workParts_42 : decode cX5_workParts 42 = .ok (.iaload, 1) := by decide +kernel
theorem dX5_workParts_43 : decode cX5_workParts 43 = .ok (.iaload, 1) := by decide +kernel
theorem dX5_workParts_44 : decode cX5_workParts 44 = .ok (.aload_n 0, 1) := by decide +kernel
theorem dX5_workParts_45 : decode cX5_workParts 45 = .ok (.getfield 50, 3) := by decide +kernel
theorem dX5_workParts_48 : decode cX5_workParts 48 = .ok (.aload_n 0, 1) := by decide +kernel
theorem dX5_workParts_49 : decode cX5_workParts 49 = .ok (.getfield 19, 3) := by decide +kernel
theorem dX5_workParts_52 : decode cX5_workParts 52 = .ok (.iload_n 1, 1) := by decide +kernel
theorem dX5_workParts_53 : decode cX5_workParts 53 = .ok (.iaload, 1) := by decide +kernel
theorem dX5_workParts_54 : decode cX5_workParts 54 = .ok (.iaload, 1) := by decide +kernel
theorem dX5_workParts_55 : decode cX5_workParts 55 = .ok (.aload_n 0, 1) := by decide +kernel
theorem dX5_workParts_56 : decode cX5_workParts 56 = .ok (.getfield 50, 3) := by decide +kernel
theorem dX5_workParts_59 : decode cX5_workParts 59 = .ok (.aload_n 0, 1) := by decide +kernel
theorem dX5_workParts_60 : decode cX5_workParts 60 = .ok (.getfield 22, 3) := by decide +kernel
theorem dX5_workParts_63 : decode cX5_workParts 63 = .ok (.iload_n 1, 1) := by decide +kernel
theorem dX5_workParts_64 : decode cX5_workParts 64 = .ok (.iaload, 1) := by decide +kernel
theorem dX5_workParts_65 : decode cX5_workParts 65 = .ok (.iaload, 1) := by decide +kernel
theorem dX5_workParts_66 : decode cX5_workParts 66 = .ok (.invokestatic 111, 3) := by decide +kernel
theorem dX5_workParts_69 : decode cX5_workParts 69 = .ok (.iastore, 1) := by decide +kernel
theorem dX5_workParts_70 : decode cX5_workParts 70 = .ok (.goto 47, 3) := by decide +kernel
theorem dX5_workParts_73 : decode cX5_workParts 73 = .ok (.aload_n 0, 1) := by decide +kernel
theorem dX5_workParts_74 : decode cX5_workParts 74 = .ok (.getfield 50, 3) := by decide +kernel
theorem dX5_workParts_77 : decode cX5_workParts 77 = .ok (.iload_n 1, 1) := by decide +kernel
theorem dX5_workParts_78 : decode cX5_workParts 78 = .ok (.aload_n 0, 1) := by decide +kernel
theorem dX5_workParts_79 : decode cX5_workParts 79 = .ok (.getfield 7, 3) := by decide +kernel
theorem dX5_workParts_82 : decode cX5_workParts 82 = .ok (.iload_n 1, 1) := by decide +kernel
theorem dX5_workParts_83 : decode cX5_workParts 83 = .ok (.iaload, 1) := by decide +kernel
theorem dX5_workParts_84 : decode cX5_workParts 84 = .ok (.iconst 1, 1) := by decide +kernel
theorem dX5_workParts_85 : decode cX5_workParts 85 = .ok (.if_icmp .ne 7, 3) := by decide +kernel
theorem dX5_workParts_88 : decode cX5_workParts 88 = .ok (.iload_n 2, 1) := by decide +kernel
theorem dX5_workParts_89 : decode cX5_workParts 89 = .ok (.goto 27, 3) := by decide +kernel
theorem dX5_workParts_92 : decode cX5_workParts 92 = .ok (.aload_n 0, 1) := by decide +kernel
theorem dX5_workParts_93 : decode cX5_workParts 93 = .ok (.getfield 7, 3) := by decide +kernel
theorem dX5_workParts_96 : decode cX5_workParts 96 = .ok (.iload_n 1, 1) := by decide +kernel
theorem dX5_workParts_97 : decode cX5_workParts 97 = .ok (.iaload, 1) := by decide +kernel
theorem dX5_workParts_98 : decode cX5_workParts 98 = .ok (.ifCond .ne 12, 3) := by decide +kernel
theorem dX5_workParts_101 : decode cX5_workParts 101 = .ok (.aload_n 0, 1) := by decide +kernel
theorem dX5_workParts_102 : decode cX5_workParts 102 = .ok (.getfield 25, 3) := by decide +kernel
theorem dX5_workParts_105 : decode cX5_workParts 105 = .ok (.iload_n 2, 1) := by decide +kernel
theorem dX5_workParts_106 : decode cX5_workParts 106 = .ok (.iaload, 1) := by decide +kernel
theorem dX5_workParts_107 : decode cX5_workParts 107 = .ok (.goto 9, 3) := by decide +kernel
theorem dX5_workParts_110 : decode cX5_workParts 110 = .ok (.aload_n 0, 1) := by decide +kernel
theorem dX5_workParts_111 : decode cX5_workParts 111 = .ok (.getfield 47, 3) := by decide +kernel
theorem dX5_workParts_114 : decode cX5_workParts 114 = .ok (.iload_n 2, 1) := by decide +kernel
theorem dX5_workParts_115 : decode cX5_workParts 115 = .ok (.iaload, 1) := by decide +kernel
theorem dX5_workParts_116 : decode cX5_workParts 116 = .ok (.iastore, 1) := by decide +kernel
theorem dX5_workParts_117 : decode cX5_workParts 117 = .ok (.iinc 1 1, 3) := by decide +kernel
theorem dX5_workParts_120 : decode cX5_workParts 120 = .ok (.goto (-118), 3) := by decide +kernel
theorem dX5_workParts_123 : decode cX5_workParts 123 = .ok (.return_, 1) := by decide +kernel
theorem dX5_partGate_0 : decode cX5_partGate 0 = .ok (.iload_n 0, 1) := by decide +kernel
theorem dX5_partGate_1 : decode cX5_partGate 1 = .ok (.tableswitch 118 0 3 #[31, 44, 72, 100], 31) := by decide +kernel
theorem dX5_partGate_32 : decode cX5_partGate 32 = .ok (.iload_n 1, 1) := by decide +kernel
theorem dX5_partGate_33 : decode cX5_partGate 33 = .ok (.iconst 2, 1) := by decide +kernel
theorem dX5_partGate_34 : decode cX5_partGate 34 = .ok (.if_icmp .ne 7, 3) := by decide +kernel
theorem dX5_partGate_37 : decode cX5_partGate 37 = .ok (.iconst 2, 1) := by decide +kernel
theorem dX5_partGate_38 : decode cX5_partGate 38 = .ok (.goto 6, 3) := by decide +kernel
theorem dX5_partGate_41 : decode cX5_partGate 41 = .ok (.iconst 1, 1) := by decide +kernel
theorem dX5_partGate_42 : decode cX5_partGate 42 = .ok (.iload_n 1, 1) := by decide +kernel
theorem dX5_partGate_43 : decode cX5_partGate 43 = .ok (.isub, 1) := by decide +kernel
theorem dX5_partGate_44 : decode cX5_partGate 44 = .ok (.ireturn, 1) := by decide +kernel
theorem dX5_partGate_45 : decode cX5_partGate 45 = .ok (.iload_n 1, 1) := by decide +kernel
theorem dX5_partGate_46 : decode cX5_partGate 46 = .ok (.ifCond .eq 7, 3) := by decide +kernel
theorem dX5_partGate_49 : decode cX5_partGate 49 = .ok (.iload_n 2, 1) := by decide +kernel
theorem dX5_partGate_50 : decode cX5_partGate 50 = .ok (.ifCond .ne 7, 3) := by decide +kernel
theorem dX5_partGate_53 : decode cX5_partGate 53 = .ok (.iconst 0, 1) := by decide +kernel
theorem dX5_partGate_54 : decode cX5_partGate 54 = .ok (.goto 18, 3) := by decide +kernel
theorem dX5_partGate_57 : decode cX5_partGate 57 = .ok (.iload_n 1, 1) := by decide +kernel
theorem dX5_partGate_58 : decode cX5_partGate 58 = .ok (.iconst 1, 1) := by decide +kernel
theorem dX5_partGate_59 : decode cX5_partGate 59 = .ok (.if_icmp .ne 12, 3) := by decide +kernel
theorem dX5_partGate_62 : decode cX5_partGate 62 = .ok (.iload_n 2, 1) := by decide +kernel
theorem dX5_partGate_63 : decode cX5_partGate 63 = .ok (.iconst 1, 1) := by decide +kernel
theorem dX5_partGate_64 : decode cX5_partGate 64 = .ok (.if_icmp .ne 7, 3) := by decide +kernel
theorem dX5_partGate_67 : decode cX5_partGate 67 = .ok (.iconst 1, 1) := by decide +kernel
theorem dX5_partGate_68 : decode cX5_partGate 68 = .ok (.goto 4, 3) := by decide +kernel
theorem dX5_partGate_71 : decode cX5_partGate 71 = .ok (.iconst 2, 1) := by decide +kernel
theorem dX5_partGate_72 : decode cX5_partGate 72 = .ok (.ireturn, 1) := by decide +kernel
theorem dX5_partGate_73 : decode cX5_partGate 73 = .ok (.iload_n 1, 1) := by decide +kernel
theorem dX5_partGate_74 : decode cX5_partGate 74 = .ok (.iconst 1, 1) := by decide +kernel
theorem dX5_partGate_75 : decode cX5_partGate 75 = .ok (.if_icmp .eq 8, 3) := by decide +kernel
theorem dX5_partGate_78 : decode cX5_partGate 78 = .ok (.iload_n 2, 1) := by decide +kernel
theorem dX5_partGate_79 : decode cX5_partGate 79 = .ok (.iconst 1, 1) := by decide +kernel
theorem dX5_partGate_80 : decode cX5_partGate 80 = .ok (.if_icmp .ne 7, 3) := by decide +kernel
theorem dX5_partGate_83 : decode cX5_partGate 83 = .ok (.iconst 1, 1) := by decide +kernel
theorem dX5_partGate_84 : decode cX5_partGate 84 = .ok (.goto 16, 3) := by decide +kernel
theorem dX5_partGate_87 : decode cX5_partGate 87 = .ok (.iload_n 1, 1) := by decide +kernel
theorem dX5_partGate_88 : decode cX5_partGate 88 = .ok (.ifCond .ne 11, 3) := by decide +kernel
theorem dX5_partGate_91 : decode cX5_partGate 91 = .ok (.iload_n 2, 1) := by decide +kernel
theorem dX5_partGate_92 : decode cX5_partGate 92 = .ok (.ifCond .ne 7, 3) := by decide +kernel
theorem dX5_partGate_95 : decode cX5_partGate 95 = .ok (.iconst 0, 1) := by decide +kernel
theorem dX5_partGate_96 : decode cX5_partGate 96 = .ok (.goto 4, 3) := by decide +kernel
theorem dX5_partGate_99 : decode cX5_partGate 99 = .ok (.iconst 2, 1) := by decide +kernel
theorem dX5_partGate_100 : decode cX5_partGate 100 = .ok (.ireturn, 1) := by decide +kernel
theorem dX5_partGate_101 : decode cX5_partGate 101 = .ok (.iload_n 1, 1) := by decide +kernel
theorem dX5_partGate_102 : decode cX5_partGate 102 = .ok (.iconst 2, 1) := by decide +kernel
theorem dX5_partGate_103 : decode cX5_partGate 103 = .ok (.if_icmp .eq 8, 3) := by decide +kernel
theorem dX5_partGate_106 : decode cX5_partGate 106 = .ok (.iload_n 2, 1) := by decide +kernel
theorem dX5_partGate_107 : decode cX5_partGate 107 = .ok (.iconst 2, 1) := by decide +kernel
theorem dX5_partGate_108 : decode cX5_partGate 108 = .ok (.if_icmp .ne 7, 3) := by decide +kernel
theorem dX5_partGate_111 : decode cX5_partGate 111 = .ok (.iconst 2, 1) := by decide +kernel
theorem dX5_partGate_112 : decode cX5_partGate 112 = .ok (.goto 6, 3) := by decide +kernel
theorem dX5_partGate_115 : decode cX5_partGate 115 = .ok (.iload_n 1, 1) := by decide +kernel
theorem dX5_partGate_116 : decode cX5_partGate 116 = .ok (.iload_n 2, 1) := by decide +kernel
theorem dX5_partGate_117 : decode cX5_partGate 117 = .ok (.ixor, 1) := by decide +kernel
theorem dX5_partGate_118 : decode cX5_partGate 118 = .ok (.ireturn, 1) := by decide +kernel
theorem dX5_partGate_119 : decode cX5_partGate 119 = .ok (.iload_n 1, 1) := by decide +kernel
theorem dX5_partGate_120 : decode cX5_partGate 120 = .ok (.iconst 1, 1) := by decide +kernel
theorem dX5_partGate_121 : decode cX5_partGate 121 = .ok (.if_icmp .ne 7, 3) := by decide +kernel
theorem dX5_partGate_124 : decode cX5_partGate 124 = .ok (.iload_n 2, 1) := by decide +kernel
theorem dX5_partGate_125 : decode cX5_partGate 125 = .ok (.goto 21, 3) := by decide +kernel
theorem dX5_partGate_128 : decode cX5_partGate 128 = .ok (.iload_n 1, 1) := by decide +kernel
theorem dX5_partGate_129 : decode cX5_partGate 129 = .ok (.ifCond .ne 7, 3) := by decide +kernel
theorem dX5_partGate_132 : decode cX5_partGate 132 = .ok (.iload_n 3, 1) := by decide +kernel
theorem dX5_partGate_133 : decode cX5_partGate 133 = .ok (.goto 13, 3) := by decide +kernel
theorem dX5_partGate_136 : decode cX5_partGate 136 = .ok (.iload_n 2, 1) := by decide +kernel
theorem dX5_partGate_137 : decode cX5_partGate 137 = .ok (.iload_n 3, 1) := by decide +kernel
theorem dX5_partGate_138 : decode cX5_partGate 138 = .ok (.if_icmp .ne 7, 3) := by decide +kernel
theorem dX5_partGate_141 : decode cX5_partGate 141 = .ok (.iload_n 2, 1) := by decide +kernel
theorem dX5_partGate_142 : decode cX5_partGate 142 = .ok (.goto 4, 3) := by decide +kernel
theorem dX5_partGate_145 : decode cX5_partGate 145 = .ok (.iconst 2, 1) := by decide +kernel
theorem dX5_partGate_146 : decode cX5_partGate 146 = .ok (.ireturn, 1) := by decide +kernel
set_option maxRecDepth 20000 in
theorem ggX5_tick_X5_in : GoodIn wsX5_tick wsX5_in := goodIn_r _ [12] (by decide +kernel) (by decide +kernel)
set_option maxRecDepth 20000 in
theorem gX5_tick_X5_in : GoodIn wsX5_tick (va_wsS RX5 78 yX5_in wsX5_in) := goodIn_app (goodIn_of _ (by decide +kernel)) ggX5_tick_X5_in
set_option maxRecDepth 20000 in
theorem ggX5_tick_X5_layLeads : GoodIn wsX5_tick wsX5_layLeads := goodIn_r _ [16, 1, 17, 4, 5, 18, 19, 20, 21, 11, 22, 23, 24, 25, 26, 27, 28, 29, 30, 31, 63, 64, 65, 66, 67, 68, 69, 70, 71, 72, 73, 74, 75, 76, 77, 78, 79, 80, 81, 82, 83, 84, 85, 86] (by decide +kernel) (by decide +kernel)
set_option maxRecDepth 20000 in
theorem gX5_tick_X5_layLeads : GoodIn wsX5_tick (wsV RX5 114 RX5 yX5_layLeads wsX5_layLeads) := goodIn_app (goodIn_of _ (by decide +kernel)) ggX5_tick_X5_layLeads
set_option maxRecDepth 20000 in
theorem ggX5_tick_X5_load : GoodIn wsX5_tick wsX5_load := goodIn_r _ [35, 8, 1, 7, 63, 64, 65, 66, 67, 68, 69, 70, 71, 72, 73, 74, 75, 76, 77, 78, 79, 80, 81, 82, 83, 84, 85, 86] (by decide +kernel) (by decide +kernel)
set_option maxRecDepth 20000 in
theorem gX5_tick_X5_load : GoodIn wsX5_tick (wsV RX5 117 RX5 yX5_load wsX5_load) := goodIn_app (goodIn_of _ (by decide +kernel)) ggX5_tick_X5_load
set_option maxRecDepth 20000 in
theorem ggX5_tick_X5_resets : GoodIn wsX5_tick wsX5_resets := goodIn_r _ [39, 1, 40, 41, 63, 64, 65, 66, 67, 68, 69, 70, 71, 72, 73, 74, 75, 76, 77, 78, 79, 80, 81, 82, 83, 84, 85, 86] (by decide +kernel) (by decide +kernel)
set_option maxRecDepth 20000 in
theorem gX5_tick_X5_resets : GoodIn wsX5_tick (wsV RX5 121 RX5 yX5_resets wsX5_resets) := goodIn_app (goodIn_of _ (by decide +kernel)) ggX5_tick_X5_resets
set_option maxRecDepth 20000 in
theorem ggX5_tick_X5_step : GoodIn wsX5_tick wsX5_step := goodIn_r _ [45, 1, 3, 46, 17, 8, 18, 47, 48, 49, 11, 50, 51, 63, 64, 65, 66, 67, 68, 69, 70, 71, 72, 73, 74, 75, 76, 77, 78, 79, 80, 81, 82, 83, 84, 85, 86] (by decide +kernel) (by decide +kernel)
set_option maxRecDepth 20000 in
theorem gX5_tick_X5_step : GoodIn wsX5_tick (wsV RX5 125 RX5 yX5_step wsX5_step) := goodIn_app (goodIn_of _ (by decide +kernel)) ggX5_tick_X5_step
set_option maxRecDepth 20000 in
theorem ggX5_tick_X5_workParts : GoodIn wsX5_tick wsX5_workParts := goodIn_r _ [55, 23, 25, 24, 4, 26, 27, 28, 51, 2, 56, 57, 11, 58, 63, 64, 65, 66, 67, 68, 69, 70, 71, 72, 73, 74, 75, 76, 77, 78, 79, 80, 81, 82, 83, 84, 85, 86] (by decide +kernel) (by decide +kernel)
set_option maxRecDepth 20000 in
theorem gX5_tick_X5_workParts : GoodIn wsX5_tick (wsV RX5 129 RX5 yX5_workParts wsX5_workParts) := goodIn_app (goodIn_of _ (by decide +kernel)) ggX5_tick_X5_workParts
set_option maxRecDepth 20000 in
theorem ggX5_tick_X5_many : GoodIn wsX5_tick wsX5_many := goodIn_r _ [62, 8, 63, 64, 65, 66, 67, 68, 69, 70, 71, 72, 73, 74, 75, 76, 77, 78, 79, 80, 81, 82, 83, 84, 85, 86] (by decide +kernel) (by decide +kernel)
set_option maxRecDepth 20000 in
theorem gX5_tick_X5_many : GoodIn wsX5_tick (wsV RX5 132 RX5 yX5_many wsX5_many) := goodIn_app (goodIn_of _ (by decide +kernel)) ggX5_tick_X5_many
theorem dX5_tick_0 : decode cX5_tick 0 = .ok (.iload_n 1, 1) := by decide +kernel
theorem dX5_tick_1 : decode cX5_tick 1 = .ok (.iconst 1, 1) := by decide +kernel
theorem dX5_tick_2 : decode cX5_tick 2 = .ok (.bipush 64, 2) := by decide +kernel
theorem dX5_tick_4 : decode cX5_tick 4 = .ok (.invokestatic 78, 3) := by decide +kernel
theorem dX5_tick_7 : decode cX5_tick 7 = .ok (.ifCond .ne 6, 3) := by decide +kernel
theorem dX5_tick_10 : decode cX5_tick 10 = .ok (.bipush (-2), 2) := by decide +kernel
theorem dX5_tick_12 : decode cX5_tick 12 = .ok (.ireturn, 1) := by decide +kernel
theorem dX5_tick_13 : decode cX5_tick 13 = .ok (.aload_n 0, 1) := by decide +kernel
theorem dX5_tick_14 : decode cX5_tick 14 = .ok (.invokevirtual 114, 3) := by decide +kernel
theorem dX5_tick_17 : decode cX5_tick 17 = .ok (.aload_n 0, 1) := by decide +kernel
theorem dX5_tick_18 : decode cX5_tick 18 = .ok (.iconst 0, 1) := by decide +kernel
theorem dX5_tick_19 : decode cX5_tick 19 = .ok (.invokevirtual 117, 3) := by decide +kernel
theorem dX5_tick_22 : decode cX5_tick 22 = .ok (.aload_n 0, 1) := by decide +kernel
theorem dX5_tick_23 : decode cX5_tick 23 = .ok (.invokevirtual 121, 3) := by decide +kernel
theorem dX5_tick_26 : decode cX5_tick 26 = .ok (.istore_n 2, 1) := by decide +kernel
theorem dX5_tick_27 : decode cX5_tick 27 = .ok (.iconst 0, 1) := by decide +kernel
theorem dX5_tick_28 : decode cX5_tick 28 = .ok (.istore_n 3, 1) := by decide +kernel
theorem dX5_tick_29 : decode cX5_tick 29 = .ok (.iload_n 3, 1) := by decide +kernel
theorem dX5_tick_30 : decode cX5_tick 30 = .ok (.iload_n 1, 1) := by decide +kernel
theorem dX5_tick_31 : decode cX5_tick 31 = .ok (.if_icmp .ge 76, 3) := by decide +kernel
theorem dX5_tick_34 : decode cX5_tick 34 = .ok (.aload_n 0, 1) := by decide +kernel
theorem dX5_tick_35 : decode cX5_tick 35 = .ok (.iload_n 2, 1) := by decide +kernel
theorem dX5_tick_36 : decode cX5_tick 36 = .ok (.iconst 0, 1) := by decide +kernel
theorem dX5_tick_37 : decode cX5_tick 37 = .ok (.invokevirtual 125, 3) := by decide +kernel
theorem dX5_tick_40 : decode cX5_tick 40 = .ok (.aload_n 0, 1) := by decide +kernel
theorem dX5_tick_41 : decode cX5_tick 41 = .ok (.invokevirtual 129, 3) := by decide +kernel
theorem dX5_tick_44 : decode cX5_tick 44 = .ok (.iconst 0, 1) := by decide +kernel
theorem dX5_tick_45 : decode cX5_tick 45 = .ok (.istore 4, 2) := by decide +kernel
theorem dX5_tick_47 : decode cX5_tick 47 = .ok (.iload 4, 2) := by decide +kernel
theorem dX5_tick_49 : decode cX5_tick 49 = .ok (.aload_n 0, 1) := by decide +kernel
theorem dX5_tick_50 : decode cX5_tick 50 = .ok (.getfield 85, 3) := by decide +kernel
theorem dX5_tick_53 : decode cX5_tick 53 = .ok (.if_icmp .ge 48, 3) := by decide +kernel
theorem dX5_tick_56 : decode cX5_tick 56 = .ok (.aload_n 0, 1) := by decide +kernel
theorem dX5_tick_57 : decode cX5_tick 57 = .ok (.getfield 47, 3) := by decide +kernel
theorem dX5_tick_60 : decode cX5_tick 60 = .ok (.iload 4, 2) := by decide +kernel
theorem dX5_tick_62 : decode cX5_tick 62 = .ok (.iload_n 2, 1) := by decide +kernel
theorem dX5_tick_63 : decode cX5_tick 63 = .ok (.iload 4, 2) := by decide +kernel
theorem dX5_tick_65 : decode cX5_tick 65 = .ok (.ishr, 1) := by decide +kernel
theorem dX5_tick_66 : decode cX5_tick 66 = .ok (.iconst 1, 1) := by decide +kernel
theorem dX5_tick_67 : decode cX5_tick 67 = .ok (.iand, 1) := by decide +kernel
theorem dX5_tick_68 : decode cX5_tick 68 = .ok (.iconst 1, 1) := by decide +kernel
theorem dX5_tick_69 : decode cX5_tick 69 = .ok (.if_icmp .ne 13, 3) := by decide +kernel
theorem dX5_tick_72 : decode cX5_tick 72 = .ok (.aload_n 0, 1) := by decide +kernel
theorem dX5_tick_73 : decode cX5_tick 73 = .ok (.getfield 34, 3) := by decide +kernel
theorem dX5_tick_76 : decode cX5_tick 76 = .ok (.iload 4, 2) := by decide +kernel
theorem dX5_tick_78 : decode cX5_tick 78 = .ok (.iaload, 1) := by decide +kernel
theorem dX5_tick_79 : decode cX5_tick 79 = .ok (.goto 15, 3) := by decide +kernel
theorem dX5_tick_82 : decode cX5_tick 82 = .ok (.aload_n 0, 1) := by decide +kernel
theorem dX5_tick_83 : decode cX5_tick 83 = .ok (.getfield 50, 3) := by decide +kernel
theorem dX5_tick_86 : decode cX5_tick 86 = .ok (.aload_n 0, 1) := by decide +kernel
theorem dX5_tick_87 : decode cX5_tick 87 = .ok (.getfield 37, 3) := by decide +kernel
theorem dX5_tick_90 : decode cX5_tick 90 = .ok (.iload 4, 2) := by decide +kernel
theorem dX5_tick_92 : decode cX5_tick 92 = .ok (.iaload, 1) := by decide +kernel
theorem dX5_tick_93 : decode cX5_tick 93 = .ok (.iaload, 1) := by decide +kernel
theorem dX5_tick_94 : decode cX5_tick 94 = .ok (.iastore, 1) := by decide +kernel
theorem dX5_tick_95 : decode cX5_tick 95 = .ok (.iinc 4 1, 3) := by decide +kernel
theorem dX5_tick_98 : decode cX5_tick 98 = .ok (.goto (-51), 3) := by decide +kernel
theorem dX5_tick_101 : decode cX5_tick 101 = .ok (.iinc 3 1, 3) := by decide +kernel
theorem dX5_tick_104 : decode cX5_tick 104 = .ok (.goto (-75), 3) := by decide +kernel
theorem dX5_tick_107 : decode cX5_tick 107 = .ok (.aload_n 0, 1) := by decide +kernel
theorem dX5_tick_108 : decode cX5_tick 108 = .ok (.dup, 1) := by decide +kernel
theorem dX5_tick_109 : decode cX5_tick 109 = .ok (.getfield 82, 3) := by decide +kernel
theorem dX5_tick_112 : decode cX5_tick 112 = .ok (.iload_n 1, 1) := by decide +kernel
theorem dX5_tick_113 : decode cX5_tick 113 = .ok (.iadd, 1) := by decide +kernel
theorem dX5_tick_114 : decode cX5_tick 114 = .ok (.putfield 82, 3) := by decide +kernel
theorem dX5_tick_117 : decode cX5_tick 117 = .ok (.iconst 0, 1) := by decide +kernel
theorem dX5_tick_118 : decode cX5_tick 118 = .ok (.istore_n 3, 1) := by decide +kernel
theorem dX5_tick_119 : decode cX5_tick 119 = .ok (.iload_n 3, 1) := by decide +kernel
theorem dX5_tick_120 : decode cX5_tick 120 = .ok (.bipush 64, 2) := by decide +kernel
theorem dX5_tick_122 : decode cX5_tick 122 = .ok (.if_icmp .ge 21, 3) := by decide +kernel
theorem dX5_tick_125 : decode cX5_tick 125 = .ok (.aload_n 0, 1) := by decide +kernel
theorem dX5_tick_126 : decode cX5_tick 126 = .ok (.getfield 44, 3) := by decide +kernel
theorem dX5_tick_129 : decode cX5_tick 129 = .ok (.iload_n 3, 1) := by decide +kernel
theorem dX5_tick_130 : decode cX5_tick 130 = .ok (.aload_n 0, 1) := by decide +kernel
theorem dX5_tick_131 : decode cX5_tick 131 = .ok (.getfield 56, 3) := by decide +kernel
theorem dX5_tick_134 : decode cX5_tick 134 = .ok (.iload_n 3, 1) := by decide +kernel
theorem dX5_tick_135 : decode cX5_tick 135 = .ok (.baload, 1) := by decide +kernel
theorem dX5_tick_136 : decode cX5_tick 136 = .ok (.bastore, 1) := by decide +kernel
theorem dX5_tick_137 : decode cX5_tick 137 = .ok (.iinc 3 1, 3) := by decide +kernel
theorem dX5_tick_140 : decode cX5_tick 140 = .ok (.goto (-21), 3) := by decide +kernel
theorem dX5_tick_143 : decode cX5_tick 143 = .ok (.aload_n 0, 1) := by decide +kernel
theorem dX5_tick_144 : decode cX5_tick 144 = .ok (.invokevirtual 132, 3) := by decide +kernel
theorem dX5_tick_147 : decode cX5_tick 147 = .ok (.ireturn, 1) := by decide +kernel
set_option maxRecDepth 20000 in
theorem ggX5_fresh_X5_begin : GoodIn wsX5_fresh wsX5_begin := goodIn_r _ [6, 1, 7, 8, 9, 10, 11, 12, 13, 14, 15, 16, 17, 18, 19, 20, 21, 22, 23, 24, 25, 26, 27, 28, 29, 30, 31, 32, 33] (by decide +kernel) (by decide +kernel)
set_option maxRecDepth 20000 in
theorem gX5_fresh_X5_begin : GoodIn wsX5_fresh (wsV RX5 71 RX5 yX5_begin wsX5_begin) := goodIn_app (goodIn_of _ (by decide +kernel)) ggX5_fresh_X5_begin
theorem dX5_fresh_0 : decode cX5_fresh 0 = .ok (.aload_n 0, 1) := by decide +kernel
theorem dX5_fresh_1 : decode cX5_fresh 1 = .ok (.getfield 82, 3) := by decide +kernel
theorem dX5_fresh_4 : decode cX5_fresh 4 = .ok (.istore_n 1, 1) := by decide +kernel
theorem dX5_fresh_5 : decode cX5_fresh 5 = .ok (.aload_n 0, 1) := by decide +kernel
theorem dX5_fresh_6 : decode cX5_fresh 6 = .ok (.invokevirtual 71, 3) := by decide +kernel
theorem dX5_fresh_9 : decode cX5_fresh 9 = .ok (.iload_n 1, 1) := by decide +kernel
theorem dX5_fresh_10 : decode cX5_fresh 10 = .ok (.ireturn, 1) := by decide +kernel
set_option maxRecDepth 20000 in
theorem ggX5_possible_X5_load : GoodIn wsX5_possible wsX5_load := goodIn_r _ [5, 6, 7, 8, 13, 14, 15, 16, 17, 18, 19, 20, 21, 22, 23, 24, 25, 26, 27, 28, 29, 30, 31, 32, 33, 34, 35, 36] (by decide +kernel) (by decide +kernel)
set_option maxRecDepth 20000 in
theorem gX5_possible_X5_load : GoodIn wsX5_possible (wsV RX5 117 RX5 yX5_load wsX5_load) := goodIn_app (goodIn_of _ (by decide +kernel)) ggX5_possible_X5_load
set_option maxRecDepth 20000 in
theorem ggX5_possible_X5_many : GoodIn wsX5_possible wsX5_many := goodIn_r _ [12, 6, 13, 14, 15, 16, 17, 18, 19, 20, 21, 22, 23, 24, 25, 26, 27, 28, 29, 30, 31, 32, 33, 34, 35, 36] (by decide +kernel) (by decide +kernel)
set_option maxRecDepth 20000 in
theorem gX5_possible_X5_many : GoodIn wsX5_possible (wsV RX5 132 RX5 yX5_many wsX5_many) := goodIn_app (goodIn_of _ (by decide +kernel)) ggX5_possible_X5_many
theorem dX5_possible_0 : decode cX5_possible 0 = .ok (.aload_n 0, 1) := by decide +kernel
theorem dX5_possible_1 : decode cX5_possible 1 = .ok (.iconst 0, 1) := by decide +kernel
theorem dX5_possible_2 : decode cX5_possible 2 = .ok (.invokevirtual 117, 3) := by decide +kernel
theorem dX5_possible_5 : decode cX5_possible 5 = .ok (.aload_n 0, 1) := by decide +kernel
theorem dX5_possible_6 : decode cX5_possible 6 = .ok (.invokevirtual 132, 3) := by decide +kernel
theorem dX5_possible_9 : decode cX5_possible 9 = .ok (.ireturn, 1) := by decide +kernel
theorem dX5_row_0 : decode cX5_row 0 = .ok (.iload_n 1, 1) := by decide +kernel
theorem dX5_row_1 : decode cX5_row 1 = .ok (.istore_n 2, 1) := by decide +kernel
theorem dX5_row_2 : decode cX5_row 2 = .ok (.iconst 0, 1) := by decide +kernel
theorem dX5_row_3 : decode cX5_row 3 = .ok (.istore_n 3, 1) := by decide +kernel
theorem dX5_row_4 : decode cX5_row 4 = .ok (.iload_n 3, 1) := by decide +kernel
theorem dX5_row_5 : decode cX5_row 5 = .ok (.bipush 64, 2) := by decide +kernel
theorem dX5_row_7 : decode cX5_row 7 = .ok (.if_icmp .ge 31, 3) := by decide +kernel
theorem dX5_row_10 : decode cX5_row 10 = .ok (.iload_n 1, 1) := by decide +kernel
theorem dX5_row_11 : decode cX5_row 11 = .ok (.ifCond .lt 27, 3) := by decide +kernel
theorem dX5_row_14 : decode cX5_row 14 = .ok (.aload_n 0, 1) := by decide +kernel
theorem dX5_row_15 : decode cX5_row 15 = .ok (.getfield 44, 3) := by decide +kernel
theorem dX5_row_18 : decode cX5_row 18 = .ok (.iload_n 3, 1) := by decide +kernel
theorem dX5_row_19 : decode cX5_row 19 = .ok (.baload, 1) := by decide +kernel
theorem dX5_row_20 : decode cX5_row 20 = .ok (.ifCond .eq 12, 3) := by decide +kernel
theorem dX5_row_23 : decode cX5_row 23 = .ok (.iload_n 2, 1) := by decide +kernel
theorem dX5_row_24 : decode cX5_row 24 = .ok (.ifCond .ne 5, 3) := by decide +kernel
theorem dX5_row_27 : decode cX5_row 27 = .ok (.iload_n 3, 1) := by decide +kernel
theorem dX5_row_28 : decode cX5_row 28 = .ok (.ireturn, 1) := by decide +kernel
theorem dX5_row_29 : decode cX5_row 29 = .ok (.iinc 2 (-1), 3) := by decide +kernel
theorem dX5_row_32 : decode cX5_row 32 = .ok (.iinc 3 1, 3) := by decide +kernel
theorem dX5_row_35 : decode cX5_row 35 = .ok (.goto (-31), 3) := by decide +kernel
theorem dX5_row_38 : decode cX5_row 38 = .ok (.bipush (-9), 2) := by decide +kernel
theorem dX5_row_40 : decode cX5_row 40 = .ok (.ireturn, 1) := by decide +kernel
set_option maxRecDepth 20000 in
theorem ggX5_sureOf_X5_isPut : GoodIn wsX5_sureOf wsX5_isPut := goodIn_r _ [9, 2, 10, 24, 25, 26, 27, 28, 29, 30, 31, 32, 33, 34, 35, 36, 37, 38, 39, 40, 41, 42, 43, 44, 45, 46, 47] (by decide +kernel) (by decide +kernel)
set_option maxRecDepth 20000 in
theorem gX5_sureOf_X5_isPut : GoodIn wsX5_sureOf (wsV RX5 107 RX5 yX5_isPut wsX5_isPut) := goodIn_app (goodIn_of _ (by decide +kernel)) ggX5_sureOf_X5_isPut
set_option maxRecDepth 20000 in
theorem ggX5_sureOf_X5_work : GoodIn wsX5_sureOf wsX5_work := goodIn_r _ [14, 15, 16, 4, 17, 18, 19, 20, 21, 22, 8, 23, 24, 25, 26, 27, 28, 29, 30, 31, 32, 33, 34, 35, 36, 37, 38, 39, 40, 41, 42, 43, 44, 45, 46, 47] (by decide +kernel) (by decide +kernel)
set_option maxRecDepth 20000 in
theorem gX5_sureOf_X5_work : GoodIn wsX5_sureOf (wsV RX5 103 RX5 yX5_work wsX5_work) := goodIn_app (goodIn_of _ (by decide +kernel)) ggX5_sureOf_X5_work
theorem dX5_sureOf_0 : decode cX5_sureOf 0 = .ok (.iconst 0, 1) := by decide +kernel
theorem dX5_sureOf_1 : decode cX5_sureOf 1 = .ok (.istore_n 2, 1) := by decide +kernel
theorem dX5_sureOf_2 : decode cX5_sureOf 2 = .ok (.iconst 0, 1) := by decide +kernel
theorem dX5_sureOf_3 : decode cX5_sureOf 3 = .ok (.istore_n 3, 1) := by decide +kernel
theorem dX5_sureOf_4 : decode cX5_sureOf 4 = .ok (.iconst 0, 1) := by decide +kernel
theorem dX5_sureOf_5 : decode cX5_sureOf 5 = .ok (.istore 4, 2) := by decide +kernel
theorem dX5_sureOf_7 : decode cX5_sureOf 7 = .ok (.iload 4, 2) := by decide +kernel
theorem dX5_sureOf_9 : decode cX5_sureOf 9 = .ok (.iconst 1, 1) := by decide +kernel
theorem dX5_sureOf_10 : decode cX5_sureOf 10 = .ok (.aload_n 0, 1) := by decide +kernel
theorem dX5_sureOf_11 : decode cX5_sureOf 11 = .ok (.getfield 85, 3) := by decide +kernel
theorem dX5_sureOf_14 : decode cX5_sureOf 14 = .ok (.ishl, 1) := by decide +kernel
theorem dX5_sureOf_15 : decode cX5_sureOf 15 = .ok (.if_icmp .ge 96, 3) := by decide +kernel
theorem dX5_sureOf_18 : decode cX5_sureOf 18 = .ok (.iconst 0, 1) := by decide +kernel
theorem dX5_sureOf_19 : decode cX5_sureOf 19 = .ok (.istore 5, 2) := by decide +kernel
theorem dX5_sureOf_21 : decode cX5_sureOf 21 = .ok (.iload 5, 2) := by decide +kernel
theorem dX5_sureOf_23 : decode cX5_sureOf 23 = .ok (.iconst 1, 1) := by decide +kernel
theorem dX5_sureOf_24 : decode cX5_sureOf 24 = .ok (.aload_n 0, 1) := by decide +kernel
theorem dX5_sureOf_25 : decode cX5_sureOf 25 = .ok (.getfield 88, 3) := by decide +kernel
theorem dX5_sureOf_28 : decode cX5_sureOf 28 = .ok (.ishl, 1) := by decide +kernel
theorem dX5_sureOf_29 : decode cX5_sureOf 29 = .ok (.if_icmp .ge 76, 3) := by decide +kernel
theorem dX5_sureOf_32 : decode cX5_sureOf 32 = .ok (.aload_n 0, 1) := by decide +kernel
theorem dX5_sureOf_33 : decode cX5_sureOf 33 = .ok (.getfield 44, 3) := by decide +kernel
theorem dX5_sureOf_36 : decode cX5_sureOf 36 = .ok (.iload 4, 2) := by decide +kernel
theorem dX5_sureOf_38 : decode cX5_sureOf 38 = .ok (.baload, 1) := by decide +kernel
theorem dX5_sureOf_39 : decode cX5_sureOf 39 = .ok (.ifCond .eq 60, 3) := by decide +kernel
theorem dX5_sureOf_42 : decode cX5_sureOf 42 = .ok (.aload_n 0, 1) := by decide +kernel
theorem dX5_sureOf_43 : decode cX5_sureOf 43 = .ok (.iload 5, 2) := by decide +kernel
theorem dX5_sureOf_45 : decode cX5_sureOf 45 = .ok (.iconst 0, 1) := by decide +kernel
theorem dX5_sureOf_46 : decode cX5_sureOf 46 = .ok (.invokevirtual 107, 3) := by decide +kernel
theorem dX5_sureOf_49 : decode cX5_sureOf 49 = .ok (.ifCond .eq 50, 3) := by decide +kernel
theorem dX5_sureOf_52 : decode cX5_sureOf 52 = .ok (.aload_n 0, 1) := by decide +kernel
theorem dX5_sureOf_53 : decode cX5_sureOf 53 = .ok (.iload 4, 2) := by decide +kernel
theorem dX5_sureOf_55 : decode cX5_sureOf 55 = .ok (.iload 5, 2) := by decide +kernel
theorem dX5_sureOf_57 : decode cX5_sureOf 57 = .ok (.invokevirtual 103, 3) := by decide +kernel
theorem dX5_sureOf_60 : decode cX5_sureOf 60 = .ok (.iload_n 2, 1) := by decide +kernel
theorem dX5_sureOf_61 : decode cX5_sureOf 61 = .ok (.ifCond .ne 12, 3) := by decide +kernel
theorem dX5_sureOf_64 : decode cX5_sureOf 64 = .ok (.aload_n 0, 1) := by decide +kernel
theorem dX5_sureOf_65 : decode cX5_sureOf 65 = .ok (.getfield 50, 3) := by decide +kernel
theorem dX5_sureOf_68 : decode cX5_sureOf 68 = .ok (.iload_n 1, 1) := by decide +kernel
theorem dX5_sureOf_69 : decode cX5_sureOf 69 = .ok (.iaload, 1) := by decide +kernel
theorem dX5_sureOf_70 : decode cX5_sureOf 70 = .ok (.ifCond .ne 7, 3) := by decide +kernel
theorem dX5_sureOf_73 : decode cX5_sureOf 73 = .ok (.iconst 1, 1) := by decide +kernel
theorem dX5_sureOf_74 : decode cX5_sureOf 74 = .ok (.goto 4, 3) := by decide +kernel
theorem dX5_sureOf_77 : decode cX5_sureOf 77 = .ok (.iconst 0, 1) := by decide +kernel
theorem dX5_sureOf_78 : decode cX5_sureOf 78 = .ok (.istore_n 2, 1) := by decide +kernel
theorem dX5_sureOf_79 : decode cX5_sureOf 79 = .ok (.iload_n 3, 1) := by decide +kernel
theorem dX5_sureOf_80 : decode cX5_sureOf 80 = .ok (.ifCond .ne 13, 3) := by decide +kernel
theorem dX5_sureOf_83 : decode cX5_sureOf 83 = .ok (.aload_n 0, 1) := by decide +kernel
theorem dX5_sureOf_84 : decode cX5_sureOf 84 = .ok (.getfield 50, 3) := by decide +kernel
theorem dX5_sureOf_87 : decode cX5_sureOf 87 = .ok (.iload_n 1, 1) := by decide +kernel
theorem dX5_sureOf_88 : decode cX5_sureOf 88 = .ok (.iaload, 1) := by decide +kernel
theorem dX5_sureOf_89 : decode cX5_sureOf 89 = .ok (.iconst 1, 1) := by decide +kernel
theorem dX5_sureOf_90 : decode cX5_sureOf 90 = .ok (.if_icmp .ne 7, 3) := by decide +kernel
theorem dX5_sureOf_93 : decode cX5_sureOf 93 = .ok (.iconst 1, 1) := by decide +kernel
theorem dX5_sureOf_94 : decode cX5_sureOf 94 = .ok (.goto 4, 3) := by decide +kernel
theorem dX5_sureOf_97 : decode cX5_sureOf 97 = .ok (.iconst 0, 1) := by decide +kernel
theorem dX5_sureOf_98 : decode cX5_sureOf 98 = .ok (.istore_n 3, 1) := by decide +kernel
theorem dX5_sureOf_99 : decode cX5_sureOf 99 = .ok (.iinc 5 1, 3) := by decide +kernel
theorem dX5_sureOf_102 : decode cX5_sureOf 102 = .ok (.goto (-81), 3) := by decide +kernel
theorem dX5_sureOf_105 : decode cX5_sureOf 105 = .ok (.iinc 4 1, 3) := by decide +kernel
theorem dX5_sureOf_108 : decode cX5_sureOf 108 = .ok (.goto (-101), 3) := by decide +kernel
theorem dX5_sureOf_111 : decode cX5_sureOf 111 = .ok (.iload_n 2, 1) := by decide +kernel
theorem dX5_sureOf_112 : decode cX5_sureOf 112 = .ok (.ifCond .eq 11, 3) := by decide +kernel
theorem dX5_sureOf_115 : decode cX5_sureOf 115 = .ok (.iload_n 3, 1) := by decide +kernel
theorem dX5_sureOf_116 : decode cX5_sureOf 116 = .ok (.ifCond .eq 7, 3) := by decide +kernel
theorem dX5_sureOf_119 : decode cX5_sureOf 119 = .ok (.iconst 2, 1) := by decide +kernel
theorem dX5_sureOf_120 : decode cX5_sureOf 120 = .ok (.goto 12, 3) := by decide +kernel
theorem dX5_sureOf_123 : decode cX5_sureOf 123 = .ok (.iload_n 3, 1) := by decide +kernel
theorem dX5_sureOf_124 : decode cX5_sureOf 124 = .ok (.ifCond .eq 7, 3) := by decide +kernel
theorem dX5_sureOf_127 : decode cX5_sureOf 127 = .ok (.iconst 1, 1) := by decide +kernel
theorem dX5_sureOf_128 : decode cX5_sureOf 128 = .ok (.goto 4, 3) := by decide +kernel
theorem dX5_sureOf_131 : decode cX5_sureOf 131 = .ok (.iconst 0, 1) := by decide +kernel
theorem dX5_sureOf_132 : decode cX5_sureOf 132 = .ok (.ireturn, 1) := by decide +kernel
set_option maxRecDepth 20000 in
theorem ggX5_sure_X5_isNode : GoodIn wsX5_sure wsX5_isNode := goodIn_r _ [5, 6, 7, 8, 4, 9, 35, 36, 37, 38, 39, 40, 41, 42, 43, 44, 45, 46, 47, 48, 49, 50, 51, 52, 53, 54, 55, 56, 57, 58] (by decide +kernel) (by decide +kernel)
set_option maxRecDepth 20000 in
theorem gX5_sure_X5_isNode : GoodIn wsX5_sure (wsV RX5 95 RX5 yX5_isNode wsX5_isNode) := goodIn_app (goodIn_of _ (by decide +kernel)) ggX5_sure_X5_isNode
set_option maxRecDepth 20000 in
theorem ggX5_sure_X5_sureOf : GoodIn wsX5_sure wsX5_sureOf := goodIn_r _ [13, 14, 15, 16, 17, 18, 19, 20, 4, 21, 22, 23, 24, 25, 26, 6, 27, 28, 29, 30, 31, 32, 33, 34, 35, 36, 37, 38, 39, 40, 41, 42, 43, 44, 45, 46, 47, 48, 49, 50, 51, 52, 53, 54, 55, 56, 57, 58] (by decide +kernel) (by decide +kernel)
set_option maxRecDepth 20000 in
theorem gX5_sure_X5_sureOf : GoodIn wsX5_sure (wsV RX5 135 RX5 yX5_sureOf wsX5_sureOf) := goodIn_app (goodIn_of _ (by decide +kernel)) ggX5_sure_X5_sureOf
theorem dX5_sure_0 : decode cX5_sure 0 = .ok (.aload_n 0, 1) := by decide +kernel
theorem dX5_sure_1 : decode cX5_sure 1 = .ok (.iload_n 1, 1) := by decide +kernel
theorem dX5_sure_2 : decode cX5_sure 2 = .ok (.invokevirtual 95, 3) := by decide +kernel
theorem dX5_sure_5 : decode cX5_sure 5 = .ok (.ifCond .eq 11, 3) := by decide +kernel
theorem dX5_sure_8 : decode cX5_sure 8 = .ok (.aload_n 0, 1) := by decide +kernel
theorem dX5_sure_9 : decode cX5_sure 9 = .ok (.iload_n 1, 1) := by decide +kernel
theorem dX5_sure_10 : decode cX5_sure 10 = .ok (.invokevirtual 135, 3) := by decide +kernel
theorem dX5_sure_13 : decode cX5_sure 13 = .ok (.goto 4, 3) := by decide +kernel
theorem dX5_sure_16 : decode cX5_sure 16 = .ok (.iconst (-1), 1) := by decide +kernel
theorem dX5_sure_17 : decode cX5_sure 17 = .ok (.ireturn, 1) := by decide +kernel
set_option maxRecDepth 20000 in
theorem ggX5_told_X5_isNode : GoodIn wsX5_told wsX5_isNode := goodIn_r _ [6, 7, 8, 9, 5, 10, 25, 26, 27, 28, 29, 30, 31, 32, 33, 34, 35, 36, 37, 38, 39, 40, 41, 42, 43, 44, 45, 46, 47, 48] (by decide +kernel) (by decide +kernel)
set_option maxRecDepth 20000 in
theorem gX5_told_X5_isNode : GoodIn wsX5_told (wsV RX5 95 RX5 yX5_isNode wsX5_isNode) := goodIn_app (goodIn_of _ (by decide +kernel)) ggX5_told_X5_isNode
set_option maxRecDepth 20000 in
theorem ggX5_told_X5_workParts : GoodIn wsX5_told wsX5_workParts := goodIn_r _ [14, 7, 15, 16, 1, 17, 18, 19, 20, 21, 22, 23, 5, 24, 25, 26, 27, 28, 29, 30, 31, 32, 33, 34, 35, 36, 37, 38, 39, 40, 41, 42, 43, 44, 45, 46, 47, 48] (by decide +kernel) (by decide +kernel)
set_option maxRecDepth 20000 in
theorem gX5_told_X5_workParts : GoodIn wsX5_told (wsV RX5 129 RX5 yX5_workParts wsX5_workParts) := goodIn_app (goodIn_of _ (by decide +kernel)) ggX5_told_X5_workParts
theorem dX5_told_0 : decode cX5_told 0 = .ok (.aload_n 0, 1) := by decide +kernel
theorem dX5_told_1 : decode cX5_told 1 = .ok (.iload_n 1, 1) := by decide +kernel
theorem dX5_told_2 : decode cX5_told 2 = .ok (.invokevirtual 95, 3) := by decide +kernel
theorem dX5_told_5 : decode cX5_told 5 = .ok (.ifCond .ne 5, 3) := by decide +kernel
theorem dX5_told_8 : decode cX5_told 8 = .ok (.iconst (-1), 1) := by decide +kernel
theorem dX5_told_9 : decode cX5_told 9 = .ok (.ireturn, 1) := by decide +kernel
theorem dX5_told_10 : decode cX5_told 10 = .ok (.aload_n 0, 1) := by decide +kernel
theorem dX5_told_11 : decode cX5_told 11 = .ok (.invokevirtual 129, 3) := by decide +kernel
theorem dX5_told_14 : decode cX5_told 14 = .ok (.aload_n 0, 1) := by decide +kernel
theorem dX5_told_15 : decode cX5_told 15 = .ok (.getfield 50, 3) := by decide +kernel
theorem dX5_told_18 : decode cX5_told 18 = .ok (.iload_n 1, 1) := by decide +kernel
theorem dX5_told_19 : decode cX5_told 19 = .ok (.iaload, 1) := by decide +kernel
theorem dX5_told_20 : decode cX5_told 20 = .ok (.ireturn, 1) := by decide +kernel
set_option maxRecDepth 20000 in
theorem ggX5_known_X5_sureOf : GoodIn wsX5_known wsX5_sureOf := goodIn_r _ [8, 1, 9, 10, 11, 12, 13, 14, 7, 15, 16, 17, 18, 19, 20, 21, 22, 23, 24, 25, 26, 27, 28, 29, 30, 31, 32, 33, 34, 35, 36, 37, 38, 39, 40, 41, 42, 43, 44, 45, 46, 47, 48, 49, 50, 51, 52, 53] (by decide +kernel) (by decide +kernel)
set_option maxRecDepth 20000 in
theorem gX5_known_X5_sureOf : GoodIn wsX5_known (wsV RX5 135 RX5 yX5_sureOf wsX5_sureOf) := goodIn_app (goodIn_of _ (by decide +kernel)) ggX5_known_X5_sureOf
theorem dX5_known_0 : decode cX5_known 0 = .ok (.iconst 0, 1) := by decide +kernel
theorem dX5_known_1 : decode cX5_known 1 = .ok (.istore_n 2, 1) := by decide +kernel
theorem dX5_known_2 : decode cX5_known 2 = .ok (.iconst 0, 1) := by decide +kernel
theorem dX5_known_3 : decode cX5_known 3 = .ok (.istore_n 3, 1) := by decide +kernel
theorem dX5_known_4 : decode cX5_known 4 = .ok (.iload_n 3, 1) := by decide +kernel
theorem dX5_known_5 : decode cX5_known 5 = .ok (.aload_n 0, 1) := by decide +kernel
theorem dX5_known_6 : decode cX5_known 6 = .ok (.getfield 85, 3) := by decide +kernel
theorem dX5_known_9 : decode cX5_known 9 = .ok (.if_icmp .ge 44, 3) := by decide +kernel
theorem dX5_known_12 : decode cX5_known 12 = .ok (.iload_n 2, 1) := by decide +kernel
theorem dX5_known_13 : decode cX5_known 13 = .ok (.iload_n 1, 1) := by decide +kernel
theorem dX5_known_14 : decode cX5_known 14 = .ok (.ifCond .eq 12, 3) := by decide +kernel
theorem dX5_known_17 : decode cX5_known 17 = .ok (.aload_n 0, 1) := by decide +kernel
theorem dX5_known_18 : decode cX5_known 18 = .ok (.getfield 47, 3) := by decide +kernel
theorem dX5_known_21 : decode cX5_known 21 = .ok (.iload_n 3, 1) := by decide +kernel
theorem dX5_known_22 : decode cX5_known 22 = .ok (.iaload, 1) := by decide +kernel
theorem dX5_known_23 : decode cX5_known 23 = .ok (.goto 13, 3) := by decide +kernel
theorem dX5_known_26 : decode cX5_known 26 = .ok (.aload_n 0, 1) := by decide +kernel
theorem dX5_known_27 : decode cX5_known 27 = .ok (.aload_n 0, 1) := by decide +kernel
theorem dX5_known_28 : decode cX5_known 28 = .ok (.getfield 28, 3) := by decide +kernel
theorem dX5_known_31 : decode cX5_known 31 = .ok (.iload_n 3, 1) := by decide +kernel
theorem dX5_known_32 : decode cX5_known 32 = .ok (.iaload, 1) := by decide +kernel
theorem dX5_known_33 : decode cX5_known 33 = .ok (.invokevirtual 135, 3) := by decide +kernel
theorem dX5_known_36 : decode cX5_known 36 = .ok (.iconst 2, 1) := by decide +kernel
theorem dX5_known_37 : decode cX5_known 37 = .ok (.if_icmp .ge 7, 3) := by decide +kernel
theorem dX5_known_40 : decode cX5_known 40 = .ok (.iconst 1, 1) := by decide +kernel
theorem dX5_known_41 : decode cX5_known 41 = .ok (.goto 4, 3) := by decide +kernel
theorem dX5_known_44 : decode cX5_known 44 = .ok (.iconst 0, 1) := by decide +kernel
theorem dX5_known_45 : decode cX5_known 45 = .ok (.iadd, 1) := by decide +kernel
theorem dX5_known_46 : decode cX5_known 46 = .ok (.istore_n 2, 1) := by decide +kernel
theorem dX5_known_47 : decode cX5_known 47 = .ok (.iinc 3 1, 3) := by decide +kernel
theorem dX5_known_50 : decode cX5_known 50 = .ok (.goto (-46), 3) := by decide +kernel
theorem dX5_known_53 : decode cX5_known 53 = .ok (.iload_n 2, 1) := by decide +kernel
theorem dX5_known_54 : decode cX5_known 54 = .ok (.ireturn, 1) := by decide +kernel
set_option maxRecDepth 20000 in
theorem ggX5_settle_X5_many : GoodIn wsX5_settle wsX5_many := goodIn_r _ [5, 6, 21, 22, 23, 24, 25, 26, 27, 28, 29, 30, 31, 32, 33, 34, 35, 36, 37, 38, 39, 40, 41, 42, 43, 44] (by decide +kernel) (by decide +kernel)
set_option maxRecDepth 20000 in
theorem gX5_settle_X5_many : GoodIn wsX5_settle (wsV RX5 132 RX5 yX5_many wsX5_many) := goodIn_app (goodIn_of _ (by decide +kernel)) ggX5_settle_X5_many
set_option maxRecDepth 20000 in
theorem ggX5_settle_X5_step : GoodIn wsX5_settle wsX5_step := goodIn_r _ [10, 11, 12, 13, 14, 6, 15, 16, 17, 18, 4, 19, 20, 21, 22, 23, 24, 25, 26, 27, 28, 29, 30, 31, 32, 33, 34, 35, 36, 37, 38, 39, 40, 41, 42, 43, 44] (by decide +kernel) (by decide +kernel)
set_option maxRecDepth 20000 in
theorem gX5_settle_X5_step : GoodIn wsX5_settle (wsV RX5 125 RX5 yX5_step wsX5_step) := goodIn_app (goodIn_of _ (by decide +kernel)) ggX5_settle_X5_step
theorem dX5_settle_0 : decode cX5_settle 0 = .ok (.iconst 0, 1) := by decide +kernel
theorem dX5_settle_1 : decode cX5_settle 1 = .ok (.istore_n 3, 1) := by decide +kernel
theorem dX5_settle_2 : decode cX5_settle 2 = .ok (.iload_n 3, 1) := by decide +kernel
theorem dX5_settle_3 : decode cX5_settle 3 = .ok (.bipush 64, 2) := by decide +kernel
theorem dX5_settle_5 : decode cX5_settle 5 = .ok (.if_icmp .gt 25, 3) := by decide +kernel
theorem dX5_settle_8 : decode cX5_settle 8 = .ok (.aload_n 0, 1) := by decide +kernel
theorem dX5_settle_9 : decode cX5_settle 9 = .ok (.invokevirtual 132, 3) := by decide +kernel
theorem dX5_settle_12 : decode cX5_settle 12 = .ok (.iconst 1, 1) := by decide +kernel
theorem dX5_settle_13 : decode cX5_settle 13 = .ok (.if_icmp .ne 5, 3) := by decide +kernel
theorem dX5_settle_16 : decode cX5_settle 16 = .ok (.iload_n 3, 1) := by decide +kernel
theorem dX5_settle_17 : decode cX5_settle 17 = .ok (.ireturn, 1) := by decide +kernel
theorem dX5_settle_18 : decode cX5_settle 18 = .ok (.aload_n 0, 1) := by decide +kernel
theorem dX5_settle_19 : decode cX5_settle 19 = .ok (.iload_n 1, 1) := by decide +kernel
theorem dX5_settle_20 : decode cX5_settle 20 = .ok (.iload_n 2, 1) := by decide +kernel
theorem dX5_settle_21 : decode cX5_settle 21 = .ok (.invokevirtual 125, 3) := by decide +kernel
theorem dX5_settle_24 : decode cX5_settle 24 = .ok (.iinc 3 1, 3) := by decide +kernel
theorem dX5_settle_27 : decode cX5_settle 27 = .ok (.goto (-25), 3) := by decide +kernel
theorem dX5_settle_30 : decode cX5_settle 30 = .ok (.bipush (-9), 2) := by decide +kernel
theorem dX5_settle_32 : decode cX5_settle 32 = .ok (.ireturn, 1) := by decide +kernel
set_option maxRecDepth 20000 in
theorem ggX5_settles_X5_layLeads : GoodIn wsX5_settles wsX5_layLeads := goodIn_r _ [5, 6, 7, 8, 9, 10, 11, 12, 13, 4, 14, 15, 16, 17, 18, 19, 20, 21, 22, 23, 55, 56, 57, 58, 59, 60, 61, 62, 63, 64, 65, 66, 67, 68, 69, 70, 71, 72, 73, 74, 75, 76, 77, 78] (by decide +kernel) (by decide +kernel)
set_option maxRecDepth 20000 in
theorem gX5_settles_X5_layLeads : GoodIn wsX5_settles (wsV RX5 114 RX5 yX5_layLeads wsX5_layLeads) := goodIn_app (goodIn_of _ (by decide +kernel)) ggX5_settles_X5_layLeads
set_option maxRecDepth 20000 in
theorem ggX5_settles_X5_load : GoodIn wsX5_settles wsX5_load := goodIn_r _ [27, 28, 6, 29, 55, 56, 57, 58, 59, 60, 61, 62, 63, 64, 65, 66, 67, 68, 69, 70, 71, 72, 73, 74, 75, 76, 77, 78] (by decide +kernel) (by decide +kernel)
set_option maxRecDepth 20000 in
theorem gX5_settles_X5_load : GoodIn wsX5_settles (wsV RX5 117 RX5 yX5_load wsX5_load) := goodIn_app (goodIn_of _ (by decide +kernel)) ggX5_settles_X5_load
set_option maxRecDepth 20000 in
theorem ggX5_settles_X5_resets : GoodIn wsX5_settles wsX5_resets := goodIn_r _ [33, 6, 34, 35, 55, 56, 57, 58, 59, 60, 61, 62, 63, 64, 65, 66, 67, 68, 69, 70, 71, 72, 73, 74, 75, 76, 77, 78] (by decide +kernel) (by decide +kernel)
set_option maxRecDepth 20000 in
theorem gX5_settles_X5_resets : GoodIn wsX5_settles (wsV RX5 121 RX5 yX5_resets wsX5_resets) := goodIn_app (goodIn_of _ (by decide +kernel)) ggX5_settles_X5_resets
set_option maxRecDepth 20000 in
theorem ggX5_settles_X5_settle : GoodIn wsX5_settles wsX5_settle := goodIn_r _ [39, 40, 41, 42, 4, 43, 28, 44, 45, 46, 47, 6, 48, 49, 7, 10, 50, 51, 52, 53, 54, 55, 56, 57, 58, 59, 60, 61, 62, 63, 64, 65, 66, 67, 68, 69, 70, 71, 72, 73, 74, 75, 76, 77, 78] (by decide +kernel) (by decide +kernel)
set_option maxRecDepth 20000 in
theorem gX5_settles_X5_settle : GoodIn wsX5_settles (wsV RX5 139 RX5 yX5_settle wsX5_settle) := goodIn_app (goodIn_of _ (by decide +kernel)) ggX5_settles_X5_settle
theorem dX5_settles_0 : decode cX5_settles 0 = .ok (.aload_n 0, 1) := by decide +kernel
theorem dX5_settles_1 : decode cX5_settles 1 = .ok (.invokevirtual 114, 3) := by decide +kernel
theorem dX5_settles_4 : decode cX5_settles 4 = .ok (.aload_n 0, 1) := by decide +kernel
theorem dX5_settles_5 : decode cX5_settles 5 = .ok (.iconst 0, 1) := by decide +kernel
theorem dX5_settles_6 : decode cX5_settles 6 = .ok (.invokevirtual 117, 3) := by decide +kernel
theorem dX5_settles_9 : decode cX5_settles 9 = .ok (.aload_n 0, 1) := by decide +kernel
theorem dX5_settles_10 : decode cX5_settles 10 = .ok (.aload_n 0, 1) := by decide +kernel
theorem dX5_settles_11 : decode cX5_settles 11 = .ok (.invokevirtual 121, 3) := by decide +kernel
theorem dX5_settles_14 : decode cX5_settles 14 = .ok (.iconst 0, 1) := by decide +kernel
theorem dX5_settles_15 : decode cX5_settles 15 = .ok (.invokevirtual 139, 3) := by decide +kernel
theorem dX5_settles_18 : decode cX5_settles 18 = .ok (.ireturn, 1) := by decide +kernel
set_option maxRecDepth 20000 in
theorem ggX5_next_X5_in : GoodIn wsX5_next wsX5_in := goodIn_r _ [9] (by decide +kernel) (by decide +kernel)
set_option maxRecDepth 20000 in
theorem gX5_next_X5_in : GoodIn wsX5_next (va_wsS RX5 78 yX5_in wsX5_in) := goodIn_app (goodIn_of _ (by decide +kernel)) ggX5_next_X5_in
set_option maxRecDepth 20000 in
theorem ggX5_next_X5_layLeads : GoodIn wsX5_next wsX5_layLeads := goodIn_r _ [13, 1, 2, 14, 15, 4, 16, 17, 18, 8, 19, 20, 21, 22, 23, 24, 25, 26, 27, 28, 35, 36, 37, 38, 39, 40, 41, 42, 43, 44, 45, 46, 47, 48, 49, 50, 51, 52, 53, 54, 55, 56, 57, 58] (by decide +kernel) (by decide +kernel)
set_option maxRecDepth 20000 in
theorem gX5_next_X5_layLeads : GoodIn wsX5_next (wsV RX5 114 RX5 yX5_layLeads wsX5_layLeads) := goodIn_app (goodIn_of _ (by decide +kernel)) ggX5_next_X5_layLeads
set_option maxRecDepth 20000 in
theorem ggX5_next_X5_resets : GoodIn wsX5_next wsX5_resets := goodIn_r _ [32, 1, 33, 34, 35, 36, 37, 38, 39, 40, 41, 42, 43, 44, 45, 46, 47, 48, 49, 50, 51, 52, 53, 54, 55, 56, 57, 58] (by decide +kernel) (by decide +kernel)
set_option maxRecDepth 20000 in
theorem gX5_next_X5_resets : GoodIn wsX5_next (wsV RX5 121 RX5 yX5_resets wsX5_resets) := goodIn_app (goodIn_of _ (by decide +kernel)) ggX5_next_X5_resets
theorem dX5_next_0 : decode cX5_next 0 = .ok (.iload_n 1, 1) := by decide +kernel
theorem dX5_next_1 : decode cX5_next 1 = .ok (.iconst 0, 1) := by decide +kernel
theorem dX5_next_2 : decode cX5_next 2 = .ok (.iconst 1, 1) := by decide +kernel
theorem dX5_next_3 : decode cX5_next 3 = .ok (.aload_n 0, 1) := by decide +kernel
theorem dX5_next_4 : decode cX5_next 4 = .ok (.getfield 85, 3) := by decide +kernel
theorem dX5_next_7 : decode cX5_next 7 = .ok (.ishl, 1) := by decide +kernel
theorem dX5_next_8 : decode cX5_next 8 = .ok (.iconst 1, 1) := by decide +kernel
theorem dX5_next_9 : decode cX5_next 9 = .ok (.isub, 1) := by decide +kernel
theorem dX5_next_10 : decode cX5_next 10 = .ok (.invokestatic 78, 3) := by decide +kernel
theorem dX5_next_13 : decode cX5_next 13 = .ok (.ifCond .ne 6, 3) := by decide +kernel
theorem dX5_next_16 : decode cX5_next 16 = .ok (.bipush (-2), 2) := by decide +kernel
theorem dX5_next_18 : decode cX5_next 18 = .ok (.ireturn, 1) := by decide +kernel
theorem dX5_next_19 : decode cX5_next 19 = .ok (.aload_n 0, 1) := by decide +kernel
theorem dX5_next_20 : decode cX5_next 20 = .ok (.invokevirtual 114, 3) := by decide +kernel
theorem dX5_next_23 : decode cX5_next 23 = .ok (.iconst 0, 1) := by decide +kernel
theorem dX5_next_24 : decode cX5_next 24 = .ok (.istore_n 2, 1) := by decide +kernel
theorem dX5_next_25 : decode cX5_next 25 = .ok (.iconst 0, 1) := by decide +kernel
theorem dX5_next_26 : decode cX5_next 26 = .ok (.istore_n 3, 1) := by decide +kernel
theorem dX5_next_27 : decode cX5_next 27 = .ok (.iload_n 3, 1) := by decide +kernel
theorem dX5_next_28 : decode cX5_next 28 = .ok (.aload_n 0, 1) := by decide +kernel
theorem dX5_next_29 : decode cX5_next 29 = .ok (.getfield 88, 3) := by decide +kernel
theorem dX5_next_32 : decode cX5_next 32 = .ok (.if_icmp .ge 29, 3) := by decide +kernel
theorem dX5_next_35 : decode cX5_next 35 = .ok (.iload_n 2, 1) := by decide +kernel
theorem dX5_next_36 : decode cX5_next 36 = .ok (.aload_n 0, 1) := by decide +kernel
theorem dX5_next_37 : decode cX5_next 37 = .ok (.getfield 25, 3) := by decide +kernel
theorem dX5_next_40 : decode cX5_next 40 = .ok (.iload_n 3, 1) := by decide +kernel
theorem dX5_next_41 : decode cX5_next 41 = .ok (.iaload, 1) := by decide +kernel
theorem dX5_next_42 : decode cX5_next 42 = .ok (.iconst 1, 1) := by decide +kernel
theorem dX5_next_43 : decode cX5_next 43 = .ok (.if_icmp .ne 9, 3) := by decide +kernel
theorem dX5_next_46 : decode cX5_next 46 = .ok (.iconst 1, 1) := by decide +kernel
theorem dX5_next_47 : decode cX5_next 47 = .ok (.iload_n 3, 1) := by decide +kernel
theorem dX5_next_48 : decode cX5_next 48 = .ok (.ishl, 1) := by decide +kernel
theorem dX5_next_49 : decode cX5_next 49 = .ok (.goto 4, 3) := by decide +kernel
theorem dX5_next_52 : decode cX5_next 52 = .ok (.iconst 0, 1) := by decide +kernel
theorem dX5_next_53 : decode cX5_next 53 = .ok (.ior, 1) := by decide +kernel
theorem dX5_next_54 : decode cX5_next 54 = .ok (.istore_n 2, 1) := by decide +kernel
theorem dX5_next_55 : decode cX5_next 55 = .ok (.iinc 3 1, 3) := by decide +kernel
theorem dX5_next_58 : decode cX5_next 58 = .ok (.goto (-31), 3) := by decide +kernel
theorem dX5_next_61 : decode cX5_next 61 = .ok (.aload_n 0, 1) := by decide +kernel
theorem dX5_next_62 : decode cX5_next 62 = .ok (.getfield 53, 3) := by decide +kernel
theorem dX5_next_65 : decode cX5_next 65 = .ok (.bipush 16, 2) := by decide +kernel
theorem dX5_next_67 : decode cX5_next 67 = .ok (.iload_n 1, 1) := by decide +kernel
theorem dX5_next_68 : decode cX5_next 68 = .ok (.imul, 1) := by decide +kernel
theorem dX5_next_69 : decode cX5_next 69 = .ok (.iload_n 2, 1) := by decide +kernel
theorem dX5_next_70 : decode cX5_next 70 = .ok (.iadd, 1) := by decide +kernel
theorem dX5_next_71 : decode cX5_next 71 = .ok (.iaload, 1) := by decide +kernel
theorem dX5_next_72 : decode cX5_next 72 = .ok (.istore_n 3, 1) := by decide +kernel
theorem dX5_next_73 : decode cX5_next 73 = .ok (.aload_n 0, 1) := by decide +kernel
theorem dX5_next_74 : decode cX5_next 74 = .ok (.invokevirtual 121, 3) := by decide +kernel
theorem dX5_next_77 : decode cX5_next 77 = .ok (.istore 4, 2) := by decide +kernel
theorem dX5_next_79 : decode cX5_next 79 = .ok (.iconst 0, 1) := by decide +kernel
theorem dX5_next_80 : decode cX5_next 80 = .ok (.istore 5, 2) := by decide +kernel
theorem dX5_next_82 : decode cX5_next 82 = .ok (.iload 5, 2) := by decide +kernel
theorem dX5_next_84 : decode cX5_next 84 = .ok (.aload_n 0, 1) := by decide +kernel
theorem dX5_next_85 : decode cX5_next 85 = .ok (.getfield 85, 3) := by decide +kernel
theorem dX5_next_88 : decode cX5_next 88 = .ok (.if_icmp .ge 40, 3) := by decide +kernel
theorem dX5_next_91 : decode cX5_next 91 = .ok (.iload 4, 2) := by decide +kernel
theorem dX5_next_93 : decode cX5_next 93 = .ok (.iload 5, 2) := by decide +kernel
theorem dX5_next_95 : decode cX5_next 95 = .ok (.ishr, 1) := by decide +kernel
theorem dX5_next_96 : decode cX5_next 96 = .ok (.iconst 1, 1) := by decide +kernel
theorem dX5_next_97 : decode cX5_next 97 = .ok (.iand, 1) := by decide +kernel
theorem dX5_next_98 : decode cX5_next 98 = .ok (.iconst 1, 1) := by decide +kernel
theorem dX5_next_99 : decode cX5_next 99 = .ok (.if_icmp .ne 23, 3) := by decide +kernel
theorem dX5_next_102 : decode cX5_next 102 = .ok (.iload_n 3, 1) := by decide +kernel
theorem dX5_next_103 : decode cX5_next 103 = .ok (.iconst 1, 1) := by decide +kernel
theorem dX5_next_104 : decode cX5_next 104 = .ok (.iload 5, 2) := by decide +kernel
theorem dX5_next_106 : decode cX5_next 106 = .ok (.ishl, 1) := by decide +kernel
theorem dX5_next_107 : decode cX5_next 107 = .ok (.iconst (-1), 1) := by decide +kernel
theorem dX5_next_108 : decode cX5_next 108 = .ok (.ixor, 1) := by decide +kernel
theorem dX5_next_109 : decode cX5_next 109 = .ok (.iand, 1) := by decide +kernel
theorem dX5_next_110 : decode cX5_next 110 = .ok (.aload_n 0, 1) := by decide +kernel
theorem dX5_next_111 : decode cX5_next 111 = .ok (.getfield 34, 3) := by decide +kernel
theorem dX5_next_114 : decode cX5_next 114 = .ok (.iload 5, 2) := by decide +kernel
theorem dX5_next_116 : decode cX5_next 116 = .ok (.iaload, 1) := by decide +kernel
theorem dX5_next_117 : decode cX5_next 117 = .ok (.iload 5, 2) := by decide +kernel
theorem dX5_next_119 : decode cX5_next 119 = .ok (.ishl, 1) := by decide +kernel
theorem dX5_next_120 : decode cX5_next 120 = .ok (.ior, 1) := by decide +kernel
theorem dX5_next_121 : decode cX5_next 121 = .ok (.istore_n 3, 1) := by decide +kernel
theorem dX5_next_122 : decode cX5_next 122 = .ok (.iinc 5 1, 3) := by decide +kernel
theorem dX5_next_125 : decode cX5_next 125 = .ok (.goto (-43), 3) := by decide +kernel
theorem dX5_next_128 : decode cX5_next 128 = .ok (.iload_n 3, 1) := by decide +kernel
theorem dX5_next_129 : decode cX5_next 129 = .ok (.ireturn, 1) := by decide +kernel
theorem dX5_layLeans_0 : decode cX5_layLeans 0 = .ok (.iconst 0, 1) := by decide +kernel
theorem dX5_layLeans_1 : decode cX5_layLeans 1 = .ok (.istore_n 1, 1) := by decide +kernel
theorem dX5_layLeans_2 : decode cX5_layLeans 2 = .ok (.iload_n 1, 1) := by decide +kernel
theorem dX5_layLeans_3 : decode cX5_layLeans 3 = .ok (.aload_n 0, 1) := by decide +kernel
theorem dX5_layLeans_4 : decode cX5_layLeans 4 = .ok (.getfield 74, 3) := by decide +kernel
theorem dX5_layLeans_7 : decode cX5_layLeans 7 = .ok (.if_icmp .ge 85, 3) := by decide +kernel
theorem dX5_layLeans_10 : decode cX5_layLeans 10 = .ok (.aload_n 0, 1) := by decide +kernel
theorem dX5_layLeans_11 : decode cX5_layLeans 11 = .ok (.getfield 62, 3) := by decide +kernel
theorem dX5_layLeans_14 : decode cX5_layLeans 14 = .ok (.iload_n 1, 1) := by decide +kernel
theorem dX5_layLeans_15 : decode cX5_layLeans 15 = .ok (.aload_n 0, 1) := by decide +kernel
theorem dX5_layLeans_16 : decode cX5_layLeans 16 = .ok (.getfield 7, 3) := by decide +kernel
theorem dX5_layLeans_19 : decode cX5_layLeans 19 = .ok (.iload_n 1, 1) := by decide +kernel
theorem dX5_layLeans_20 : decode cX5_layLeans 20 = .ok (.iaload, 1) := by decide +kernel
theorem dX5_layLeans_21 : decode cX5_layLeans 21 = .ok (.iconst 3, 1) := by decide +kernel
theorem dX5_layLeans_22 : decode cX5_layLeans 22 = .ok (.if_icmp .ne 14, 3) := by decide +kernel
theorem dX5_layLeans_25 : decode cX5_layLeans 25 = .ok (.iconst 1, 1) := by decide +kernel
theorem dX5_layLeans_26 : decode cX5_layLeans 26 = .ok (.aload_n 0, 1) := by decide +kernel
theorem dX5_layLeans_27 : decode cX5_layLeans 27 = .ok (.getfield 13, 3) := by decide +kernel
theorem dX5_layLeans_30 : decode cX5_layLeans 30 = .ok (.iload_n 1, 1) := by decide +kernel
theorem dX5_layLeans_31 : decode cX5_layLeans 31 = .ok (.iaload, 1) := by decide +kernel
theorem dX5_layLeans_32 : decode cX5_layLeans 32 = .ok (.ishl, 1) := by decide +kernel
theorem dX5_layLeans_33 : decode cX5_layLeans 33 = .ok (.goto 52, 3) := by decide +kernel
theorem dX5_layLeans_36 : decode cX5_layLeans 36 = .ok (.aload_n 0, 1) := by decide +kernel
theorem dX5_layLeans_37 : decode cX5_layLeans 37 = .ok (.getfield 7, 3) := by decide +kernel
theorem dX5_layLeans_40 : decode cX5_layLeans 40 = .ok (.iload_n 1, 1) := by decide +kernel
theorem dX5_layLeans_41 : decode cX5_layLeans 41 = .ok (.iaload, 1) := by decide +kernel
theorem dX5_layLeans_42 : decode cX5_layLeans 42 = .ok (.iconst 2, 1) := by decide +kernel
theorem dX5_layLeans_43 : decode cX5_layLeans 43 = .ok (.if_icmp .ne 41, 3) := by decide +kernel
theorem dX5_layLeans_46 : decode cX5_layLeans 46 = .ok (.aload_n 0, 1) := by decide +kernel
theorem dX5_layLeans_47 : decode cX5_layLeans 47 = .ok (.getfield 62, 3) := by decide +kernel
theorem dX5_layLeans_50 : decode cX5_layLeans 50 = .ok (.aload_n 0, 1) := by decide +kernel
theorem dX5_layLeans_51 : decode cX5_layLeans 51 = .ok (.getfield 16, 3) := by decide +kernel
theorem dX5_layLeans_54 : decode cX5_layLeans 54 = .ok (.iload_n 1, 1) := by decide +kernel
theorem dX5_layLeans_55 : decode cX5_layLeans 55 = .ok (.iaload, 1) := by decide +kernel
theorem dX5_layLeans_56 : decode cX5_layLeans 56 = .ok (.iaload, 1) := by decide +kernel
theorem dX5_layLeans_57 : decode cX5_layLeans 57 = .ok (.aload_n 0, 1) := by decide +kernel
theorem dX5_layLeans_58 : decode cX5_layLeans 58 = .ok (.getfield 62, 3) := by decide +kernel
theorem dX5_layLeans_61 : decode cX5_layLeans 61 = .ok (.aload_n 0, 1) := by decide +kernel
theorem dX5_layLeans_62 : decode cX5_layLeans 62 = .ok (.getfield 19, 3) := by decide +kernel
theorem dX5_layLeans_65 : decode cX5_layLeans 65 = .ok (.iload_n 1, 1) := by decide +kernel
theorem dX5_layLeans_66 : decode cX5_layLeans 66 = .ok (.iaload, 1) := by decide +kernel
theorem dX5_layLeans_67 : decode cX5_layLeans 67 = .ok (.iaload, 1) := by decide +kernel
theorem dX5_layLeans_68 : decode cX5_layLeans 68 = .ok (.ior, 1) := by decide +kernel
theorem dX5_layLeans_69 : decode cX5_layLeans 69 = .ok (.aload_n 0, 1) := by decide +kernel
theorem dX5_layLeans_70 : decode cX5_layLeans 70 = .ok (.getfield 62, 3) := by decide +kernel
theorem dX5_layLeans_73 : decode cX5_layLeans 73 = .ok (.aload_n 0, 1) := by decide +kernel
theorem dX5_layLeans_74 : decode cX5_layLeans 74 = .ok (.getfield 22, 3) := by decide +kernel
theorem dX5_layLeans_77 : decode cX5_layLeans 77 = .ok (.iload_n 1, 1) := by decide +kernel
theorem dX5_layLeans_78 : decode cX5_layLeans 78 = .ok (.iaload, 1) := by decide +kernel
theorem dX5_layLeans_79 : decode cX5_layLeans 79 = .ok (.iaload, 1) := by decide +kernel
theorem dX5_layLeans_80 : decode cX5_layLeans 80 = .ok (.ior, 1) := by decide +kernel
theorem dX5_layLeans_81 : decode cX5_layLeans 81 = .ok (.goto 4, 3) := by decide +kernel
theorem dX5_layLeans_84 : decode cX5_layLeans 84 = .ok (.iconst 0, 1) := by decide +kernel
theorem dX5_layLeans_85 : decode cX5_layLeans 85 = .ok (.iastore, 1) := by decide +kernel
theorem dX5_layLeans_86 : decode cX5_layLeans 86 = .ok (.iinc 1 1, 3) := by decide +kernel
theorem dX5_layLeans_89 : decode cX5_layLeans 89 = .ok (.goto (-87), 3) := by decide +kernel
theorem dX5_layLeans_92 : decode cX5_layLeans 92 = .ok (.return_, 1) := by decide +kernel
set_option maxRecDepth 20000 in
theorem ggX5_depends_X5_isNode : GoodIn wsX5_depends wsX5_isNode := goodIn_r _ [9, 10, 11, 12, 8, 13, 21, 22, 23, 24, 25, 26, 27, 28, 29, 30, 31, 32, 33, 34, 35, 36, 37, 38, 39, 40, 41, 42, 43, 44] (by decide +kernel) (by decide +kernel)
set_option maxRecDepth 20000 in
theorem gX5_depends_X5_isNode : GoodIn wsX5_depends (wsV RX5 95 RX5 yX5_isNode wsX5_isNode) := goodIn_app (goodIn_of _ (by decide +kernel)) ggX5_depends_X5_isNode
set_option maxRecDepth 20000 in
theorem ggX5_depends_X5_layLeans : GoodIn wsX5_depends wsX5_layLeans := goodIn_r _ [17, 10, 2, 1, 4, 18, 19, 20, 21, 22, 23, 24, 25, 26, 27, 28, 29, 30, 31, 32, 33, 34, 35, 36, 37, 38, 39, 40, 41, 42, 43, 44] (by decide +kernel) (by decide +kernel)
set_option maxRecDepth 20000 in
theorem gX5_depends_X5_layLeans : GoodIn wsX5_depends (wsV RX5 143 RX5 yX5_layLeans wsX5_layLeans) := goodIn_app (goodIn_of _ (by decide +kernel)) ggX5_depends_X5_layLeans
theorem dX5_depends_0 : decode cX5_depends 0 = .ok (.aload_n 0, 1) := by decide +kernel
theorem dX5_depends_1 : decode cX5_depends 1 = .ok (.iload_n 1, 1) := by decide +kernel
theorem dX5_depends_2 : decode cX5_depends 2 = .ok (.invokevirtual 95, 3) := by decide +kernel
theorem dX5_depends_5 : decode cX5_depends 5 = .ok (.ifCond .eq 11, 3) := by decide +kernel
theorem dX5_depends_8 : decode cX5_depends 8 = .ok (.aload_n 0, 1) := by decide +kernel
theorem dX5_depends_9 : decode cX5_depends 9 = .ok (.iload_n 2, 1) := by decide +kernel
theorem dX5_depends_10 : decode cX5_depends 10 = .ok (.invokevirtual 95, 3) := by decide +kernel
theorem dX5_depends_13 : decode cX5_depends 13 = .ok (.ifCond .ne 5, 3) := by decide +kernel
theorem dX5_depends_16 : decode cX5_depends 16 = .ok (.iconst (-1), 1) := by decide +kernel
theorem dX5_depends_17 : decode cX5_depends 17 = .ok (.ireturn, 1) := by decide +kernel
theorem dX5_depends_18 : decode cX5_depends 18 = .ok (.aload_n 0, 1) := by decide +kernel
theorem dX5_depends_19 : decode cX5_depends 19 = .ok (.getfield 7, 3) := by decide +kernel
theorem dX5_depends_22 : decode cX5_depends 22 = .ok (.iload_n 1, 1) := by decide +kernel
theorem dX5_depends_23 : decode cX5_depends 23 = .ok (.iaload, 1) := by decide +kernel
theorem dX5_depends_24 : decode cX5_depends 24 = .ok (.iconst 3, 1) := by decide +kernel
theorem dX5_depends_25 : decode cX5_depends 25 = .ok (.if_icmp .ne 13, 3) := by decide +kernel
theorem dX5_depends_28 : decode cX5_depends 28 = .ok (.aload_n 0, 1) := by decide +kernel
theorem dX5_depends_29 : decode cX5_depends 29 = .ok (.getfield 7, 3) := by decide +kernel
theorem dX5_depends_32 : decode cX5_depends 32 = .ok (.iload_n 2, 1) := by decide +kernel
theorem dX5_depends_33 : decode cX5_depends 33 = .ok (.iaload, 1) := by decide +kernel
theorem dX5_depends_34 : decode cX5_depends 34 = .ok (.iconst 3, 1) := by decide +kernel
theorem dX5_depends_35 : decode cX5_depends 35 = .ok (.if_icmp .eq 6, 3) := by decide +kernel
theorem dX5_depends_38 : decode cX5_depends 38 = .ok (.bipush (-3), 2) := by decide +kernel
theorem dX5_depends_40 : decode cX5_depends 40 = .ok (.ireturn, 1) := by decide +kernel
theorem dX5_depends_41 : decode cX5_depends 41 = .ok (.aload_n 0, 1) := by decide +kernel
theorem dX5_depends_42 : decode cX5_depends 42 = .ok (.invokevirtual 143, 3) := by decide +kernel
theorem dX5_depends_45 : decode cX5_depends 45 = .ok (.aload_n 0, 1) := by decide +kernel
theorem dX5_depends_46 : decode cX5_depends 46 = .ok (.getfield 62, 3) := by decide +kernel
theorem dX5_depends_49 : decode cX5_depends 49 = .ok (.aload_n 0, 1) := by decide +kernel
theorem dX5_depends_50 : decode cX5_depends 50 = .ok (.getfield 37, 3) := by decide +kernel
theorem dX5_depends_53 : decode cX5_depends 53 = .ok (.aload_n 0, 1) := by decide +kernel
theorem dX5_depends_54 : decode cX5_depends 54 = .ok (.getfield 13, 3) := by decide +kernel
theorem dX5_depends_57 : decode cX5_depends 57 = .ok (.iload_n 1, 1) := by decide +kernel
theorem dX5_depends_58 : decode cX5_depends 58 = .ok (.iaload, 1) := by decide +kernel
theorem dX5_depends_59 : decode cX5_depends 59 = .ok (.iaload, 1) := by decide +kernel
theorem dX5_depends_60 : decode cX5_depends 60 = .ok (.iaload, 1) := by decide +kernel
theorem dX5_depends_61 : decode cX5_depends 61 = .ok (.aload_n 0, 1) := by decide +kernel
theorem dX5_depends_62 : decode cX5_depends 62 = .ok (.getfield 13, 3) := by decide +kernel
theorem dX5_depends_65 : decode cX5_depends 65 = .ok (.iload_n 2, 1) := by decide +kernel
theorem dX5_depends_66 : decode cX5_depends 66 = .ok (.iaload, 1) := by decide +kernel
theorem dX5_depends_67 : decode cX5_depends 67 = .ok (.ishr, 1) := by decide +kernel
theorem dX5_depends_68 : decode cX5_depends 68 = .ok (.iconst 1, 1) := by decide +kernel
theorem dX5_depends_69 : decode cX5_depends 69 = .ok (.iand, 1) := by decide +kernel
theorem dX5_depends_70 : decode cX5_depends 70 = .ok (.ireturn, 1) := by decide +kernel
set_option maxRecDepth 20000 in
theorem ggX5_cross_X5_layLeans : GoodIn wsX5_cross wsX5_layLeans := goodIn_r _ [10, 11, 3, 12, 13, 14, 15, 16, 17, 18, 19, 20, 21, 22, 23, 24, 25, 26, 27, 28, 29, 30, 31, 32, 33, 34, 35, 36, 37, 38, 39, 40] (by decide +kernel) (by decide +kernel)
set_option maxRecDepth 20000 in
theorem gX5_cross_X5_layLeans : GoodIn wsX5_cross (wsV RX5 143 RX5 yX5_layLeans wsX5_layLeans) := goodIn_app (goodIn_of _ (by decide +kernel)) ggX5_cross_X5_layLeans
theorem dX5_cross_0 : decode cX5_cross 0 = .ok (.aload_n 0, 1) := by decide +kernel
theorem dX5_cross_1 : decode cX5_cross 1 = .ok (.invokevirtual 143, 3) := by decide +kernel
theorem dX5_cross_4 : decode cX5_cross 4 = .ok (.iconst 0, 1) := by decide +kernel
theorem dX5_cross_5 : decode cX5_cross 5 = .ok (.istore_n 2, 1) := by decide +kernel
theorem dX5_cross_6 : decode cX5_cross 6 = .ok (.iconst 0, 1) := by decide +kernel
theorem dX5_cross_7 : decode cX5_cross 7 = .ok (.istore_n 3, 1) := by decide +kernel
theorem dX5_cross_8 : decode cX5_cross 8 = .ok (.iload_n 3, 1) := by decide +kernel
theorem dX5_cross_9 : decode cX5_cross 9 = .ok (.aload_n 0, 1) := by decide +kernel
theorem dX5_cross_10 : decode cX5_cross 10 = .ok (.getfield 85, 3) := by decide +kernel
theorem dX5_cross_13 : decode cX5_cross 13 = .ok (.if_icmp .ge 89, 3) := by decide +kernel
theorem dX5_cross_16 : decode cX5_cross 16 = .ok (.iconst 0, 1) := by decide +kernel
theorem dX5_cross_17 : decode cX5_cross 17 = .ok (.istore 4, 2) := by decide +kernel
theorem dX5_cross_19 : decode cX5_cross 19 = .ok (.iload 4, 2) := by decide +kernel
theorem dX5_cross_21 : decode cX5_cross 21 = .ok (.aload_n 0, 1) := by decide +kernel
theorem dX5_cross_22 : decode cX5_cross 22 = .ok (.getfield 85, 3) := by decide +kernel
theorem dX5_cross_25 : decode cX5_cross 25 = .ok (.if_icmp .ge 71, 3) := by decide +kernel
theorem dX5_cross_28 : decode cX5_cross 28 = .ok (.aload_n 0, 1) := by decide +kernel
theorem dX5_cross_29 : decode cX5_cross 29 = .ok (.getfield 31, 3) := by decide +kernel
theorem dX5_cross_32 : decode cX5_cross 32 = .ok (.iload_n 3, 1) := by decide +kernel
theorem dX5_cross_33 : decode cX5_cross 33 = .ok (.iaload, 1) := by decide +kernel
theorem dX5_cross_34 : decode cX5_cross 34 = .ok (.aload_n 0, 1) := by decide +kernel
theorem dX5_cross_35 : decode cX5_cross 35 = .ok (.getfield 31, 3) := by decide +kernel
theorem dX5_cross_38 : decode cX5_cross 38 = .ok (.iload 4, 2) := by decide +kernel
theorem dX5_cross_40 : decode cX5_cross 40 = .ok (.iaload, 1) := by decide +kernel
theorem dX5_cross_41 : decode cX5_cross 41 = .ok (.if_icmp .eq 49, 3) := by decide +kernel
theorem dX5_cross_44 : decode cX5_cross 44 = .ok (.aload_n 0, 1) := by decide +kernel
theorem dX5_cross_45 : decode cX5_cross 45 = .ok (.getfield 62, 3) := by decide +kernel
theorem dX5_cross_48 : decode cX5_cross 48 = .ok (.aload_n 0, 1) := by decide +kernel
theorem dX5_cross_49 : decode cX5_cross 49 = .ok (.getfield 37, 3) := by decide +kernel
theorem dX5_cross_52 : decode cX5_cross 52 = .ok (.iload 4, 2) := by decide +kernel
theorem dX5_cross_54 : decode cX5_cross 54 = .ok (.iaload, 1) := by decide +kernel
theorem dX5_cross_55 : decode cX5_cross 55 = .ok (.iaload, 1) := by decide +kernel
theorem dX5_cross_56 : decode cX5_cross 56 = .ok (.iload_n 3, 1) := by decide +kernel
theorem dX5_cross_57 : decode cX5_cross 57 = .ok (.ishr, 1) := by decide +kernel
theorem dX5_cross_58 : decode cX5_cross 58 = .ok (.iconst 1, 1) := by decide +kernel
theorem dX5_cross_59 : decode cX5_cross 59 = .ok (.iand, 1) := by decide +kernel
theorem dX5_cross_60 : decode cX5_cross 60 = .ok (.iconst 1, 1) := by decide +kernel
theorem dX5_cross_61 : decode cX5_cross 61 = .ok (.if_icmp .ne 29, 3) := by decide +kernel
theorem dX5_cross_64 : decode cX5_cross 64 = .ok (.iload_n 2, 1) := by decide +kernel
theorem dX5_cross_65 : decode cX5_cross 65 = .ok (.iload_n 1, 1) := by decide +kernel
theorem dX5_cross_66 : decode cX5_cross 66 = .ok (.if_icmp .ne 21, 3) := by decide +kernel
theorem dX5_cross_69 : decode cX5_cross 69 = .ok (.bipush 100, 2) := by decide +kernel
theorem dX5_cross_71 : decode cX5_cross 71 = .ok (.aload_n 0, 1) := by decide +kernel
theorem dX5_cross_72 : decode cX5_cross 72 = .ok (.getfield 28, 3) := by decide +kernel
theorem dX5_cross_75 : decode cX5_cross 75 = .ok (.iload_n 3, 1) := by decide +kernel
theorem dX5_cross_76 : decode cX5_cross 76 = .ok (.iaload, 1) := by decide +kernel
theorem dX5_cross_77 : decode cX5_cross 77 = .ok (.imul, 1) := by decide +kernel
theorem dX5_cross_78 : decode cX5_cross 78 = .ok (.aload_n 0, 1) := by decide +kernel
theorem dX5_cross_79 : decode cX5_cross 79 = .ok (.getfield 28, 3) := by decide +kernel
theorem dX5_cross_82 : decode cX5_cross 82 = .ok (.iload 4, 2) := by decide +kernel
theorem dX5_cross_84 : decode cX5_cross 84 = .ok (.iaload, 1) := by decide +kernel
theorem dX5_cross_85 : decode cX5_cross 85 = .ok (.iadd, 1) := by decide +kernel
theorem dX5_cross_86 : decode cX5_cross 86 = .ok (.ireturn, 1) := by decide +kernel
theorem dX5_cross_87 : decode cX5_cross 87 = .ok (.iinc 2 1, 3) := by decide +kernel
theorem dX5_cross_90 : decode cX5_cross 90 = .ok (.iinc 4 1, 3) := by decide +kernel
theorem dX5_cross_93 : decode cX5_cross 93 = .ok (.goto (-74), 3) := by decide +kernel
theorem dX5_cross_96 : decode cX5_cross 96 = .ok (.iinc 3 1, 3) := by decide +kernel
theorem dX5_cross_99 : decode cX5_cross 99 = .ok (.goto (-91), 3) := by decide +kernel
theorem dX5_cross_102 : decode cX5_cross 102 = .ok (.iload_n 1, 1) := by decide +kernel
theorem dX5_cross_103 : decode cX5_cross 103 = .ok (.ifCond .ge 7, 3) := by decide +kernel
theorem dX5_cross_106 : decode cX5_cross 106 = .ok (.iload_n 2, 1) := by decide +kernel
theorem dX5_cross_107 : decode cX5_cross 107 = .ok (.goto 5, 3) := by decide +kernel
theorem dX5_cross_110 : decode cX5_cross 110 = .ok (.bipush (-9), 2) := by decide +kernel
theorem dX5_cross_112 : decode cX5_cross 112 = .ok (.ireturn, 1) := by decide +kernel
set_option maxRecDepth 20000 in
theorem ggX5_crossings_X5_cross : GoodIn wsX5_crossings wsX5_cross := goodIn_r _ [5, 6, 7, 8, 9, 10, 11, 12, 13, 4, 14, 15, 16, 17, 18, 19, 20, 21, 22, 23, 24, 25, 26, 27, 28, 29, 30, 31, 32, 33, 34, 35, 36, 37, 38, 39, 40, 41, 42, 43, 44] (by decide +kernel) (by decide +kernel)
set_option maxRecDepth 20000 in
theorem gX5_crossings_X5_cross : GoodIn wsX5_crossings (wsV RX5 146 RX5 yX5_cross wsX5_cross) := goodIn_app (goodIn_of _ (by decide +kernel)) ggX5_crossings_X5_cross
theorem dX5_crossings_0 : decode cX5_crossings 0 = .ok (.aload_n 0, 1) := by decide +kernel
theorem dX5_crossings_1 : decode cX5_crossings 1 = .ok (.iconst (-1), 1) := by decide +kernel
theorem dX5_crossings_2 : decode cX5_crossings 2 = .ok (.invokevirtual 146, 3) := by decide +kernel
theorem dX5_crossings_5 : decode cX5_crossings 5 = .ok (.ireturn, 1) := by decide +kernel
set_option maxRecDepth 20000 in
theorem ggX5_crossing_X5_cross : GoodIn wsX5_crossing wsX5_cross := goodIn_r _ [5, 6, 7, 8, 9, 10, 11, 12, 13, 4, 14, 15, 16, 17, 18, 19, 20, 21, 22, 23, 24, 25, 26, 27, 28, 29, 30, 31, 32, 33, 34, 35, 36, 37, 38, 39, 40, 41, 42, 43, 44] (by decide +kernel) (by decide +kernel)
set_option maxRecDepth 20000 in
theorem gX5_crossing_X5_cross : GoodIn wsX5_crossing (wsV RX5 146 RX5 yX5_cross wsX5_cross) := goodIn_app (goodIn_of _ (by decide +kernel)) ggX5_crossing_X5_cross
theorem dX5_crossing_0 : decode cX5_crossing 0 = .ok (.iload_n 1, 1) := by decide +kernel
theorem dX5_crossing_1 : decode cX5_crossing 1 = .ok (.ifCond .ge 8, 3) := by decide +kernel
theorem dX5_crossing_4 : decode cX5_crossing 4 = .ok (.bipush (-9), 2) := by decide +kernel
theorem dX5_crossing_6 : decode cX5_crossing 6 = .ok (.goto 8, 3) := by decide +kernel
theorem dX5_crossing_9 : decode cX5_crossing 9 = .ok (.aload_n 0, 1) := by decide +kernel
theorem dX5_crossing_10 : decode cX5_crossing 10 = .ok (.iload_n 1, 1) := by decide +kernel
theorem dX5_crossing_11 : decode cX5_crossing 11 = .ok (.invokevirtual 146, 3) := by decide +kernel
theorem dX5_crossing_14 : decode cX5_crossing 14 = .ok (.ireturn, 1) := by decide +kernel
set_option maxRecDepth 20000 in
theorem ggX5_alone_X5_in : GoodIn wsX5_alone wsX5_in := goodIn_r _ [6] (by decide +kernel) (by decide +kernel)
set_option maxRecDepth 20000 in
theorem gX5_alone_X5_in : GoodIn wsX5_alone (va_wsS RX5 78 yX5_in wsX5_in) := goodIn_app (goodIn_of _ (by decide +kernel)) ggX5_alone_X5_in
set_option maxRecDepth 20000 in
theorem ggX5_alone_X5_layLeads : GoodIn wsX5_alone wsX5_layLeads := goodIn_r _ [10, 1, 11, 12, 13, 14, 15, 16, 17, 5, 18, 19, 20, 21, 22, 23, 24, 25, 26, 27, 53, 54, 55, 56, 57, 58, 59, 60, 61, 62, 63, 64, 65, 66, 67, 68, 69, 70, 71, 72, 73, 74, 75, 76] (by decide +kernel) (by decide +kernel)
set_option maxRecDepth 20000 in
theorem gX5_alone_X5_layLeads : GoodIn wsX5_alone (wsV RX5 114 RX5 yX5_layLeads wsX5_layLeads) := goodIn_app (goodIn_of _ (by decide +kernel)) ggX5_alone_X5_layLeads
set_option maxRecDepth 20000 in
theorem ggX5_alone_X5_load : GoodIn wsX5_alone wsX5_load := goodIn_r _ [31, 32, 1, 33, 53, 54, 55, 56, 57, 58, 59, 60, 61, 62, 63, 64, 65, 66, 67, 68, 69, 70, 71, 72, 73, 74, 75, 76] (by decide +kernel) (by decide +kernel)
set_option maxRecDepth 20000 in
theorem gX5_alone_X5_load : GoodIn wsX5_alone (wsV RX5 117 RX5 yX5_load wsX5_load) := goodIn_app (goodIn_of _ (by decide +kernel)) ggX5_alone_X5_load
set_option maxRecDepth 20000 in
theorem ggX5_alone_X5_settle : GoodIn wsX5_alone wsX5_settle := goodIn_r _ [37, 38, 39, 40, 5, 41, 32, 42, 43, 44, 45, 1, 46, 47, 11, 14, 48, 49, 50, 51, 52, 53, 54, 55, 56, 57, 58, 59, 60, 61, 62, 63, 64, 65, 66, 67, 68, 69, 70, 71, 72, 73, 74, 75, 76] (by decide +kernel) (by decide +kernel)
set_option maxRecDepth 20000 in
theorem gX5_alone_X5_settle : GoodIn wsX5_alone (wsV RX5 139 RX5 yX5_settle wsX5_settle) := goodIn_app (goodIn_of _ (by decide +kernel)) ggX5_alone_X5_settle
theorem dX5_alone_0 : decode cX5_alone 0 = .ok (.iload_n 1, 1) := by decide +kernel
theorem dX5_alone_1 : decode cX5_alone 1 = .ok (.iconst 0, 1) := by decide +kernel
theorem dX5_alone_2 : decode cX5_alone 2 = .ok (.iconst 3, 1) := by decide +kernel
theorem dX5_alone_3 : decode cX5_alone 3 = .ok (.invokestatic 78, 3) := by decide +kernel
theorem dX5_alone_6 : decode cX5_alone 6 = .ok (.ifCond .ne 5, 3) := by decide +kernel
theorem dX5_alone_9 : decode cX5_alone 9 = .ok (.iconst (-1), 1) := by decide +kernel
theorem dX5_alone_10 : decode cX5_alone 10 = .ok (.ireturn, 1) := by decide +kernel
theorem dX5_alone_11 : decode cX5_alone 11 = .ok (.aload_n 0, 1) := by decide +kernel
theorem dX5_alone_12 : decode cX5_alone 12 = .ok (.invokevirtual 114, 3) := by decide +kernel
theorem dX5_alone_15 : decode cX5_alone 15 = .ok (.aload_n 0, 1) := by decide +kernel
theorem dX5_alone_16 : decode cX5_alone 16 = .ok (.iconst 1, 1) := by decide +kernel
theorem dX5_alone_17 : decode cX5_alone 17 = .ok (.invokevirtual 117, 3) := by decide +kernel
theorem dX5_alone_20 : decode cX5_alone 20 = .ok (.iconst 0, 1) := by decide +kernel
theorem dX5_alone_21 : decode cX5_alone 21 = .ok (.istore_n 2, 1) := by decide +kernel
theorem dX5_alone_22 : decode cX5_alone 22 = .ok (.iconst 0, 1) := by decide +kernel
theorem dX5_alone_23 : decode cX5_alone 23 = .ok (.istore_n 3, 1) := by decide +kernel
theorem dX5_alone_24 : decode cX5_alone 24 = .ok (.iload_n 3, 1) := by decide +kernel
theorem dX5_alone_25 : decode cX5_alone 25 = .ok (.aload_n 0, 1) := by decide +kernel
theorem dX5_alone_26 : decode cX5_alone 26 = .ok (.getfield 85, 3) := by decide +kernel
theorem dX5_alone_29 : decode cX5_alone 29 = .ok (.if_icmp .ge 29, 3) := by decide +kernel
theorem dX5_alone_32 : decode cX5_alone 32 = .ok (.iload_n 2, 1) := by decide +kernel
theorem dX5_alone_33 : decode cX5_alone 33 = .ok (.aload_n 0, 1) := by decide +kernel
theorem dX5_alone_34 : decode cX5_alone 34 = .ok (.getfield 31, 3) := by decide +kernel
theorem dX5_alone_37 : decode cX5_alone 37 = .ok (.iload_n 3, 1) := by decide +kernel
theorem dX5_alone_38 : decode cX5_alone 38 = .ok (.iaload, 1) := by decide +kernel
theorem dX5_alone_39 : decode cX5_alone 39 = .ok (.iload_n 1, 1) := by decide +kernel
theorem dX5_alone_40 : decode cX5_alone 40 = .ok (.if_icmp .ne 9, 3) := by decide +kernel
theorem dX5_alone_43 : decode cX5_alone 43 = .ok (.iconst 1, 1) := by decide +kernel
theorem dX5_alone_44 : decode cX5_alone 44 = .ok (.iload_n 3, 1) := by decide +kernel
theorem dX5_alone_45 : decode cX5_alone 45 = .ok (.ishl, 1) := by decide +kernel
theorem dX5_alone_46 : decode cX5_alone 46 = .ok (.goto 4, 3) := by decide +kernel
theorem dX5_alone_49 : decode cX5_alone 49 = .ok (.iconst 0, 1) := by decide +kernel
theorem dX5_alone_50 : decode cX5_alone 50 = .ok (.ior, 1) := by decide +kernel
theorem dX5_alone_51 : decode cX5_alone 51 = .ok (.istore_n 2, 1) := by decide +kernel
theorem dX5_alone_52 : decode cX5_alone 52 = .ok (.iinc 3 1, 3) := by decide +kernel
theorem dX5_alone_55 : decode cX5_alone 55 = .ok (.goto (-31), 3) := by decide +kernel
theorem dX5_alone_58 : decode cX5_alone 58 = .ok (.aload_n 0, 1) := by decide +kernel
theorem dX5_alone_59 : decode cX5_alone 59 = .ok (.iload_n 2, 1) := by decide +kernel
theorem dX5_alone_60 : decode cX5_alone 60 = .ok (.iconst 1, 1) := by decide +kernel
theorem dX5_alone_61 : decode cX5_alone 61 = .ok (.invokevirtual 139, 3) := by decide +kernel
theorem dX5_alone_64 : decode cX5_alone 64 = .ok (.ireturn, 1) := by decide +kernel
theorem dX5_ones_0 : decode cX5_ones 0 = .ok (.iconst 0, 1) := by decide +kernel
theorem dX5_ones_1 : decode cX5_ones 1 = .ok (.istore_n 1, 1) := by decide +kernel
theorem dX5_ones_2 : decode cX5_ones 2 = .ok (.iconst 0, 1) := by decide +kernel
theorem dX5_ones_3 : decode cX5_ones 3 = .ok (.istore_n 2, 1) := by decide +kernel
theorem dX5_ones_4 : decode cX5_ones 4 = .ok (.iload_n 2, 1) := by decide +kernel
theorem dX5_ones_5 : decode cX5_ones 5 = .ok (.bipush 6, 2) := by decide +kernel
theorem dX5_ones_7 : decode cX5_ones 7 = .ok (.if_icmp .ge 17, 3) := by decide +kernel
theorem dX5_ones_10 : decode cX5_ones 10 = .ok (.iload_n 1, 1) := by decide +kernel
theorem dX5_ones_11 : decode cX5_ones 11 = .ok (.iload_n 0, 1) := by decide +kernel
theorem dX5_ones_12 : decode cX5_ones 12 = .ok (.iload_n 2, 1) := by decide +kernel
theorem dX5_ones_13 : decode cX5_ones 13 = .ok (.ishr, 1) := by decide +kernel
theorem dX5_ones_14 : decode cX5_ones 14 = .ok (.iconst 1, 1) := by decide +kernel
theorem dX5_ones_15 : decode cX5_ones 15 = .ok (.iand, 1) := by decide +kernel
theorem dX5_ones_16 : decode cX5_ones 16 = .ok (.iadd, 1) := by decide +kernel
theorem dX5_ones_17 : decode cX5_ones 17 = .ok (.istore_n 1, 1) := by decide +kernel
theorem dX5_ones_18 : decode cX5_ones 18 = .ok (.iinc 2 1, 3) := by decide +kernel
theorem dX5_ones_21 : decode cX5_ones 21 = .ok (.goto (-17), 3) := by decide +kernel
theorem dX5_ones_24 : decode cX5_ones 24 = .ok (.iload_n 1, 1) := by decide +kernel
theorem dX5_ones_25 : decode cX5_ones 25 = .ok (.ireturn, 1) := by decide +kernel
set_option maxRecDepth 20000 in
theorem ggX5_mend_X5_in : GoodIn wsX5_mend wsX5_in := goodIn_r _ [6] (by decide +kernel) (by decide +kernel)
set_option maxRecDepth 20000 in
theorem gX5_mend_X5_in : GoodIn wsX5_mend (va_wsS RX5 78 yX5_in wsX5_in) := goodIn_app (goodIn_of _ (by decide +kernel)) ggX5_mend_X5_in
set_option maxRecDepth 20000 in
theorem ggX5_mend_X5_layLeads : GoodIn wsX5_mend wsX5_layLeads := goodIn_r _ [10, 1, 11, 12, 13, 14, 15, 16, 17, 5, 18, 19, 20, 21, 22, 23, 24, 25, 26, 27, 52, 53, 54, 55, 56, 57, 58, 59, 60, 61, 62, 63, 64, 65, 66, 67, 68, 69, 70, 71, 72, 73, 74, 75] (by decide +kernel) (by decide +kernel)
set_option maxRecDepth 20000 in
theorem gX5_mend_X5_layLeads : GoodIn wsX5_mend (wsV RX5 114 RX5 yX5_layLeads wsX5_layLeads) := goodIn_app (goodIn_of _ (by decide +kernel)) ggX5_mend_X5_layLeads
set_option maxRecDepth 20000 in
theorem ggX5_mend_X5_ones : GoodIn wsX5_mend wsX5_ones := goodIn_r _ [30] (by decide +kernel) (by decide +kernel)
set_option maxRecDepth 20000 in
theorem gX5_mend_X5_ones : GoodIn wsX5_mend (va_wsS RX5 149 yX5_ones wsX5_ones) := goodIn_app (goodIn_of _ (by decide +kernel)) ggX5_mend_X5_ones
set_option maxRecDepth 20000 in
theorem ggX5_mend_X5_load : GoodIn wsX5_mend wsX5_load := goodIn_r _ [34, 35, 1, 36, 52, 53, 54, 55, 56, 57, 58, 59, 60, 61, 62, 63, 64, 65, 66, 67, 68, 69, 70, 71, 72, 73, 74, 75] (by decide +kernel) (by decide +kernel)
set_option maxRecDepth 20000 in
theorem gX5_mend_X5_load : GoodIn wsX5_mend (wsV RX5 117 RX5 yX5_load wsX5_load) := goodIn_app (goodIn_of _ (by decide +kernel)) ggX5_mend_X5_load
set_option maxRecDepth 20000 in
theorem ggX5_mend_X5_step : GoodIn wsX5_mend wsX5_step := goodIn_r _ [40, 1, 41, 42, 11, 35, 14, 43, 44, 45, 5, 46, 47, 52, 53, 54, 55, 56, 57, 58, 59, 60, 61, 62, 63, 64, 65, 66, 67, 68, 69, 70, 71, 72, 73, 74, 75] (by decide +kernel) (by decide +kernel)
set_option maxRecDepth 20000 in
theorem gX5_mend_X5_step : GoodIn wsX5_mend (wsV RX5 125 RX5 yX5_step wsX5_step) := goodIn_app (goodIn_of _ (by decide +kernel)) ggX5_mend_X5_step
set_option maxRecDepth 20000 in
theorem ggX5_mend_X5_many : GoodIn wsX5_mend wsX5_many := goodIn_r _ [51, 35, 52, 53, 54, 55, 56, 57, 58, 59, 60, 61, 62, 63, 64, 65, 66, 67, 68, 69, 70, 71, 72, 73, 74, 75] (by decide +kernel) (by decide +kernel)
set_option maxRecDepth 20000 in
theorem gX5_mend_X5_many : GoodIn wsX5_mend (wsV RX5 132 RX5 yX5_many wsX5_many) := goodIn_app (goodIn_of _ (by decide +kernel)) ggX5_mend_X5_many
theorem dX5_mend_0 : decode cX5_mend 0 = .ok (.iload_n 1, 1) := by decide +kernel
theorem dX5_mend_1 : decode cX5_mend 1 = .ok (.iconst 1, 1) := by decide +kernel
theorem dX5_mend_2 : decode cX5_mend 2 = .ok (.bipush 64, 2) := by decide +kernel
theorem dX5_mend_4 : decode cX5_mend 4 = .ok (.invokestatic 78, 3) := by decide +kernel
theorem dX5_mend_7 : decode cX5_mend 7 = .ok (.ifCond .ne 6, 3) := by decide +kernel
theorem dX5_mend_10 : decode cX5_mend 10 = .ok (.bipush (-2), 2) := by decide +kernel
theorem dX5_mend_12 : decode cX5_mend 12 = .ok (.ireturn, 1) := by decide +kernel
theorem dX5_mend_13 : decode cX5_mend 13 = .ok (.aload_n 0, 1) := by decide +kernel
theorem dX5_mend_14 : decode cX5_mend 14 = .ok (.invokevirtual 114, 3) := by decide +kernel
theorem dX5_mend_17 : decode cX5_mend 17 = .ok (.iconst 0, 1) := by decide +kernel
theorem dX5_mend_18 : decode cX5_mend 18 = .ok (.istore_n 2, 1) := by decide +kernel
theorem dX5_mend_19 : decode cX5_mend 19 = .ok (.iconst 0, 1) := by decide +kernel
theorem dX5_mend_20 : decode cX5_mend 20 = .ok (.istore_n 3, 1) := by decide +kernel
theorem dX5_mend_21 : decode cX5_mend 21 = .ok (.iload_n 3, 1) := by decide +kernel
theorem dX5_mend_22 : decode cX5_mend 22 = .ok (.aload_n 0, 1) := by decide +kernel
theorem dX5_mend_23 : decode cX5_mend 23 = .ok (.getfield 85, 3) := by decide +kernel
theorem dX5_mend_26 : decode cX5_mend 26 = .ok (.if_icmp .ge 30, 3) := by decide +kernel
theorem dX5_mend_29 : decode cX5_mend 29 = .ok (.iload_n 2, 1) := by decide +kernel
theorem dX5_mend_30 : decode cX5_mend 30 = .ok (.aload_n 0, 1) := by decide +kernel
theorem dX5_mend_31 : decode cX5_mend 31 = .ok (.getfield 31, 3) := by decide +kernel
theorem dX5_mend_34 : decode cX5_mend 34 = .ok (.iload_n 3, 1) := by decide +kernel
theorem dX5_mend_35 : decode cX5_mend 35 = .ok (.iaload, 1) := by decide +kernel
theorem dX5_mend_36 : decode cX5_mend 36 = .ok (.bipush (-9), 2) := by decide +kernel
theorem dX5_mend_38 : decode cX5_mend 38 = .ok (.if_icmp .eq 9, 3) := by decide +kernel
theorem dX5_mend_41 : decode cX5_mend 41 = .ok (.iconst 1, 1) := by decide +kernel
theorem dX5_mend_42 : decode cX5_mend 42 = .ok (.iload_n 3, 1) := by decide +kernel
theorem dX5_mend_43 : decode cX5_mend 43 = .ok (.ishl, 1) := by decide +kernel
theorem dX5_mend_44 : decode cX5_mend 44 = .ok (.goto 4, 3) := by decide +kernel
theorem dX5_mend_47 : decode cX5_mend 47 = .ok (.iconst 0, 1) := by decide +kernel
theorem dX5_mend_48 : decode cX5_mend 48 = .ok (.ior, 1) := by decide +kernel
theorem dX5_mend_49 : decode cX5_mend 49 = .ok (.istore_n 2, 1) := by decide +kernel
theorem dX5_mend_50 : decode cX5_mend 50 = .ok (.iinc 3 1, 3) := by decide +kernel
theorem dX5_mend_53 : decode cX5_mend 53 = .ok (.goto (-32), 3) := by decide +kernel
theorem dX5_mend_56 : decode cX5_mend 56 = .ok (.bipush (-9), 2) := by decide +kernel
theorem dX5_mend_58 : decode cX5_mend 58 = .ok (.istore_n 3, 1) := by decide +kernel
theorem dX5_mend_59 : decode cX5_mend 59 = .ok (.iconst 0, 1) := by decide +kernel
theorem dX5_mend_60 : decode cX5_mend 60 = .ok (.istore 4, 2) := by decide +kernel
theorem dX5_mend_62 : decode cX5_mend 62 = .ok (.iload 4, 2) := by decide +kernel
theorem dX5_mend_64 : decode cX5_mend 64 = .ok (.iconst 1, 1) := by decide +kernel
theorem dX5_mend_65 : decode cX5_mend 65 = .ok (.aload_n 0, 1) := by decide +kernel
theorem dX5_mend_66 : decode cX5_mend 66 = .ok (.getfield 85, 3) := by decide +kernel
theorem dX5_mend_69 : decode cX5_mend 69 = .ok (.ishl, 1) := by decide +kernel
theorem dX5_mend_70 : decode cX5_mend 70 = .ok (.if_icmp .ge 78, 3) := by decide +kernel
theorem dX5_mend_73 : decode cX5_mend 73 = .ok (.iload 4, 2) := by decide +kernel
theorem dX5_mend_75 : decode cX5_mend 75 = .ok (.iload_n 2, 1) := by decide +kernel
theorem dX5_mend_76 : decode cX5_mend 76 = .ok (.iand, 1) := by decide +kernel
theorem dX5_mend_77 : decode cX5_mend 77 = .ok (.ifCond .ne 65, 3) := by decide +kernel
theorem dX5_mend_80 : decode cX5_mend 80 = .ok (.iload_n 3, 1) := by decide +kernel
theorem dX5_mend_81 : decode cX5_mend 81 = .ok (.bipush (-9), 2) := by decide +kernel
theorem dX5_mend_83 : decode cX5_mend 83 = .ok (.if_icmp .eq 15, 3) := by decide +kernel
theorem dX5_mend_86 : decode cX5_mend 86 = .ok (.iload 4, 2) := by decide +kernel
theorem dX5_mend_88 : decode cX5_mend 88 = .ok (.invokestatic 149, 3) := by decide +kernel
theorem dX5_mend_91 : decode cX5_mend 91 = .ok (.iload_n 3, 1) := by decide +kernel
theorem dX5_mend_92 : decode cX5_mend 92 = .ok (.invokestatic 149, 3) := by decide +kernel
theorem dX5_mend_95 : decode cX5_mend 95 = .ok (.if_icmp .ge 47, 3) := by decide +kernel
theorem dX5_mend_98 : decode cX5_mend 98 = .ok (.aload_n 0, 1) := by decide +kernel
theorem dX5_mend_99 : decode cX5_mend 99 = .ok (.iconst 1, 1) := by decide +kernel
theorem dX5_mend_100 : decode cX5_mend 100 = .ok (.invokevirtual 117, 3) := by decide +kernel
theorem dX5_mend_103 : decode cX5_mend 103 = .ok (.iconst 0, 1) := by decide +kernel
theorem dX5_mend_104 : decode cX5_mend 104 = .ok (.istore 5, 2) := by decide +kernel
theorem dX5_mend_106 : decode cX5_mend 106 = .ok (.iload 5, 2) := by decide +kernel
theorem dX5_mend_108 : decode cX5_mend 108 = .ok (.iload_n 1, 1) := by decide +kernel
theorem dX5_mend_109 : decode cX5_mend 109 = .ok (.if_icmp .ge 18, 3) := by decide +kernel
theorem dX5_mend_112 : decode cX5_mend 112 = .ok (.aload_n 0, 1) := by decide +kernel
theorem dX5_mend_113 : decode cX5_mend 113 = .ok (.iload_n 2, 1) := by decide +kernel
theorem dX5_mend_114 : decode cX5_mend 114 = .ok (.iload 4, 2) := by decide +kernel
theorem dX5_mend_116 : decode cX5_mend 116 = .ok (.ior, 1) := by decide +kernel
theorem dX5_mend_117 : decode cX5_mend 117 = .ok (.iconst 0, 1) := by decide +kernel
theorem dX5_mend_118 : decode cX5_mend 118 = .ok (.invokevirtual 125, 3) := by decide +kernel
theorem dX5_mend_121 : decode cX5_mend 121 = .ok (.iinc 5 1, 3) := by decide +kernel
theorem dX5_mend_124 : decode cX5_mend 124 = .ok (.goto (-18), 3) := by decide +kernel
theorem dX5_mend_127 : decode cX5_mend 127 = .ok (.aload_n 0, 1) := by decide +kernel
theorem dX5_mend_128 : decode cX5_mend 128 = .ok (.invokevirtual 132, 3) := by decide +kernel
theorem dX5_mend_131 : decode cX5_mend 131 = .ok (.iconst 1, 1) := by decide +kernel
theorem dX5_mend_132 : decode cX5_mend 132 = .ok (.if_icmp .ne 8, 3) := by decide +kernel
theorem dX5_mend_135 : decode cX5_mend 135 = .ok (.iload 4, 2) := by decide +kernel
theorem dX5_mend_137 : decode cX5_mend 137 = .ok (.goto 4, 3) := by decide +kernel
theorem dX5_mend_140 : decode cX5_mend 140 = .ok (.iload_n 3, 1) := by decide +kernel
theorem dX5_mend_141 : decode cX5_mend 141 = .ok (.istore_n 3, 1) := by decide +kernel
theorem dX5_mend_142 : decode cX5_mend 142 = .ok (.iinc 4 1, 3) := by decide +kernel
theorem dX5_mend_145 : decode cX5_mend 145 = .ok (.goto (-83), 3) := by decide +kernel
theorem dX5_mend_148 : decode cX5_mend 148 = .ok (.iload_n 3, 1) := by decide +kernel
theorem dX5_mend_149 : decode cX5_mend 149 = .ok (.ireturn, 1) := by decide +kernel
set_option maxRecDepth 20000 in
theorem ggX5_need_X5_in : GoodIn wsX5_need wsX5_in := goodIn_r _ [5] (by decide +kernel) (by decide +kernel)
set_option maxRecDepth 20000 in
theorem gX5_need_X5_in : GoodIn wsX5_need (va_wsS RX5 78 yX5_in wsX5_in) := goodIn_app (goodIn_of _ (by decide +kernel)) ggX5_need_X5_in
theorem dX5_need_0 : decode cX5_need 0 = .ok (.iload_n 1, 1) := by decide +kernel
theorem dX5_need_1 : decode cX5_need 1 = .ok (.iconst 0, 1) := by decide +kernel
theorem dX5_need_2 : decode cX5_need 2 = .ok (.iconst 3, 1) := by decide +kernel
theorem dX5_need_3 : decode cX5_need 3 = .ok (.invokestatic 78, 3) := by decide +kernel
theorem dX5_need_6 : decode cX5_need 6 = .ok (.ifCond .eq 12, 3) := by decide +kernel
theorem dX5_need_9 : decode cX5_need 9 = .ok (.iload_n 2, 1) := by decide +kernel
theorem dX5_need_10 : decode cX5_need 10 = .ok (.iconst 0, 1) := by decide +kernel
theorem dX5_need_11 : decode cX5_need 11 = .ok (.iconst 3, 1) := by decide +kernel
theorem dX5_need_12 : decode cX5_need 12 = .ok (.invokestatic 78, 3) := by decide +kernel
theorem dX5_need_15 : decode cX5_need 15 = .ok (.ifCond .ne 5, 3) := by decide +kernel
theorem dX5_need_18 : decode cX5_need 18 = .ok (.iconst (-1), 1) := by decide +kernel
theorem dX5_need_19 : decode cX5_need 19 = .ok (.ireturn, 1) := by decide +kernel
theorem dX5_need_20 : decode cX5_need 20 = .ok (.iload_n 3, 1) := by decide +kernel
theorem dX5_need_21 : decode cX5_need 21 = .ok (.bipush (-9), 2) := by decide +kernel
theorem dX5_need_23 : decode cX5_need 23 = .ok (.if_icmp .eq 16, 3) := by decide +kernel
theorem dX5_need_26 : decode cX5_need 26 = .ok (.iload_n 3, 1) := by decide +kernel
theorem dX5_need_27 : decode cX5_need 27 = .ok (.iconst 0, 1) := by decide +kernel
theorem dX5_need_28 : decode cX5_need 28 = .ok (.bipush 20, 2) := by decide +kernel
theorem dX5_need_30 : decode cX5_need 30 = .ok (.invokestatic 78, 3) := by decide +kernel
theorem dX5_need_33 : decode cX5_need 33 = .ok (.ifCond .ne 6, 3) := by decide +kernel
theorem dX5_need_36 : decode cX5_need 36 = .ok (.bipush (-2), 2) := by decide +kernel
theorem dX5_need_38 : decode cX5_need 38 = .ok (.ireturn, 1) := by decide +kernel
theorem dX5_need_39 : decode cX5_need 39 = .ok (.aload_n 0, 1) := by decide +kernel
theorem dX5_need_40 : decode cX5_need 40 = .ok (.getfield 65, 3) := by decide +kernel
theorem dX5_need_43 : decode cX5_need 43 = .ok (.iconst 4, 1) := by decide +kernel
theorem dX5_need_44 : decode cX5_need 44 = .ok (.iload_n 1, 1) := by decide +kernel
theorem dX5_need_45 : decode cX5_need 45 = .ok (.imul, 1) := by decide +kernel
theorem dX5_need_46 : decode cX5_need 46 = .ok (.iload_n 2, 1) := by decide +kernel
theorem dX5_need_47 : decode cX5_need 47 = .ok (.iadd, 1) := by decide +kernel
theorem dX5_need_48 : decode cX5_need 48 = .ok (.iaload, 1) := by decide +kernel
theorem dX5_need_49 : decode cX5_need 49 = .ok (.istore 4, 2) := by decide +kernel
theorem dX5_need_51 : decode cX5_need 51 = .ok (.aload_n 0, 1) := by decide +kernel
theorem dX5_need_52 : decode cX5_need 52 = .ok (.getfield 65, 3) := by decide +kernel
theorem dX5_need_55 : decode cX5_need 55 = .ok (.iconst 4, 1) := by decide +kernel
theorem dX5_need_56 : decode cX5_need 56 = .ok (.iload_n 1, 1) := by decide +kernel
theorem dX5_need_57 : decode cX5_need 57 = .ok (.imul, 1) := by decide +kernel
theorem dX5_need_58 : decode cX5_need 58 = .ok (.iload_n 2, 1) := by decide +kernel
theorem dX5_need_59 : decode cX5_need 59 = .ok (.iadd, 1) := by decide +kernel
theorem dX5_need_60 : decode cX5_need 60 = .ok (.iload_n 3, 1) := by decide +kernel
theorem dX5_need_61 : decode cX5_need 61 = .ok (.iastore, 1) := by decide +kernel
theorem dX5_need_62 : decode cX5_need 62 = .ok (.iload 4, 2) := by decide +kernel
theorem dX5_need_64 : decode cX5_need 64 = .ok (.ireturn, 1) := by decide +kernel
theorem dX5_layGoes_0 : decode cX5_layGoes 0 = .ok (.iconst 0, 1) := by decide +kernel
theorem dX5_layGoes_1 : decode cX5_layGoes 1 = .ok (.istore_n 1, 1) := by decide +kernel
theorem dX5_layGoes_2 : decode cX5_layGoes 2 = .ok (.iload_n 1, 1) := by decide +kernel
theorem dX5_layGoes_3 : decode cX5_layGoes 3 = .ok (.iconst 4, 1) := by decide +kernel
theorem dX5_layGoes_4 : decode cX5_layGoes 4 = .ok (.if_icmp .ge 16, 3) := by decide +kernel
theorem dX5_layGoes_7 : decode cX5_layGoes 7 = .ok (.aload_n 0, 1) := by decide +kernel
theorem dX5_layGoes_8 : decode cX5_layGoes 8 = .ok (.getfield 68, 3) := by decide +kernel
theorem dX5_layGoes_11 : decode cX5_layGoes 11 = .ok (.iload_n 1, 1) := by decide +kernel
theorem dX5_layGoes_12 : decode cX5_layGoes 12 = .ok (.iconst 0, 1) := by decide +kernel
theorem dX5_layGoes_13 : decode cX5_layGoes 13 = .ok (.iastore, 1) := by decide +kernel
theorem dX5_layGoes_14 : decode cX5_layGoes 14 = .ok (.iinc 1 1, 3) := by decide +kernel
theorem dX5_layGoes_17 : decode cX5_layGoes 17 = .ok (.goto (-15), 3) := by decide +kernel
theorem dX5_layGoes_20 : decode cX5_layGoes 20 = .ok (.iconst 0, 1) := by decide +kernel
theorem dX5_layGoes_21 : decode cX5_layGoes 21 = .ok (.istore_n 1, 1) := by decide +kernel
theorem dX5_layGoes_22 : decode cX5_layGoes 22 = .ok (.iload_n 1, 1) := by decide +kernel
theorem dX5_layGoes_23 : decode cX5_layGoes 23 = .ok (.iconst 4, 1) := by decide +kernel
theorem dX5_layGoes_24 : decode cX5_layGoes 24 = .ok (.if_icmp .ge 86, 3) := by decide +kernel
theorem dX5_layGoes_27 : decode cX5_layGoes 27 = .ok (.iconst 0, 1) := by decide +kernel
theorem dX5_layGoes_28 : decode cX5_layGoes 28 = .ok (.istore_n 2, 1) := by decide +kernel
theorem dX5_layGoes_29 : decode cX5_layGoes 29 = .ok (.iload_n 2, 1) := by decide +kernel
theorem dX5_layGoes_30 : decode cX5_layGoes 30 = .ok (.bipush 16, 2) := by decide +kernel
theorem dX5_layGoes_32 : decode cX5_layGoes 32 = .ok (.if_icmp .ge 72, 3) := by decide +kernel
theorem dX5_layGoes_35 : decode cX5_layGoes 35 = .ok (.aload_n 0, 1) := by decide +kernel
theorem dX5_layGoes_36 : decode cX5_layGoes 36 = .ok (.getfield 65, 3) := by decide +kernel
theorem dX5_layGoes_39 : decode cX5_layGoes 39 = .ok (.iload_n 2, 1) := by decide +kernel
theorem dX5_layGoes_40 : decode cX5_layGoes 40 = .ok (.iaload, 1) := by decide +kernel
theorem dX5_layGoes_41 : decode cX5_layGoes 41 = .ok (.istore_n 3, 1) := by decide +kernel
theorem dX5_layGoes_42 : decode cX5_layGoes 42 = .ok (.aload_n 0, 1) := by decide +kernel
theorem dX5_layGoes_43 : decode cX5_layGoes 43 = .ok (.getfield 68, 3) := by decide +kernel
theorem dX5_layGoes_46 : decode cX5_layGoes 46 = .ok (.iload_n 2, 1) := by decide +kernel
theorem dX5_layGoes_47 : decode cX5_layGoes 47 = .ok (.iconst 4, 1) := by decide +kernel
theorem dX5_layGoes_48 : decode cX5_layGoes 48 = .ok (.idiv, 1) := by decide +kernel
theorem dX5_layGoes_49 : decode cX5_layGoes 49 = .ok (.iload_n 3, 1) := by decide +kernel
theorem dX5_layGoes_50 : decode cX5_layGoes 50 = .ok (.bipush (-9), 2) := by decide +kernel
theorem dX5_layGoes_52 : decode cX5_layGoes 52 = .ok (.if_icmp .eq 37, 3) := by decide +kernel
theorem dX5_layGoes_55 : decode cX5_layGoes 55 = .ok (.aload_n 0, 1) := by decide +kernel
theorem dX5_layGoes_56 : decode cX5_layGoes 56 = .ok (.getfield 68, 3) := by decide +kernel
theorem dX5_layGoes_59 : decode cX5_layGoes 59 = .ok (.iload_n 2, 1) := by decide +kernel
theorem dX5_layGoes_60 : decode cX5_layGoes 60 = .ok (.iconst 4, 1) := by decide +kernel
theorem dX5_layGoes_61 : decode cX5_layGoes 61 = .ok (.irem, 1) := by decide +kernel
theorem dX5_layGoes_62 : decode cX5_layGoes 62 = .ok (.iaload, 1) := by decide +kernel
theorem dX5_layGoes_63 : decode cX5_layGoes 63 = .ok (.iload_n 3, 1) := by decide +kernel
theorem dX5_layGoes_64 : decode cX5_layGoes 64 = .ok (.iadd, 1) := by decide +kernel
theorem dX5_layGoes_65 : decode cX5_layGoes 65 = .ok (.aload_n 0, 1) := by decide +kernel
theorem dX5_layGoes_66 : decode cX5_layGoes 66 = .ok (.getfield 68, 3) := by decide +kernel
theorem dX5_layGoes_69 : decode cX5_layGoes 69 = .ok (.iload_n 2, 1) := by decide +kernel
theorem dX5_layGoes_70 : decode cX5_layGoes 70 = .ok (.iconst 4, 1) := by decide +kernel
theorem dX5_layGoes_71 : decode cX5_layGoes 71 = .ok (.idiv, 1) := by decide +kernel
theorem dX5_layGoes_72 : decode cX5_layGoes 72 = .ok (.iaload, 1) := by decide +kernel
theorem dX5_layGoes_73 : decode cX5_layGoes 73 = .ok (.if_icmp .le 16, 3) := by decide +kernel
theorem dX5_layGoes_76 : decode cX5_layGoes 76 = .ok (.aload_n 0, 1) := by decide +kernel
theorem dX5_layGoes_77 : decode cX5_layGoes 77 = .ok (.getfield 68, 3) := by decide +kernel
theorem dX5_layGoes_80 : decode cX5_layGoes 80 = .ok (.iload_n 2, 1) := by decide +kernel
theorem dX5_layGoes_81 : decode cX5_layGoes 81 = .ok (.iconst 4, 1) := by decide +kernel
theorem dX5_layGoes_82 : decode cX5_layGoes 82 = .ok (.irem, 1) := by decide +kernel
theorem dX5_layGoes_83 : decode cX5_layGoes 83 = .ok (.iaload, 1) := by decide +kernel
theorem dX5_layGoes_84 : decode cX5_layGoes 84 = .ok (.iload_n 3, 1) := by decide +kernel
theorem dX5_layGoes_85 : decode cX5_layGoes 85 = .ok (.iadd, 1) := by decide +kernel
theorem dX5_layGoes_86 : decode cX5_layGoes 86 = .ok (.goto 11, 3) := by decide +kernel
theorem dX5_layGoes_89 : decode cX5_layGoes 89 = .ok (.aload_n 0, 1) := by decide +kernel
theorem dX5_layGoes_90 : decode cX5_layGoes 90 = .ok (.getfield 68, 3) := by decide +kernel
theorem dX5_layGoes_93 : decode cX5_layGoes 93 = .ok (.iload_n 2, 1) := by decide +kernel
theorem dX5_layGoes_94 : decode cX5_layGoes 94 = .ok (.iconst 4, 1) := by decide +kernel
theorem dX5_layGoes_95 : decode cX5_layGoes 95 = .ok (.idiv, 1) := by decide +kernel
theorem dX5_layGoes_96 : decode cX5_layGoes 96 = .ok (.iaload, 1) := by decide +kernel
theorem dX5_layGoes_97 : decode cX5_layGoes 97 = .ok (.iastore, 1) := by decide +kernel
theorem dX5_layGoes_98 : decode cX5_layGoes 98 = .ok (.iinc 2 1, 3) := by decide +kernel
theorem dX5_layGoes_101 : decode cX5_layGoes 101 = .ok (.goto (-72), 3) := by decide +kernel
theorem dX5_layGoes_104 : decode cX5_layGoes 104 = .ok (.iinc 1 1, 3) := by decide +kernel
theorem dX5_layGoes_107 : decode cX5_layGoes 107 = .ok (.goto (-85), 3) := by decide +kernel
theorem dX5_layGoes_110 : decode cX5_layGoes 110 = .ok (.iconst 0, 1) := by decide +kernel
theorem dX5_layGoes_111 : decode cX5_layGoes 111 = .ok (.istore_n 1, 1) := by decide +kernel
theorem dX5_layGoes_112 : decode cX5_layGoes 112 = .ok (.iload_n 1, 1) := by decide +kernel
theorem dX5_layGoes_113 : decode cX5_layGoes 113 = .ok (.bipush 8, 2) := by decide +kernel
theorem dX5_layGoes_115 : decode cX5_layGoes 115 = .ok (.if_icmp .ge 117, 3) := by decide +kernel
theorem dX5_layGoes_118 : decode cX5_layGoes 118 = .ok (.iconst 0, 1) := by decide +kernel
theorem dX5_layGoes_119 : decode cX5_layGoes 119 = .ok (.istore_n 2, 1) := by decide +kernel
theorem dX5_layGoes_120 : decode cX5_layGoes 120 = .ok (.iload_n 2, 1) := by decide +kernel
theorem dX5_layGoes_121 : decode cX5_layGoes 121 = .ok (.bipush 16, 2) := by decide +kernel
theorem dX5_layGoes_123 : decode cX5_layGoes 123 = .ok (.if_icmp .ge 103, 3) := by decide +kernel
theorem dX5_layGoes_126 : decode cX5_layGoes 126 = .ok (.aload_n 0, 1) := by decide +kernel
theorem dX5_layGoes_127 : decode cX5_layGoes 127 = .ok (.getfield 65, 3) := by decide +kernel
theorem dX5_layGoes_130 : decode cX5_layGoes 130 = .ok (.iload_n 2, 1) := by decide +kernel
theorem dX5_layGoes_131 : decode cX5_layGoes 131 = .ok (.iaload, 1) := by decide +kernel
theorem dX5_layGoes_132 : decode cX5_layGoes 132 = .ok (.bipush (-9), 2) := by decide +kernel
theorem dX5_layGoes_134 : decode cX5_layGoes 134 = .ok (.if_icmp .eq 59, 3) := by decide +kernel
theorem dX5_layGoes_137 : decode cX5_layGoes 137 = .ok (.aload_n 0, 1) := by decide +kernel
theorem dX5_layGoes_138 : decode cX5_layGoes 138 = .ok (.getfield 68, 3) := by decide +kernel
theorem dX5_layGoes_141 : decode cX5_layGoes 141 = .ok (.iload_n 2, 1) := by decide +kernel
theorem dX5_layGoes_142 : decode cX5_layGoes 142 = .ok (.iconst 4, 1) := by decide +kernel
theorem dX5_layGoes_143 : decode cX5_layGoes 143 = .ok (.idiv, 1) := by decide +kernel
theorem dX5_layGoes_144 : decode cX5_layGoes 144 = .ok (.iaload, 1) := by decide +kernel
theorem dX5_layGoes_145 : decode cX5_layGoes 145 = .ok (.bipush (-9), 2) := by decide +kernel
theorem dX5_layGoes_147 : decode cX5_layGoes 147 = .ok (.if_icmp .eq 46, 3) := by decide +kernel
theorem dX5_layGoes_150 : decode cX5_layGoes 150 = .ok (.aload_n 0, 1) := by decide +kernel
theorem dX5_layGoes_151 : decode cX5_layGoes 151 = .ok (.getfield 68, 3) := by decide +kernel
theorem dX5_layGoes_154 : decode cX5_layGoes 154 = .ok (.iload_n 2, 1) := by decide +kernel
theorem dX5_layGoes_155 : decode cX5_layGoes 155 = .ok (.iconst 4, 1) := by decide +kernel
theorem dX5_layGoes_156 : decode cX5_layGoes 156 = .ok (.irem, 1) := by decide +kernel
theorem dX5_layGoes_157 : decode cX5_layGoes 157 = .ok (.iaload, 1) := by decide +kernel
theorem dX5_layGoes_158 : decode cX5_layGoes 158 = .ok (.bipush (-9), 2) := by decide +kernel
theorem dX5_layGoes_160 : decode cX5_layGoes 160 = .ok (.if_icmp .eq 29, 3) := by decide +kernel
theorem dX5_layGoes_163 : decode cX5_layGoes 163 = .ok (.aload_n 0, 1) := by decide +kernel
theorem dX5_layGoes_164 : decode cX5_layGoes 164 = .ok (.getfield 68, 3) := by decide +kernel
theorem dX5_layGoes_167 : decode cX5_layGoes 167 = .ok (.iload_n 2, 1) := by decide +kernel
theorem dX5_layGoes_168 : decode cX5_layGoes 168 = .ok (.iconst 4, 1) := by decide +kernel
theorem dX5_layGoes_169 : decode cX5_layGoes 169 = .ok (.irem, 1) := by decide +kernel
theorem dX5_layGoes_170 : decode cX5_layGoes 170 = .ok (.iaload, 1) := by decide +kernel
theorem dX5_layGoes_171 : decode cX5_layGoes 171 = .ok (.aload_n 0, 1) := by decide +kernel
theorem dX5_layGoes_172 : decode cX5_layGoes 172 = .ok (.getfield 65, 3) := by decide +kernel
theorem dX5_layGoes_175 : decode cX5_layGoes 175 = .ok (.iload_n 2, 1) := by decide +kernel
theorem dX5_layGoes_176 : decode cX5_layGoes 176 = .ok (.iaload, 1) := by decide +kernel
theorem dX5_layGoes_177 : decode cX5_layGoes 177 = .ok (.iadd, 1) := by decide +kernel
theorem dX5_layGoes_178 : decode cX5_layGoes 178 = .ok (.aload_n 0, 1) := by decide +kernel
theorem dX5_layGoes_179 : decode cX5_layGoes 179 = .ok (.getfield 68, 3) := by decide +kernel
theorem dX5_layGoes_182 : decode cX5_layGoes 182 = .ok (.iload_n 2, 1) := by decide +kernel
theorem dX5_layGoes_183 : decode cX5_layGoes 183 = .ok (.iconst 4, 1) := by decide +kernel
theorem dX5_layGoes_184 : decode cX5_layGoes 184 = .ok (.idiv, 1) := by decide +kernel
theorem dX5_layGoes_185 : decode cX5_layGoes 185 = .ok (.iaload, 1) := by decide +kernel
theorem dX5_layGoes_186 : decode cX5_layGoes 186 = .ok (.if_icmp .le 7, 3) := by decide +kernel
theorem dX5_layGoes_189 : decode cX5_layGoes 189 = .ok (.iconst 1, 1) := by decide +kernel
theorem dX5_layGoes_190 : decode cX5_layGoes 190 = .ok (.goto 4, 3) := by decide +kernel
theorem dX5_layGoes_193 : decode cX5_layGoes 193 = .ok (.iconst 0, 1) := by decide +kernel
theorem dX5_layGoes_194 : decode cX5_layGoes 194 = .ok (.istore_n 3, 1) := by decide +kernel
theorem dX5_layGoes_195 : decode cX5_layGoes 195 = .ok (.aload_n 0, 1) := by decide +kernel
theorem dX5_layGoes_196 : decode cX5_layGoes 196 = .ok (.getfield 68, 3) := by decide +kernel
theorem dX5_layGoes_199 : decode cX5_layGoes 199 = .ok (.iload_n 2, 1) := by decide +kernel
theorem dX5_layGoes_200 : decode cX5_layGoes 200 = .ok (.iconst 4, 1) := by decide +kernel
theorem dX5_layGoes_201 : decode cX5_layGoes 201 = .ok (.idiv, 1) := by decide +kernel
theorem dX5_layGoes_202 : decode cX5_layGoes 202 = .ok (.iload_n 3, 1) := by decide +kernel
theorem dX5_layGoes_203 : decode cX5_layGoes 203 = .ok (.ifCond .eq 8, 3) := by decide +kernel
theorem dX5_layGoes_206 : decode cX5_layGoes 206 = .ok (.bipush (-9), 2) := by decide +kernel
theorem dX5_layGoes_208 : decode cX5_layGoes 208 = .ok (.goto 11, 3) := by decide +kernel
theorem dX5_layGoes_211 : decode cX5_layGoes 211 = .ok (.aload_n 0, 1) := by decide +kernel
theorem dX5_layGoes_212 : decode cX5_layGoes 212 = .ok (.getfield 68, 3) := by decide +kernel
theorem dX5_layGoes_215 : decode cX5_layGoes 215 = .ok (.iload_n 2, 1) := by decide +kernel
theorem dX5_layGoes_216 : decode cX5_layGoes 216 = .ok (.iconst 4, 1) := by decide +kernel
theorem dX5_layGoes_217 : decode cX5_layGoes 217 = .ok (.idiv, 1) := by decide +kernel
theorem dX5_layGoes_218 : decode cX5_layGoes 218 = .ok (.iaload, 1) := by decide +kernel
theorem dX5_layGoes_219 : decode cX5_layGoes 219 = .ok (.iastore, 1) := by decide +kernel
theorem dX5_layGoes_220 : decode cX5_layGoes 220 = .ok (.iinc 2 1, 3) := by decide +kernel
theorem dX5_layGoes_223 : decode cX5_layGoes 223 = .ok (.goto (-103), 3) := by decide +kernel
theorem dX5_layGoes_226 : decode cX5_layGoes 226 = .ok (.iinc 1 1, 3) := by decide +kernel
theorem dX5_layGoes_229 : decode cX5_layGoes 229 = .ok (.goto (-117), 3) := by decide +kernel
theorem dX5_layGoes_232 : decode cX5_layGoes 232 = .ok (.return_, 1) := by decide +kernel
set_option maxRecDepth 20000 in
theorem ggX5_go_X5_in : GoodIn wsX5_go wsX5_in := goodIn_r _ [5] (by decide +kernel) (by decide +kernel)
set_option maxRecDepth 20000 in
theorem gX5_go_X5_in : GoodIn wsX5_go (va_wsS RX5 78 yX5_in wsX5_in) := goodIn_app (goodIn_of _ (by decide +kernel)) ggX5_go_X5_in
set_option maxRecDepth 20000 in
theorem ggX5_go_X5_layGoes : GoodIn wsX5_go wsX5_layGoes := goodIn_r _ [9, 1, 10, 11, 12, 13, 14, 15, 16, 17, 18, 19, 20, 21, 22, 23, 24, 25, 26, 27, 28, 29, 30, 31, 32, 33, 34] (by decide +kernel) (by decide +kernel)
set_option maxRecDepth 20000 in
theorem gX5_go_X5_layGoes : GoodIn wsX5_go (wsV RX5 152 RX5 yX5_layGoes wsX5_layGoes) := goodIn_app (goodIn_of _ (by decide +kernel)) ggX5_go_X5_layGoes
theorem dX5_go_0 : decode cX5_go 0 = .ok (.iload_n 1, 1) := by decide +kernel
theorem dX5_go_1 : decode cX5_go 1 = .ok (.iconst 0, 1) := by decide +kernel
theorem dX5_go_2 : decode cX5_go 2 = .ok (.iconst 3, 1) := by decide +kernel
theorem dX5_go_3 : decode cX5_go 3 = .ok (.invokestatic 78, 3) := by decide +kernel
theorem dX5_go_6 : decode cX5_go 6 = .ok (.ifCond .ne 5, 3) := by decide +kernel
theorem dX5_go_9 : decode cX5_go 9 = .ok (.iconst (-1), 1) := by decide +kernel
theorem dX5_go_10 : decode cX5_go 10 = .ok (.ireturn, 1) := by decide +kernel
theorem dX5_go_11 : decode cX5_go 11 = .ok (.aload_n 0, 1) := by decide +kernel
theorem dX5_go_12 : decode cX5_go 12 = .ok (.invokevirtual 152, 3) := by decide +kernel
theorem dX5_go_15 : decode cX5_go 15 = .ok (.aload_n 0, 1) := by decide +kernel
theorem dX5_go_16 : decode cX5_go 16 = .ok (.getfield 68, 3) := by decide +kernel
theorem dX5_go_19 : decode cX5_go 19 = .ok (.iload_n 1, 1) := by decide +kernel
theorem dX5_go_20 : decode cX5_go 20 = .ok (.iaload, 1) := by decide +kernel
theorem dX5_go_21 : decode cX5_go 21 = .ok (.ireturn, 1) := by decide +kernel
set_option maxRecDepth 20000 in
theorem ggX5_gone_X5_layGoes : GoodIn wsX5_gone wsX5_layGoes := goodIn_r _ [6, 1, 7, 8, 9, 10, 11, 12, 13, 14, 15, 16, 17, 18, 19, 20, 21, 22, 23, 24, 25, 26, 27, 28, 29, 30, 31] (by decide +kernel) (by decide +kernel)
set_option maxRecDepth 20000 in
theorem gX5_gone_X5_layGoes : GoodIn wsX5_gone (wsV RX5 152 RX5 yX5_layGoes wsX5_layGoes) := goodIn_app (goodIn_of _ (by decide +kernel)) ggX5_gone_X5_layGoes
theorem dX5_gone_0 : decode cX5_gone 0 = .ok (.iload_n 1, 1) := by decide +kernel
theorem dX5_gone_1 : decode cX5_gone 1 = .ok (.ifCond .ge 6, 3) := by decide +kernel
theorem dX5_gone_4 : decode cX5_gone 4 = .ok (.bipush (-2), 2) := by decide +kernel
theorem dX5_gone_6 : decode cX5_gone 6 = .ok (.ireturn, 1) := by decide +kernel
theorem dX5_gone_7 : decode cX5_gone 7 = .ok (.aload_n 0, 1) := by decide +kernel
theorem dX5_gone_8 : decode cX5_gone 8 = .ok (.invokevirtual 152, 3) := by decide +kernel
theorem dX5_gone_11 : decode cX5_gone 11 = .ok (.iconst 0, 1) := by decide +kernel
theorem dX5_gone_12 : decode cX5_gone 12 = .ok (.istore_n 2, 1) := by decide +kernel
theorem dX5_gone_13 : decode cX5_gone 13 = .ok (.iconst 0, 1) := by decide +kernel
theorem dX5_gone_14 : decode cX5_gone 14 = .ok (.istore_n 3, 1) := by decide +kernel
theorem dX5_gone_15 : decode cX5_gone 15 = .ok (.iload_n 3, 1) := by decide +kernel
theorem dX5_gone_16 : decode cX5_gone 16 = .ok (.iconst 4, 1) := by decide +kernel
theorem dX5_gone_17 : decode cX5_gone 17 = .ok (.if_icmp .ge 38, 3) := by decide +kernel
theorem dX5_gone_20 : decode cX5_gone 20 = .ok (.iload_n 2, 1) := by decide +kernel
theorem dX5_gone_21 : decode cX5_gone 21 = .ok (.aload_n 0, 1) := by decide +kernel
theorem dX5_gone_22 : decode cX5_gone 22 = .ok (.getfield 68, 3) := by decide +kernel
theorem dX5_gone_25 : decode cX5_gone 25 = .ok (.iload_n 3, 1) := by decide +kernel
theorem dX5_gone_26 : decode cX5_gone 26 = .ok (.iaload, 1) := by decide +kernel
theorem dX5_gone_27 : decode cX5_gone 27 = .ok (.bipush (-9), 2) := by decide +kernel
theorem dX5_gone_29 : decode cX5_gone 29 = .ok (.if_icmp .eq 17, 3) := by decide +kernel
theorem dX5_gone_32 : decode cX5_gone 32 = .ok (.aload_n 0, 1) := by decide +kernel
theorem dX5_gone_33 : decode cX5_gone 33 = .ok (.getfield 68, 3) := by decide +kernel
theorem dX5_gone_36 : decode cX5_gone 36 = .ok (.iload_n 3, 1) := by decide +kernel
theorem dX5_gone_37 : decode cX5_gone 37 = .ok (.iaload, 1) := by decide +kernel
theorem dX5_gone_38 : decode cX5_gone 38 = .ok (.iload_n 1, 1) := by decide +kernel
theorem dX5_gone_39 : decode cX5_gone 39 = .ok (.if_icmp .gt 7, 3) := by decide +kernel
theorem dX5_gone_42 : decode cX5_gone 42 = .ok (.iconst 1, 1) := by decide +kernel
theorem dX5_gone_43 : decode cX5_gone 43 = .ok (.goto 4, 3) := by decide +kernel
theorem dX5_gone_46 : decode cX5_gone 46 = .ok (.iconst 0, 1) := by decide +kernel
theorem dX5_gone_47 : decode cX5_gone 47 = .ok (.iadd, 1) := by decide +kernel
theorem dX5_gone_48 : decode cX5_gone 48 = .ok (.istore_n 2, 1) := by decide +kernel
theorem dX5_gone_49 : decode cX5_gone 49 = .ok (.iinc 3 1, 3) := by decide +kernel
theorem dX5_gone_52 : decode cX5_gone 52 = .ok (.goto (-37), 3) := by decide +kernel
theorem dX5_gone_55 : decode cX5_gone 55 = .ok (.iload_n 2, 1) := by decide +kernel
theorem dX5_gone_56 : decode cX5_gone 56 = .ok (.ireturn, 1) := by decide +kernel
theorem dX5_count_0 : decode cX5_count 0 = .ok (.iconst 0, 1) := by decide +kernel
theorem dX5_count_1 : decode cX5_count 1 = .ok (.istore_n 2, 1) := by decide +kernel
theorem dX5_count_2 : decode cX5_count 2 = .ok (.iload_n 1, 1) := by decide +kernel
theorem dX5_count_3 : decode cX5_count 3 = .ok (.tableswitch 124 0 5 #[37, 42, 47, 52, 57, 89], 37) := by decide +kernel
theorem dX5_count_40 : decode cX5_count 40 = .ok (.aload_n 0, 1) := by decide +kernel
theorem dX5_count_41 : decode cX5_count 41 = .ok (.getfield 74, 3) := by decide +kernel
theorem dX5_count_44 : decode cX5_count 44 = .ok (.ireturn, 1) := by decide +kernel
theorem dX5_count_45 : decode cX5_count 45 = .ok (.aload_n 0, 1) := by decide +kernel
theorem dX5_count_46 : decode cX5_count 46 = .ok (.getfield 85, 3) := by decide +kernel
theorem dX5_count_49 : decode cX5_count 49 = .ok (.ireturn, 1) := by decide +kernel
theorem dX5_count_50 : decode cX5_count 50 = .ok (.aload_n 0, 1) := by decide +kernel
theorem dX5_count_51 : decode cX5_count 51 = .ok (.getfield 88, 3) := by decide +kernel
theorem dX5_count_54 : decode cX5_count 54 = .ok (.ireturn, 1) := by decide +kernel
theorem dX5_count_55 : decode cX5_count 55 = .ok (.aload_n 0, 1) := by decide +kernel
theorem dX5_count_56 : decode cX5_count 56 = .ok (.getfield 82, 3) := by decide +kernel
theorem dX5_count_59 : decode cX5_count 59 = .ok (.ireturn, 1) := by decide +kernel
theorem dX5_count_60 : decode cX5_count 60 = .ok (.iconst 0, 1) := by decide +kernel
theorem dX5_count_61 : decode cX5_count 61 = .ok (.istore_n 3, 1) := by decide +kernel
theorem dX5_count_62 : decode cX5_count 62 = .ok (.iload_n 3, 1) := by decide +kernel
theorem dX5_count_63 : decode cX5_count 63 = .ok (.iconst 4, 1) := by decide +kernel
theorem dX5_count_64 : decode cX5_count 64 = .ok (.if_icmp .ge 26, 3) := by decide +kernel
theorem dX5_count_67 : decode cX5_count 67 = .ok (.iload_n 2, 1) := by decide +kernel
theorem dX5_count_68 : decode cX5_count 68 = .ok (.aload_n 0, 1) := by decide +kernel
theorem dX5_count_69 : decode cX5_count 69 = .ok (.getfield 40, 3) := by decide +kernel
theorem dX5_count_72 : decode cX5_count 72 = .ok (.iload_n 3, 1) := by decide +kernel
theorem dX5_count_73 : decode cX5_count 73 = .ok (.baload, 1) := by decide +kernel
theorem dX5_count_74 : decode cX5_count 74 = .ok (.ifCond .eq 7, 3) := by decide +kernel
theorem dX5_count_77 : decode cX5_count 77 = .ok (.iconst 1, 1) := by decide +kernel
theorem dX5_count_78 : decode cX5_count 78 = .ok (.goto 4, 3) := by decide +kernel
theorem dX5_count_81 : decode cX5_count 81 = .ok (.iconst 0, 1) := by decide +kernel
theorem dX5_count_82 : decode cX5_count 82 = .ok (.iadd, 1) := by decide +kernel
theorem dX5_count_83 : decode cX5_count 83 = .ok (.istore_n 2, 1) := by decide +kernel
theorem dX5_count_84 : decode cX5_count 84 = .ok (.iinc 3 1, 3) := by decide +kernel
theorem dX5_count_87 : decode cX5_count 87 = .ok (.goto (-25), 3) := by decide +kernel
theorem dX5_count_90 : decode cX5_count 90 = .ok (.iload_n 2, 1) := by decide +kernel
theorem dX5_count_91 : decode cX5_count 91 = .ok (.ireturn, 1) := by decide +kernel
theorem dX5_count_92 : decode cX5_count 92 = .ok (.iconst 0, 1) := by decide +kernel
theorem dX5_count_93 : decode cX5_count 93 = .ok (.istore_n 3, 1) := by decide +kernel
theorem dX5_count_94 : decode cX5_count 94 = .ok (.iload_n 3, 1) := by decide +kernel
theorem dX5_count_95 : decode cX5_count 95 = .ok (.bipush 16, 2) := by decide +kernel
theorem dX5_count_97 : decode cX5_count 97 = .ok (.if_icmp .ge 28, 3) := by decide +kernel
theorem dX5_count_100 : decode cX5_count 100 = .ok (.iload_n 2, 1) := by decide +kernel
theorem dX5_count_101 : decode cX5_count 101 = .ok (.aload_n 0, 1) := by decide +kernel
theorem dX5_count_102 : decode cX5_count 102 = .ok (.getfield 65, 3) := by decide +kernel
theorem dX5_count_105 : decode cX5_count 105 = .ok (.iload_n 3, 1) := by decide +kernel
theorem dX5_count_106 : decode cX5_count 106 = .ok (.iaload, 1) := by decide +kernel
theorem dX5_count_107 : decode cX5_count 107 = .ok (.bipush (-9), 2) := by decide +kernel
theorem dX5_count_109 : decode cX5_count 109 = .ok (.if_icmp .eq 7, 3) := by decide +kernel
theorem dX5_count_112 : decode cX5_count 112 = .ok (.iconst 1, 1) := by decide +kernel
theorem dX5_count_113 : decode cX5_count 113 = .ok (.goto 4, 3) := by decide +kernel
theorem dX5_count_116 : decode cX5_count 116 = .ok (.iconst 0, 1) := by decide +kernel
theorem dX5_count_117 : decode cX5_count 117 = .ok (.iadd, 1) := by decide +kernel
theorem dX5_count_118 : decode cX5_count 118 = .ok (.istore_n 2, 1) := by decide +kernel
theorem dX5_count_119 : decode cX5_count 119 = .ok (.iinc 3 1, 3) := by decide +kernel
theorem dX5_count_122 : decode cX5_count 122 = .ok (.goto (-28), 3) := by decide +kernel
theorem dX5_count_125 : decode cX5_count 125 = .ok (.iload_n 2, 1) := by decide +kernel
theorem dX5_count_126 : decode cX5_count 126 = .ok (.ireturn, 1) := by decide +kernel
theorem dX5_count_127 : decode cX5_count 127 = .ok (.bipush (-2), 2) := by decide +kernel
theorem dX5_count_129 : decode cX5_count 129 = .ok (.ireturn, 1) := by decide +kernel
end
section
theorem dJ6_bitCount_0f7a4_0 : decode cJ6_bitCount_0f7a4 0 = .ok (.iload_n 0, 1) := by decide +kernel
theorem dJ6_bitCount_0f7a4_1 : decode cJ6_bitCount_0f7a4 1 = .ok (.iload_n 0, 1) := by decide +kernel
theorem dJ6_bitCount_0f7a4_2 : decode cJ6_bitCount_0f7a4 2 = .ok (.iconst 1, 1) := by decide +kernel
theorem dJ6_bitCount_0f7a4_3 : decode cJ6_bitCount_0f7a4 3 = .ok (.iushr, 1) := by decide +kernel
theorem dJ6_bitCount_0f7a4_4 : decode cJ6_bitCount_0f7a4 4 = .ok (.ldc_w 265, 3) := by decide +kernel
theorem dJ6_bitCount_0f7a4_7 : decode cJ6_bitCount_0f7a4 7 = .ok (.iand, 1) := by decide +kernel
theorem dJ6_bitCount_0f7a4_8 : decode cJ6_bitCount_0f7a4 8 = .ok (.isub, 1) := by decide +kernel
theorem dJ6_bitCount_0f7a4_9 : decode cJ6_bitCount_0f7a4 9 = .ok (.istore_n 0, 1) := by decide +kernel
theorem dJ6_bitCount_0f7a4_10 : decode cJ6_bitCount_0f7a4 10 = .ok (.iload_n 0, 1) := by decide +kernel
theorem dJ6_bitCount_0f7a4_11 : decode cJ6_bitCount_0f7a4 11 = .ok (.ldc_w 266, 3) := by decide +kernel
theorem dJ6_bitCount_0f7a4_14 : decode cJ6_bitCount_0f7a4 14 = .ok (.iand, 1) := by decide +kernel
theorem dJ6_bitCount_0f7a4_15 : decode cJ6_bitCount_0f7a4 15 = .ok (.iload_n 0, 1) := by decide +kernel
theorem dJ6_bitCount_0f7a4_16 : decode cJ6_bitCount_0f7a4 16 = .ok (.iconst 2, 1) := by decide +kernel
theorem dJ6_bitCount_0f7a4_17 : decode cJ6_bitCount_0f7a4 17 = .ok (.iushr, 1) := by decide +kernel
theorem dJ6_bitCount_0f7a4_18 : decode cJ6_bitCount_0f7a4 18 = .ok (.ldc_w 266, 3) := by decide +kernel
theorem dJ6_bitCount_0f7a4_21 : decode cJ6_bitCount_0f7a4 21 = .ok (.iand, 1) := by decide +kernel
theorem dJ6_bitCount_0f7a4_22 : decode cJ6_bitCount_0f7a4 22 = .ok (.iadd, 1) := by decide +kernel
theorem dJ6_bitCount_0f7a4_23 : decode cJ6_bitCount_0f7a4 23 = .ok (.istore_n 0, 1) := by decide +kernel
theorem dJ6_bitCount_0f7a4_24 : decode cJ6_bitCount_0f7a4 24 = .ok (.iload_n 0, 1) := by decide +kernel
theorem dJ6_bitCount_0f7a4_25 : decode cJ6_bitCount_0f7a4 25 = .ok (.iload_n 0, 1) := by decide +kernel
theorem dJ6_bitCount_0f7a4_26 : decode cJ6_bitCount_0f7a4 26 = .ok (.iconst 4, 1) := by decide +kernel
theorem dJ6_bitCount_0f7a4_27 : decode cJ6_bitCount_0f7a4 27 = .ok (.iushr, 1) := by decide +kernel
theorem dJ6_bitCount_0f7a4_28 : decode cJ6_bitCount_0f7a4 28 = .ok (.iadd, 1) := by decide +kernel
theorem dJ6_bitCount_0f7a4_29 : decode cJ6_bitCount_0f7a4 29 = .ok (.ldc_w 267, 3) := by decide +kernel
theorem dJ6_bitCount_0f7a4_32 : decode cJ6_bitCount_0f7a4 32 = .ok (.iand, 1) := by decide +kernel
theorem dJ6_bitCount_0f7a4_33 : decode cJ6_bitCount_0f7a4 33 = .ok (.istore_n 0, 1) := by decide +kernel
theorem dJ6_bitCount_0f7a4_34 : decode cJ6_bitCount_0f7a4 34 = .ok (.iload_n 0, 1) := by decide +kernel
theorem dJ6_bitCount_0f7a4_35 : decode cJ6_bitCount_0f7a4 35 = .ok (.iload_n 0, 1) := by decide +kernel
theorem dJ6_bitCount_0f7a4_36 : decode cJ6_bitCount_0f7a4 36 = .ok (.bipush 8, 2) := by decide +kernel
theorem dJ6_bitCount_0f7a4_38 : decode cJ6_bitCount_0f7a4 38 = .ok (.iushr, 1) := by decide +kernel
theorem dJ6_bitCount_0f7a4_39 : decode cJ6_bitCount_0f7a4 39 = .ok (.iadd, 1) := by decide +kernel
theorem dJ6_bitCount_0f7a4_40 : decode cJ6_bitCount_0f7a4 40 = .ok (.istore_n 0, 1) := by decide +kernel
theorem dJ6_bitCount_0f7a4_41 : decode cJ6_bitCount_0f7a4 41 = .ok (.iload_n 0, 1) := by decide +kernel
theorem dJ6_bitCount_0f7a4_42 : decode cJ6_bitCount_0f7a4 42 = .ok (.iload_n 0, 1) := by decide +kernel
theorem dJ6_bitCount_0f7a4_43 : decode cJ6_bitCount_0f7a4 43 = .ok (.bipush 16, 2) := by decide +kernel
theorem dJ6_bitCount_0f7a4_45 : decode cJ6_bitCount_0f7a4 45 = .ok (.iushr, 1) := by decide +kernel
theorem dJ6_bitCount_0f7a4_46 : decode cJ6_bitCount_0f7a4 46 = .ok (.iadd, 1) := by decide +kernel
theorem dJ6_bitCount_0f7a4_47 : decode cJ6_bitCount_0f7a4 47 = .ok (.istore_n 0, 1) := by decide +kernel
theorem dJ6_bitCount_0f7a4_48 : decode cJ6_bitCount_0f7a4 48 = .ok (.iload_n 0, 1) := by decide +kernel
theorem dJ6_bitCount_0f7a4_49 : decode cJ6_bitCount_0f7a4 49 = .ok (.bipush 63, 2) := by decide +kernel
theorem dJ6_bitCount_0f7a4_51 : decode cJ6_bitCount_0f7a4 51 = .ok (.iand, 1) := by decide +kernel
theorem dJ6_bitCount_0f7a4_52 : decode cJ6_bitCount_0f7a4 52 = .ok (.ireturn, 1) := by decide +kernel
theorem dJ13_bitCount_95d88_0 : decode cJ13_bitCount_95d88 0 = .ok (.lload_n 0, 1) := by decide +kernel
theorem dJ13_bitCount_95d88_1 : decode cJ13_bitCount_95d88 1 = .ok (.lload_n 0, 1) := by decide +kernel
theorem dJ13_bitCount_95d88_2 : decode cJ13_bitCount_95d88 2 = .ok (.iconst 1, 1) := by decide +kernel
theorem dJ13_bitCount_95d88_3 : decode cJ13_bitCount_95d88 3 = .ok (.lushr, 1) := by decide +kernel
theorem dJ13_bitCount_95d88_4 : decode cJ13_bitCount_95d88 4 = .ok (.ldc2_w 314, 3) := by decide +kernel
theorem dJ13_bitCount_95d88_7 : decode cJ13_bitCount_95d88 7 = .ok (.land, 1) := by decide +kernel
theorem dJ13_bitCount_95d88_8 : decode cJ13_bitCount_95d88 8 = .ok (.lsub, 1) := by decide +kernel
theorem dJ13_bitCount_95d88_9 : decode cJ13_bitCount_95d88 9 = .ok (.lstore_n 0, 1) := by decide +kernel
theorem dJ13_bitCount_95d88_10 : decode cJ13_bitCount_95d88 10 = .ok (.lload_n 0, 1) := by decide +kernel
theorem dJ13_bitCount_95d88_11 : decode cJ13_bitCount_95d88 11 = .ok (.ldc2_w 316, 3) := by decide +kernel
theorem dJ13_bitCount_95d88_14 : decode cJ13_bitCount_95d88 14 = .ok (.land, 1) := by decide +kernel
theorem dJ13_bitCount_95d88_15 : decode cJ13_bitCount_95d88 15 = .ok (.lload_n 0, 1) := by decide +kernel
theorem dJ13_bitCount_95d88_16 : decode cJ13_bitCount_95d88 16 = .ok (.iconst 2, 1) := by decide +kernel
theorem dJ13_bitCount_95d88_17 : decode cJ13_bitCount_95d88 17 = .ok (.lushr, 1) := by decide +kernel
theorem dJ13_bitCount_95d88_18 : decode cJ13_bitCount_95d88 18 = .ok (.ldc2_w 316, 3) := by decide +kernel
theorem dJ13_bitCount_95d88_21 : decode cJ13_bitCount_95d88 21 = .ok (.land, 1) := by decide +kernel
theorem dJ13_bitCount_95d88_22 : decode cJ13_bitCount_95d88 22 = .ok (.ladd, 1) := by decide +kernel
theorem dJ13_bitCount_95d88_23 : decode cJ13_bitCount_95d88 23 = .ok (.lstore_n 0, 1) := by decide +kernel
theorem dJ13_bitCount_95d88_24 : decode cJ13_bitCount_95d88 24 = .ok (.lload_n 0, 1) := by decide +kernel
theorem dJ13_bitCount_95d88_25 : decode cJ13_bitCount_95d88 25 = .ok (.lload_n 0, 1) := by decide +kernel
theorem dJ13_bitCount_95d88_26 : decode cJ13_bitCount_95d88 26 = .ok (.iconst 4, 1) := by decide +kernel
theorem dJ13_bitCount_95d88_27 : decode cJ13_bitCount_95d88 27 = .ok (.lushr, 1) := by decide +kernel
theorem dJ13_bitCount_95d88_28 : decode cJ13_bitCount_95d88 28 = .ok (.ladd, 1) := by decide +kernel
theorem dJ13_bitCount_95d88_29 : decode cJ13_bitCount_95d88 29 = .ok (.ldc2_w 318, 3) := by decide +kernel
theorem dJ13_bitCount_95d88_32 : decode cJ13_bitCount_95d88 32 = .ok (.land, 1) := by decide +kernel
theorem dJ13_bitCount_95d88_33 : decode cJ13_bitCount_95d88 33 = .ok (.lstore_n 0, 1) := by decide +kernel
theorem dJ13_bitCount_95d88_34 : decode cJ13_bitCount_95d88 34 = .ok (.lload_n 0, 1) := by decide +kernel
theorem dJ13_bitCount_95d88_35 : decode cJ13_bitCount_95d88 35 = .ok (.lload_n 0, 1) := by decide +kernel
theorem dJ13_bitCount_95d88_36 : decode cJ13_bitCount_95d88 36 = .ok (.bipush 8, 2) := by decide +kernel
theorem dJ13_bitCount_95d88_38 : decode cJ13_bitCount_95d88 38 = .ok (.lushr, 1) := by decide +kernel
theorem dJ13_bitCount_95d88_39 : decode cJ13_bitCount_95d88 39 = .ok (.ladd, 1) := by decide +kernel
theorem dJ13_bitCount_95d88_40 : decode cJ13_bitCount_95d88 40 = .ok (.lstore_n 0, 1) := by decide +kernel
theorem dJ13_bitCount_95d88_41 : decode cJ13_bitCount_95d88 41 = .ok (.lload_n 0, 1) := by decide +kernel
theorem dJ13_bitCount_95d88_42 : decode cJ13_bitCount_95d88 42 = .ok (.lload_n 0, 1) := by decide +kernel
theorem dJ13_bitCount_95d88_43 : decode cJ13_bitCount_95d88 43 = .ok (.bipush 16, 2) := by decide +kernel
theorem dJ13_bitCount_95d88_45 : decode cJ13_bitCount_95d88 45 = .ok (.lushr, 1) := by decide +kernel
theorem dJ13_bitCount_95d88_46 : decode cJ13_bitCount_95d88 46 = .ok (.ladd, 1) := by decide +kernel
theorem dJ13_bitCount_95d88_47 : decode cJ13_bitCount_95d88 47 = .ok (.lstore_n 0, 1) := by decide +kernel
theorem dJ13_bitCount_95d88_48 : decode cJ13_bitCount_95d88 48 = .ok (.lload_n 0, 1) := by decide +kernel
theorem dJ13_bitCount_95d88_49 : decode cJ13_bitCount_95d88 49 = .ok (.lload_n 0, 1) := by decide +kernel
theorem dJ13_bitCount_95d88_50 : decode cJ13_bitCount_95d88 50 = .ok (.bipush 32, 2) := by decide +kernel
theorem dJ13_bitCount_95d88_52 : decode cJ13_bitCount_95d88 52 = .ok (.lushr, 1) := by decide +kernel
theorem dJ13_bitCount_95d88_53 : decode cJ13_bitCount_95d88 53 = .ok (.ladd, 1) := by decide +kernel
theorem dJ13_bitCount_95d88_54 : decode cJ13_bitCount_95d88 54 = .ok (.lstore_n 0, 1) := by decide +kernel
theorem dJ13_bitCount_95d88_55 : decode cJ13_bitCount_95d88 55 = .ok (.lload_n 0, 1) := by decide +kernel
theorem dJ13_bitCount_95d88_56 : decode cJ13_bitCount_95d88 56 = .ok (.l2i, 1) := by decide +kernel
theorem dJ13_bitCount_95d88_57 : decode cJ13_bitCount_95d88 57 = .ok (.bipush 127, 2) := by decide +kernel
theorem dJ13_bitCount_95d88_59 : decode cJ13_bitCount_95d88 59 = .ok (.iand, 1) := by decide +kernel
theorem dJ13_bitCount_95d88_60 : decode cJ13_bitCount_95d88 60 = .ok (.ireturn, 1) := by decide +kernel
theorem dJ9_max_7cf53_0 : decode cJ9_max_7cf53 0 = .ok (.iload_n 0, 1) := by decide +kernel
theorem dJ9_max_7cf53_1 : decode cJ9_max_7cf53 1 = .ok (.iload_n 1, 1) := by decide +kernel
theorem dJ9_max_7cf53_2 : decode cJ9_max_7cf53 2 = .ok (.if_icmp .lt 7, 3) := by decide +kernel
theorem dJ9_max_7cf53_5 : decode cJ9_max_7cf53 5 = .ok (.iload_n 0, 1) := by decide +kernel
theorem dJ9_max_7cf53_6 : decode cJ9_max_7cf53 6 = .ok (.goto 4, 3) := by decide +kernel
theorem dJ9_max_7cf53_9 : decode cJ9_max_7cf53 9 = .ok (.iload_n 1, 1) := by decide +kernel
theorem dJ9_max_7cf53_10 : decode cJ9_max_7cf53 10 = .ok (.ireturn, 1) := by decide +kernel
set_option maxRecDepth 20000 in
theorem ggL_law_X4_init : GoodIn wsL_law wsX4_init := goodIn_r _ [8, 9, 10, 11, 12, 13, 14, 15, 16, 17, 18, 19, 20, 21, 22, 23, 24, 25, 26, 27, 28, 29, 30, 31, 32, 33, 34, 35, 36, 37, 38, 39, 40, 41, 42, 43, 44, 45, 46, 47, 48, 49, 50, 51, 52, 53, 54, 55, 56, 57, 58, 59, 60, 61, 62, 63, 64, 65, 66, 67, 640, 641, 642, 643, 644, 645, 646, 647, 648, 649, 650, 651, 652, 653, 654, 609, 610, 611, 612, 613, 614, 615, 655, 656, 657, 658, 659, 660, 661, 662] (by decide +kernel) (by decide +kernel)
set_option maxRecDepth 20000 in
theorem gL_law_X4_init : GoodIn wsL_law (wsX4_init) := ggL_law_X4_init
set_option maxRecDepth 20000 in
theorem ggL_law_X5_init : GoodIn wsL_law wsX5_init := goodIn_r _ [70, 71, 10, 11, 34, 72, 73, 74, 75, 76, 77, 78, 79, 80, 81, 82, 83, 84, 85, 86, 87, 88, 89, 90, 91, 92, 93, 94, 95, 5, 96, 97, 98, 616, 617, 618, 619, 620, 621, 622, 623, 624, 625, 626, 627, 628, 629, 630, 631, 632, 633, 634, 635, 636, 637, 638, 639] (by decide +kernel) (by decide +kernel)
set_option maxRecDepth 20000 in
theorem gL_law_X5_init : GoodIn wsL_law (wsX5_init) := ggL_law_X5_init
set_option maxRecDepth 20000 in
theorem ggL_law_X4_input : GoodIn wsL_law wsX4_input := goodIn_r _ [102, 15, 103, 104, 105, 106, 14, 107, 108, 109, 110, 111, 112, 40, 113, 114, 115, 116, 117, 35, 118, 119, 120, 2, 121, 19, 28, 29, 23, 122, 123, 124, 18, 125, 54, 126, 127, 128, 129, 130, 131, 132, 133, 134, 22, 135, 60, 609, 610, 611, 612, 613, 614, 615, 640, 641, 642, 643, 644, 645, 646, 647, 648, 649, 650, 651, 652, 653, 654, 655, 656, 657, 658, 659, 660] (by decide +kernel) (by decide +kernel)
set_option maxRecDepth 20000 in
theorem gL_law_X4_input : GoodIn wsL_law (wsV RL 13 RX4 yX4_input wsX4_input) := goodIn_app (goodIn_of _ (by decide +kernel)) ggL_law_X4_input
set_option maxRecDepth 20000 in
theorem ggL_law_X5_input : GoodIn wsL_law wsX5_input := goodIn_r _ [139, 140, 141, 77, 142, 143, 144, 5, 145, 72, 73, 74, 75, 76, 93, 94, 95, 96, 97, 84, 98, 85, 616, 617, 618, 619, 620, 621, 622, 623, 624, 625, 626, 627, 628, 629, 630, 631, 632, 633, 634, 635, 636, 637, 638, 639] (by decide +kernel) (by decide +kernel)
set_option maxRecDepth 20000 in
theorem gL_law_X5_input : GoodIn wsL_law (wsV RL 17 RX5 yX5_input wsX5_input) := goodIn_app (goodIn_of _ (by decide +kernel)) ggL_law_X5_input
set_option maxRecDepth 20000 in
theorem ggL_law_X4_fixed : GoodIn wsL_law wsX4_fixed := goodIn_r _ [149, 15, 150, 151, 2, 152, 104, 105, 106, 14, 107, 108, 153, 154, 155, 156, 40, 114, 115, 116, 117, 35, 118, 119, 120, 121, 19, 28, 29, 23, 122, 123, 124, 18, 125, 54, 126, 127, 128, 129, 130, 131, 132, 133, 134, 22, 135, 60, 609, 610, 611, 612, 613, 614, 615, 640, 641, 642, 643, 644, 645, 646, 647, 648, 649, 650, 651, 652, 653, 654, 655, 656, 657, 658, 659, 660] (by decide +kernel) (by decide +kernel)
set_option maxRecDepth 20000 in
theorem gL_law_X4_fixed : GoodIn wsL_law (wsV RL 18 RX4 yX4_fixed wsX4_fixed) := goodIn_app (goodIn_of _ (by decide +kernel)) ggL_law_X4_fixed
set_option maxRecDepth 20000 in
theorem ggL_law_X5_fixed : GoodIn wsL_law wsX5_fixed := goodIn_r _ [160, 141, 161, 162, 5, 163, 142, 143, 144, 145, 72, 73, 74, 75, 76, 93, 94, 95, 96, 97, 84, 98, 85, 616, 617, 618, 619, 620, 621, 622, 623, 624, 625, 626, 627, 628, 629, 630, 631, 632, 633, 634, 635, 636, 637, 638, 639] (by decide +kernel) (by decide +kernel)
set_option maxRecDepth 20000 in
theorem gL_law_X5_fixed : GoodIn wsL_law (wsV RL 22 RX5 yX5_fixed wsX5_fixed) := goodIn_app (goodIn_of _ (by decide +kernel)) ggL_law_X5_fixed
set_option maxRecDepth 20000 in
theorem ggL_law_X4_gate : GoodIn wsL_law wsX4_gate := goodIn_r _ [167, 15, 168, 169, 170, 14, 171, 108, 104, 105, 106, 107, 172, 173, 174, 175, 36, 37, 38, 39, 114, 115, 116, 117, 35, 118, 119, 120, 2, 121, 19, 28, 29, 23, 122, 123, 124, 18, 125, 54, 126, 127, 128, 129, 130, 131, 132, 133, 134, 22, 135, 60, 609, 610, 611, 612, 613, 614, 615, 640, 641, 642, 643, 644, 645, 646, 647, 648, 649, 650, 651, 652, 653, 654, 655, 656, 657, 658, 659, 660] (by decide +kernel) (by decide +kernel)
set_option maxRecDepth 20000 in
theorem gL_law_X4_gate : GoodIn wsL_law (wsV RL 23 RX4 yX4_gate wsX4_gate) := goodIn_app (goodIn_of _ (by decide +kernel)) ggL_law_X4_gate
set_option maxRecDepth 20000 in
theorem ggL_law_X5_gate : GoodIn wsL_law wsX5_gate := goodIn_r _ [179, 141, 161, 162, 5, 163, 180, 181, 182, 183, 142, 143, 144, 145, 72, 73, 74, 75, 76, 93, 94, 95, 96, 97, 84, 98, 85, 616, 617, 618, 619, 620, 621, 622, 623, 624, 625, 626, 627, 628, 629, 630, 631, 632, 633, 634, 635, 636, 637, 638, 639] (by decide +kernel) (by decide +kernel)
set_option maxRecDepth 20000 in
theorem gL_law_X5_gate : GoodIn wsL_law (wsV RL 27 RX5 yX5_gate wsX5_gate) := goodIn_app (goodIn_of _ (by decide +kernel)) ggL_law_X5_gate
set_option maxRecDepth 20000 in
theorem ggL_law_X4_store : GoodIn wsL_law wsX4_store := goodIn_r _ [187, 15, 188, 189, 190, 2, 191, 150, 151, 152, 104, 105, 106, 14, 107, 108, 192, 193, 194, 195, 41, 131, 42, 43, 44, 45, 114, 115, 116, 117, 35, 118, 119, 120, 121, 19, 28, 29, 23, 122, 123, 124, 18, 125, 54, 126, 127, 128, 129, 130, 132, 133, 134, 22, 135, 60, 609, 610, 611, 612, 613, 614, 615, 640, 641, 642, 643, 644, 645, 646, 647, 648, 649, 650, 651, 652, 653, 654, 655, 656, 657, 658, 659, 660] (by decide +kernel) (by decide +kernel)
set_option maxRecDepth 20000 in
theorem gL_law_X4_store : GoodIn wsL_law (wsV RL 28 RX4 yX4_store wsX4_store) := goodIn_app (goodIn_of _ (by decide +kernel)) ggL_law_X4_store
set_option maxRecDepth 20000 in
theorem ggL_law_X5_store : GoodIn wsL_law wsX5_store := goodIn_r _ [199, 98, 141, 78, 79, 80, 81, 161, 162, 5, 163, 142, 143, 144, 145, 72, 73, 74, 75, 76, 93, 94, 95, 96, 97, 84, 85, 616, 617, 618, 619, 620, 621, 622, 623, 624, 625, 626, 627, 628, 629, 630, 631, 632, 633, 634, 635, 636, 637, 638, 639] (by decide +kernel) (by decide +kernel)
set_option maxRecDepth 20000 in
theorem gL_law_X5_store : GoodIn wsL_law (wsV RL 32 RX5 yX5_store wsX5_store) := goodIn_app (goodIn_of _ (by decide +kernel)) ggL_law_X5_store
set_option maxRecDepth 20000 in
theorem ggL_law_X4_reads : GoodIn wsL_law wsX4_reads := goodIn_r _ [203, 15, 204, 205, 168, 169, 170, 14, 171, 108, 206, 207, 208, 209, 35, 210, 118, 119, 120, 2, 121, 19, 28, 29, 23, 122, 123, 124, 18, 125, 54, 126, 127, 128, 129, 130, 131, 132, 133, 134, 22, 135, 60, 609, 610, 611, 612, 613, 614, 615, 640, 641, 642, 643, 644, 645, 646, 647, 648, 649, 650, 651, 652, 653, 654, 655, 656, 657, 658, 659, 660] (by decide +kernel) (by decide +kernel)
set_option maxRecDepth 20000 in
theorem gL_law_X4_reads : GoodIn wsL_law (wsV RL 33 RX4 yX4_reads wsX4_reads) := goodIn_app (goodIn_of _ (by decide +kernel)) ggL_law_X4_reads
set_option maxRecDepth 20000 in
theorem ggL_law_X5_reads : GoodIn wsL_law wsX5_reads := goodIn_r _ [214, 72, 81, 73, 180, 181, 182, 5, 183, 141, 161, 162, 163, 93, 94, 95, 96, 97, 84, 98, 85, 616, 617, 618, 619, 620, 621, 622, 623, 624, 625, 626, 627, 628, 629, 630, 631, 632, 633, 634, 635, 636, 637, 638, 639] (by decide +kernel) (by decide +kernel)
set_option maxRecDepth 20000 in
theorem gL_law_X5_reads : GoodIn wsL_law (wsV RL 36 RX5 yX5_reads wsX5_reads) := goodIn_app (goodIn_of _ (by decide +kernel)) ggL_law_X5_reads
set_option maxRecDepth 20000 in
theorem ggL_law_X4_about : GoodIn wsL_law wsX4_about := goodIn_r _ [218, 15, 219, 220, 204, 168, 169, 170, 14, 171, 108, 206, 207, 208, 209, 35, 210, 221, 222, 223, 224, 43, 44, 45, 609, 610, 611, 612, 613, 614, 615, 640, 641, 642, 643, 644, 645, 646, 647, 648, 649, 650, 651, 652, 653, 654] (by decide +kernel) (by decide +kernel)
set_option maxRecDepth 20000 in
theorem gL_law_X4_about : GoodIn wsL_law (wsV RL 37 RX4 yX4_about wsX4_about) := goodIn_app (goodIn_of _ (by decide +kernel)) ggL_law_X4_about
set_option maxRecDepth 20000 in
theorem ggL_law_X5_about : GoodIn wsL_law wsX5_about := goodIn_r _ [228, 72, 73, 79, 80, 81, 180, 181, 182, 5, 183, 141, 161, 162, 163, 616, 617, 618, 619, 620, 621, 622, 623, 624, 625, 626, 627, 628, 629, 630, 631, 632, 633, 634, 635, 636, 637, 638, 639] (by decide +kernel) (by decide +kernel)
set_option maxRecDepth 20000 in
theorem gL_law_X5_about : GoodIn wsL_law (wsV RL 40 RX5 yX5_about wsX5_about) := goodIn_app (goodIn_of _ (by decide +kernel)) ggL_law_X5_about
set_option maxRecDepth 20000 in
theorem ggL_law_X4_line : GoodIn wsL_law wsX4_line := goodIn_r _ [232, 30, 189, 190, 2, 191, 609, 610, 611, 612, 613, 614, 615] (by decide +kernel) (by decide +kernel)
set_option maxRecDepth 20000 in
theorem gL_law_X4_line : GoodIn wsL_law (wsV RL 41 RX4 yX4_line wsX4_line) := goodIn_app (goodIn_of _ (by decide +kernel)) ggL_law_X4_line
set_option maxRecDepth 20000 in
theorem ggL_law_X5_line : GoodIn wsL_law wsX5_line := goodIn_r _ [236, 83, 161, 162, 5, 163, 616, 617, 618, 619, 620, 621, 622, 623, 624, 625, 626, 627, 628, 629, 630, 631, 632, 633, 634, 635, 636, 637, 638, 639] (by decide +kernel) (by decide +kernel)
set_option maxRecDepth 20000 in
theorem gL_law_X5_line : GoodIn wsL_law (wsV RL 45 RX5 yX5_line wsX5_line) := goodIn_app (goodIn_of _ (by decide +kernel)) ggL_law_X5_line
set_option maxRecDepth 20000 in
theorem ggL_law_X4_set : GoodIn wsL_law wsX4_set := goodIn_r _ [240, 15, 241, 168, 169, 170, 14, 171, 108, 206, 207, 208, 209, 35, 210, 150, 151, 2, 152, 609, 610, 611, 612, 613, 614, 615, 640, 641, 642, 643, 644, 645, 646, 647, 648, 649, 650, 651, 652, 653, 654] (by decide +kernel) (by decide +kernel)
set_option maxRecDepth 20000 in
theorem gL_law_X4_set : GoodIn wsL_law (wsV RL 46 RX4 yX4_set wsX4_set) := goodIn_app (goodIn_of _ (by decide +kernel)) ggL_law_X4_set
set_option maxRecDepth 20000 in
theorem ggL_law_X5_set : GoodIn wsL_law wsX5_set := goodIn_r _ [245, 72, 77, 73, 180, 181, 182, 5, 183, 141, 161, 162, 163, 616, 617, 618, 619, 620, 621, 622, 623, 624, 625, 626, 627, 628, 629, 630, 631, 632, 633, 634, 635, 636, 637, 638, 639] (by decide +kernel) (by decide +kernel)
set_option maxRecDepth 20000 in
theorem gL_law_X5_set : GoodIn wsL_law (wsV RL 49 RX5 yX5_set wsX5_set) := goodIn_app (goodIn_of _ (by decide +kernel)) ggL_law_X5_set
set_option maxRecDepth 20000 in
theorem ggL_law_X4_tick : GoodIn wsL_law wsX4_tick := goodIn_r _ [249, 15, 30, 19, 28, 23, 29, 250, 251, 2, 252, 253, 254, 255, 14, 256, 131, 43, 257, 258, 259, 18, 260, 54, 53, 127, 128, 129, 130, 261, 262, 263, 264, 108, 35, 40, 265, 266, 267, 268, 269, 270, 271, 52, 272, 273, 274, 275, 276, 126, 277, 278, 279, 280, 281, 282, 283, 284, 285, 286, 287, 288, 289, 290, 291, 292, 293, 294, 295, 296, 297, 298, 299, 300, 301, 302, 22, 303, 61, 304, 60, 305, 59, 306, 307, 308, 309, 310, 311, 312, 313, 314, 315, 316, 317, 318, 319, 320, 321, 322, 323, 324, 325, 326, 327, 328, 329, 330, 331, 332, 333, 334, 335, 336, 609, 610, 611, 612, 613, 614, 615, 640, 641, 642, 643, 644, 645, 646, 647, 648, 649, 650, 651, 652, 653, 654, 655, 656, 657, 658, 659, 660] (by decide +kernel) (by decide +kernel)
set_option maxRecDepth 20000 in
theorem gL_law_X4_tick : GoodIn wsL_law (wsV RL 50 RX4 yX4_tick wsX4_tick) := goodIn_app (goodIn_of _ (by decide +kernel)) ggL_law_X4_tick
set_option maxRecDepth 20000 in
theorem ggL_law_X5_tick : GoodIn wsL_law wsX5_tick := goodIn_r _ [340, 98, 85, 80, 86, 81, 97, 84, 88, 161, 162, 5, 163, 341, 342, 343, 344, 140, 87, 345, 346, 347, 348, 141, 72, 73, 74, 75, 76, 349, 350, 351, 352, 353, 354, 355, 356, 357, 358, 359, 79, 83, 360, 361, 362, 363, 89, 364, 365, 366, 367, 77, 368, 369, 370, 371, 372, 373, 374, 375, 376, 377, 378, 616, 617, 618, 619, 620, 621, 622, 623, 624, 625, 626, 627, 628, 629, 630, 631, 632, 633, 634, 635, 636, 637, 638, 639] (by decide +kernel) (by decide +kernel)
set_option maxRecDepth 20000 in
theorem gL_law_X5_tick : GoodIn wsL_law (wsV RL 53 RX5 yX5_tick wsX5_tick) := goodIn_app (goodIn_of _ (by decide +kernel)) ggL_law_X5_tick
set_option maxRecDepth 20000 in
theorem ggL_law_X4_fresh : GoodIn wsL_law wsX4_fresh := goodIn_r _ [382, 29, 118, 119, 120, 2, 121, 19, 28, 23, 122, 123, 124, 18, 125, 54, 126, 127, 128, 129, 14, 130, 131, 132, 133, 134, 22, 135, 60, 609, 610, 611, 612, 613, 614, 615, 655, 656, 657, 640, 641, 642, 643, 644, 645, 646, 647, 648, 649, 650, 651, 652, 653, 654, 658, 659, 660] (by decide +kernel) (by decide +kernel)
set_option maxRecDepth 20000 in
theorem gL_law_X4_fresh : GoodIn wsL_law (wsV RL 54 RX4 yX4_fresh wsX4_fresh) := goodIn_app (goodIn_of _ (by decide +kernel)) ggL_law_X4_fresh
set_option maxRecDepth 20000 in
theorem ggL_law_X5_fresh : GoodIn wsL_law wsX5_fresh := goodIn_r _ [386, 97, 93, 94, 95, 5, 96, 84, 98, 85, 616, 617, 618, 619, 620, 621, 622, 623, 624, 625, 626, 627, 628, 629, 630, 631, 632, 633, 634, 635, 636, 637, 638, 639] (by decide +kernel) (by decide +kernel)
set_option maxRecDepth 20000 in
theorem gL_law_X5_fresh : GoodIn wsL_law (wsV RL 57 RX5 yX5_fresh wsX5_fresh) := goodIn_app (goodIn_of _ (by decide +kernel)) ggL_law_X5_fresh
set_option maxRecDepth 20000 in
theorem ggL_law_X4_possible : GoodIn wsL_law wsX4_possible := goodIn_r _ [390, 28, 330, 331, 332, 333, 334, 335, 336, 609, 610, 611, 612, 613, 614, 615] (by decide +kernel) (by decide +kernel)
set_option maxRecDepth 20000 in
theorem gL_law_X4_possible : GoodIn wsL_law (wsV RL 58 RX4 yX4_possible wsX4_possible) := goodIn_app (goodIn_of _ (by decide +kernel)) ggL_law_X4_possible
set_option maxRecDepth 20000 in
theorem ggL_law_X5_possible : GoodIn wsL_law wsX5_possible := goodIn_r _ [394, 352, 353, 354, 5, 355, 88, 98, 84, 375, 376, 377, 378, 616, 617, 618, 619, 620, 621, 622, 623, 624, 625, 626, 627, 628, 629, 630, 631, 632, 633, 634, 635, 636, 637, 638, 639] (by decide +kernel) (by decide +kernel)
set_option maxRecDepth 20000 in
theorem gL_law_X5_possible : GoodIn wsL_law (wsV RL 61 RX5 yX5_possible wsX5_possible) := goodIn_app (goodIn_of _ (by decide +kernel)) ggL_law_X5_possible
set_option maxRecDepth 20000 in
theorem ggL_law_X4_row : GoodIn wsL_law wsX4_row := goodIn_r _ [398, 28, 609, 610, 611, 612, 613, 614, 615] (by decide +kernel) (by decide +kernel)
set_option maxRecDepth 20000 in
theorem gL_law_X4_row : GoodIn wsL_law (wsV RL 62 RX4 yX4_row wsX4_row) := goodIn_app (goodIn_of _ (by decide +kernel)) ggL_law_X4_row
set_option maxRecDepth 20000 in
theorem ggL_law_X5_row : GoodIn wsL_law wsX5_row := goodIn_r _ [402, 84, 616, 617, 618, 619, 620, 621, 622, 623, 624, 625, 626, 627, 628, 629, 630, 631, 632, 633, 634, 635, 636, 637, 638, 639] (by decide +kernel) (by decide +kernel)
set_option maxRecDepth 20000 in
theorem gL_law_X5_row : GoodIn wsL_law (wsV RL 65 RX5 yX5_row wsX5_row) := goodIn_app (goodIn_of _ (by decide +kernel)) ggL_law_X5_row
set_option maxRecDepth 20000 in
theorem ggL_law_X4_sure : GoodIn wsL_law wsX4_sure := goodIn_r _ [406, 15, 19, 28, 168, 169, 170, 14, 171, 108, 407, 408, 409, 18, 410, 54, 52, 126, 261, 262, 263, 264, 35, 40, 265, 266, 267, 268, 269, 270, 271, 272, 273, 274, 275, 276, 277, 278, 279, 280, 281, 282, 283, 284, 609, 610, 611, 612, 613, 614, 615, 640, 641, 642, 643, 644, 645, 646, 647, 648, 649, 650, 651, 652, 653, 654, 655, 656, 657] (by decide +kernel) (by decide +kernel)
set_option maxRecDepth 20000 in
theorem gL_law_X4_sure : GoodIn wsL_law (wsV RL 66 RX4 yX4_sure wsX4_sure) := goodIn_app (goodIn_of _ (by decide +kernel)) ggL_law_X4_sure
set_option maxRecDepth 20000 in
theorem ggL_law_X5_sure : GoodIn wsL_law wsX5_sure := goodIn_r _ [414, 180, 181, 182, 5, 183, 141, 161, 162, 163, 415, 416, 417, 418, 98, 140, 84, 86, 364, 365, 366, 367, 77, 345, 346, 347, 348, 72, 73, 74, 75, 76, 349, 350, 351, 616, 617, 618, 619, 620, 621, 622, 623, 624, 625, 626, 627, 628, 629, 630, 631, 632, 633, 634, 635, 636, 637, 638, 639] (by decide +kernel) (by decide +kernel)
set_option maxRecDepth 20000 in
theorem gL_law_X5_sure : GoodIn wsL_law (wsV RL 69 RX5 yX5_sure wsX5_sure) := goodIn_app (goodIn_of _ (by decide +kernel)) ggL_law_X5_sure
set_option maxRecDepth 20000 in
theorem ggL_law_X4_told : GoodIn wsL_law wsX4_told := goodIn_r _ [422, 15, 23, 423, 168, 169, 170, 14, 171, 108, 424, 308, 309, 22, 310, 61, 311, 312, 59, 60, 313, 314, 315, 316, 317, 318, 319, 320, 321, 322, 323, 324, 325, 326, 327, 328, 329, 609, 610, 611, 612, 613, 614, 615, 658, 659, 660, 640, 641, 642, 643, 644, 645, 646, 647, 648, 649, 650, 651, 652, 653, 654] (by decide +kernel) (by decide +kernel)
set_option maxRecDepth 20000 in
theorem gL_law_X4_told : GoodIn wsL_law (wsV RL 70 RX4 yX4_told wsX4_told) := goodIn_app (goodIn_of _ (by decide +kernel)) ggL_law_X4_told
set_option maxRecDepth 20000 in
theorem ggL_law_X5_told : GoodIn wsL_law wsX5_told := goodIn_r _ [428, 86, 180, 181, 182, 5, 183, 141, 161, 162, 163, 368, 369, 370, 371, 73, 72, 74, 75, 76, 77, 85, 372, 373, 374, 616, 617, 618, 619, 620, 621, 622, 623, 624, 625, 626, 627, 628, 629, 630, 631, 632, 633, 634, 635, 636, 637, 638, 639] (by decide +kernel) (by decide +kernel)
set_option maxRecDepth 20000 in
theorem gL_law_X5_told : GoodIn wsL_law (wsV RL 73 RX5 yX5_told wsX5_told) := goodIn_app (goodIn_of _ (by decide +kernel)) ggL_law_X5_told
set_option maxRecDepth 20000 in
theorem ggL_law_X4_known : GoodIn wsL_law wsX4_known := goodIn_r _ [432, 23, 19, 28, 433, 434, 435, 22, 436, 61, 304, 60, 437, 438, 439, 18, 440, 54, 289, 272, 609, 610, 611, 612, 613, 614, 615, 658, 659, 660, 640, 641, 642, 643, 644, 645, 646, 647, 648, 649, 650, 651, 652, 653, 654, 655, 656, 657] (by decide +kernel) (by decide +kernel)
set_option maxRecDepth 20000 in
theorem gL_law_X4_known : GoodIn wsL_law (wsV RL 74 RX4 yX4_known wsX4_known) := goodIn_app (goodIn_of _ (by decide +kernel)) ggL_law_X4_known
set_option maxRecDepth 20000 in
theorem ggL_law_X5_known : GoodIn wsL_law wsX5_known := goodIn_r _ [444, 98, 85, 78, 415, 416, 417, 5, 418, 140, 84, 86, 364, 365, 366, 367, 77, 345, 346, 347, 348, 141, 72, 73, 74, 75, 76, 349, 350, 351, 616, 617, 618, 619, 620, 621, 622, 623, 624, 625, 626, 627, 628, 629, 630, 631, 632, 633, 634, 635, 636, 637, 638, 639] (by decide +kernel) (by decide +kernel)
set_option maxRecDepth 20000 in
theorem gL_law_X5_known : GoodIn wsL_law (wsV RL 78 RX5 yX5_known wsX5_known) := goodIn_app (goodIn_of _ (by decide +kernel)) ggL_law_X5_known
set_option maxRecDepth 20000 in
theorem ggL_law_X4_settles : GoodIn wsL_law wsX4_settles := goodIn_r _ [448, 19, 28, 15, 30, 257, 258, 259, 18, 260, 54, 53, 127, 128, 129, 14, 130, 131, 261, 262, 263, 264, 108, 35, 40, 265, 266, 267, 268, 269, 270, 271, 52, 272, 273, 274, 275, 276, 126, 277, 278, 279, 280, 281, 282, 283, 284, 285, 286, 287, 288, 289, 290, 253, 254, 255, 256, 43, 449, 450, 451, 452, 453, 331, 332, 333, 334, 335, 336, 454, 292, 293, 294, 295, 296, 297, 298, 299, 609, 610, 611, 612, 613, 614, 615, 655, 656, 657, 640, 641, 642, 643, 644, 645, 646, 647, 648, 649, 650, 651, 652, 653, 654] (by decide +kernel) (by decide +kernel)
set_option maxRecDepth 20000 in
theorem gL_law_X4_settles : GoodIn wsL_law (wsV RL 79 RX4 yX4_settles wsX4_settles) := goodIn_app (goodIn_of _ (by decide +kernel)) ggL_law_X4_settles
set_option maxRecDepth 20000 in
theorem ggL_law_X5_settles : GoodIn wsL_law wsX5_settles := goodIn_r _ [458, 341, 342, 343, 5, 344, 98, 140, 86, 81, 87, 345, 346, 347, 348, 141, 72, 73, 74, 75, 76, 349, 350, 351, 352, 353, 354, 355, 88, 84, 356, 357, 358, 359, 79, 83, 459, 460, 461, 462, 375, 376, 377, 378, 360, 361, 362, 363, 80, 89, 364, 365, 366, 367, 77, 616, 617, 618, 619, 620, 621, 622, 623, 624, 625, 626, 627, 628, 629, 630, 631, 632, 633, 634, 635, 636, 637, 638, 639] (by decide +kernel) (by decide +kernel)
set_option maxRecDepth 20000 in
theorem gL_law_X5_settles : GoodIn wsL_law (wsV RL 82 RX5 yX5_settles wsX5_settles) := goodIn_app (goodIn_of _ (by decide +kernel)) ggL_law_X5_settles
set_option maxRecDepth 20000 in
theorem ggL_law_X4_next : GoodIn wsL_law wsX4_next := goodIn_r _ [466, 15, 19, 30, 467, 128, 129, 14, 130, 131, 468, 266, 267, 18, 268, 54, 269, 270, 271, 52, 272, 273, 274, 275, 276, 126, 277, 278, 279, 280, 281, 282, 283, 284, 253, 254, 255, 256, 43, 469, 286, 287, 288, 289, 290, 470, 471, 472, 473, 44, 609, 610, 611, 612, 613, 614, 615, 640, 641, 642, 643, 644, 645, 646, 647, 648, 649, 650, 651, 652, 653, 654, 655, 656, 657] (by decide +kernel) (by decide +kernel)
set_option maxRecDepth 20000 in
theorem gL_law_X4_next : GoodIn wsL_law (wsV RL 83 RX4 yX4_next wsX4_next) := goodIn_app (goodIn_of _ (by decide +kernel)) ggL_law_X4_next
set_option maxRecDepth 20000 in
theorem ggL_law_X5_next : GoodIn wsL_law wsX5_next := goodIn_r _ [477, 98, 140, 77, 87, 80, 161, 162, 5, 163, 341, 342, 343, 344, 86, 81, 345, 346, 347, 348, 141, 72, 73, 74, 75, 76, 349, 350, 351, 356, 357, 358, 359, 79, 83, 616, 617, 618, 619, 620, 621, 622, 623, 624, 625, 626, 627, 628, 629, 630, 631, 632, 633, 634, 635, 636, 637, 638, 639] (by decide +kernel) (by decide +kernel)
set_option maxRecDepth 20000 in
theorem gL_law_X5_next : GoodIn wsL_law (wsV RL 86 RX5 yX5_next wsX5_next) := goodIn_app (goodIn_of _ (by decide +kernel)) ggL_law_X5_next
set_option maxRecDepth 20000 in
theorem ggL_law_X4_depends : GoodIn wsL_law wsX4_depends := goodIn_r _ [481, 15, 204, 168, 169, 170, 14, 171, 108, 206, 207, 208, 209, 35, 210, 482, 483, 484, 485, 46, 41, 37, 38, 39, 486, 487, 488, 489, 45, 609, 610, 611, 612, 613, 614, 615, 640, 641, 642, 643, 644, 645, 646, 647, 648, 649, 650, 651, 652, 653, 654] (by decide +kernel) (by decide +kernel)
set_option maxRecDepth 20000 in
theorem gL_law_X4_depends : GoodIn wsL_law (wsV RL 87 RX4 yX4_depends wsX4_depends) := goodIn_app (goodIn_of _ (by decide +kernel)) ggL_law_X4_depends
set_option maxRecDepth 20000 in
theorem ggL_law_X5_depends : GoodIn wsL_law wsX5_depends := goodIn_r _ [493, 72, 90, 81, 73, 180, 181, 182, 5, 183, 141, 161, 162, 163, 494, 495, 496, 497, 74, 75, 76, 616, 617, 618, 619, 620, 621, 622, 623, 624, 625, 626, 627, 628, 629, 630, 631, 632, 633, 634, 635, 636, 637, 638, 639] (by decide +kernel) (by decide +kernel)
set_option maxRecDepth 20000 in
theorem gL_law_X5_depends : GoodIn wsL_law (wsV RL 90 RX5 yX5_depends wsX5_depends) := goodIn_app (goodIn_of _ (by decide +kernel)) ggL_law_X5_depends
set_option maxRecDepth 20000 in
theorem ggL_law_X4_crossings : GoodIn wsL_law wsX4_crossings := goodIn_r _ [501, 15, 188, 482, 483, 484, 14, 485, 108, 35, 46, 41, 37, 38, 39, 502, 503, 504, 505, 43, 506, 487, 488, 489, 45, 609, 610, 611, 612, 613, 614, 615, 640, 641, 642, 643, 644, 645, 646, 647, 648, 649, 650, 651, 652, 653, 654] (by decide +kernel) (by decide +kernel)
set_option maxRecDepth 20000 in
theorem gL_law_X4_crossings : GoodIn wsL_law (wsV RL 91 RX4 yX4_crossings wsX4_crossings) := goodIn_app (goodIn_of _ (by decide +kernel)) ggL_law_X4_crossings
set_option maxRecDepth 20000 in
theorem ggL_law_X5_crossings : GoodIn wsL_law wsX5_crossings := goodIn_r _ [510, 511, 512, 513, 5, 514, 98, 79, 90, 81, 78, 494, 495, 496, 497, 141, 72, 73, 74, 75, 76, 616, 617, 618, 619, 620, 621, 622, 623, 624, 625, 626, 627, 628, 629, 630, 631, 632, 633, 634, 635, 636, 637, 638, 639] (by decide +kernel) (by decide +kernel)
set_option maxRecDepth 20000 in
theorem gL_law_X5_crossings : GoodIn wsL_law (wsV RL 94 RX5 yX5_crossings wsX5_crossings) := goodIn_app (goodIn_of _ (by decide +kernel)) ggL_law_X5_crossings
set_option maxRecDepth 20000 in
theorem ggL_law_X4_crossing : GoodIn wsL_law wsX4_crossing := goodIn_r _ [518, 15, 188, 519, 482, 483, 484, 14, 485, 108, 35, 46, 41, 37, 38, 39, 502, 503, 504, 505, 43, 506, 487, 488, 489, 45, 609, 610, 611, 612, 613, 614, 615, 640, 641, 642, 643, 644, 645, 646, 647, 648, 649, 650, 651, 652, 653, 654] (by decide +kernel) (by decide +kernel)
set_option maxRecDepth 20000 in
theorem gL_law_X4_crossing : GoodIn wsL_law (wsV RL 95 RX4 yX4_crossing wsX4_crossing) := goodIn_app (goodIn_of _ (by decide +kernel)) ggL_law_X4_crossing
set_option maxRecDepth 20000 in
theorem ggL_law_X5_crossing : GoodIn wsL_law wsX5_crossing := goodIn_r _ [523, 511, 512, 513, 5, 514, 98, 79, 90, 81, 78, 494, 495, 496, 497, 141, 72, 73, 74, 75, 76, 616, 617, 618, 619, 620, 621, 622, 623, 624, 625, 626, 627, 628, 629, 630, 631, 632, 633, 634, 635, 636, 637, 638, 639] (by decide +kernel) (by decide +kernel)
set_option maxRecDepth 20000 in
theorem gL_law_X5_crossing : GoodIn wsL_law (wsV RL 98 RX5 yX5_crossing wsX5_crossing) := goodIn_app (goodIn_of _ (by decide +kernel)) ggL_law_X5_crossing
set_option maxRecDepth 20000 in
theorem ggL_law_X4_alone : GoodIn wsL_law wsX4_alone := goodIn_r _ [527, 19, 15, 189, 190, 2, 191, 257, 258, 259, 18, 260, 54, 53, 127, 128, 129, 14, 130, 131, 261, 262, 263, 264, 108, 35, 40, 265, 266, 267, 268, 269, 270, 271, 52, 272, 273, 274, 275, 276, 126, 277, 278, 279, 280, 281, 282, 283, 284, 285, 286, 287, 288, 289, 290, 122, 123, 124, 125, 253, 254, 255, 256, 43, 449, 450, 451, 452, 453, 331, 332, 333, 334, 335, 336, 454, 292, 293, 294, 295, 296, 297, 298, 299, 609, 610, 611, 612, 613, 614, 615, 655, 656, 657, 640, 641, 642, 643, 644, 645, 646, 647, 648, 649, 650, 651, 652, 653, 654] (by decide +kernel) (by decide +kernel)
set_option maxRecDepth 20000 in
theorem gL_law_X4_alone : GoodIn wsL_law (wsV RL 99 RX4 yX4_alone wsX4_alone) := goodIn_app (goodIn_of _ (by decide +kernel)) ggL_law_X4_alone
set_option maxRecDepth 20000 in
theorem ggL_law_X5_alone : GoodIn wsL_law wsX5_alone := goodIn_r _ [531, 98, 79, 161, 162, 5, 163, 341, 342, 343, 344, 140, 86, 81, 87, 345, 346, 347, 348, 141, 72, 73, 74, 75, 76, 349, 350, 351, 352, 353, 354, 355, 88, 84, 459, 460, 461, 462, 375, 376, 377, 378, 360, 361, 362, 363, 80, 89, 364, 365, 366, 367, 77, 616, 617, 618, 619, 620, 621, 622, 623, 624, 625, 626, 627, 628, 629, 630, 631, 632, 633, 634, 635, 636, 637, 638, 639] (by decide +kernel) (by decide +kernel)
set_option maxRecDepth 20000 in
theorem gL_law_X5_alone : GoodIn wsL_law (wsV RL 102 RX5 yX5_alone wsX5_alone) := goodIn_app (goodIn_of _ (by decide +kernel)) ggL_law_X5_alone
set_option maxRecDepth 20000 in
theorem ggL_law_X4_mend : GoodIn wsL_law wsX4_mend := goodIn_r _ [535, 19, 15, 188, 250, 251, 2, 252, 257, 258, 259, 18, 260, 54, 53, 127, 128, 129, 14, 130, 131, 261, 262, 263, 264, 108, 35, 40, 265, 266, 267, 268, 269, 270, 271, 52, 272, 273, 274, 275, 276, 126, 277, 278, 279, 280, 281, 282, 283, 284, 285, 286, 287, 288, 289, 290, 253, 254, 255, 256, 43, 467, 536, 537, 538, 539, 540, 541, 542, 543, 544, 545, 546, 547, 123, 124, 125, 454, 292, 293, 294, 295, 296, 297, 298, 299, 453, 331, 332, 333, 334, 335, 336, 609, 610, 611, 612, 613, 614, 615, 640, 641, 642, 643, 644, 645, 646, 647, 648, 649, 650, 651, 652, 653, 654, 655, 656, 657] (by decide +kernel) (by decide +kernel)
set_option maxRecDepth 20000 in
theorem gL_law_X4_mend : GoodIn wsL_law (wsV RL 103 RX4 yX4_mend wsX4_mend) := goodIn_app (goodIn_of _ (by decide +kernel)) ggL_law_X4_mend
set_option maxRecDepth 20000 in
theorem ggL_law_X5_mend : GoodIn wsL_law wsX5_mend := goodIn_r _ [551, 98, 79, 161, 162, 5, 163, 341, 342, 343, 344, 140, 86, 81, 87, 345, 346, 347, 348, 141, 72, 73, 74, 75, 76, 349, 350, 351, 552, 553, 554, 352, 353, 354, 355, 88, 84, 360, 361, 362, 363, 80, 89, 364, 365, 366, 367, 77, 375, 376, 377, 378, 616, 617, 618, 619, 620, 621, 622, 623, 624, 625, 626, 627, 628, 629, 630, 631, 632, 633, 634, 635, 636, 637, 638, 639] (by decide +kernel) (by decide +kernel)
set_option maxRecDepth 20000 in
theorem gL_law_X5_mend : GoodIn wsL_law (wsV RL 106 RX5 yX5_mend wsX5_mend) := goodIn_app (goodIn_of _ (by decide +kernel)) ggL_law_X5_mend
set_option maxRecDepth 20000 in
theorem ggL_law_X4_need : GoodIn wsL_law wsX4_need := goodIn_r _ [558, 27, 189, 190, 2, 191, 559, 560, 561, 26, 562, 66, 609, 610, 611, 612, 613, 614, 615, 661, 662] (by decide +kernel) (by decide +kernel)
set_option maxRecDepth 20000 in
theorem gL_law_X4_need : GoodIn wsL_law (wsV RL 107 RX4 yX4_need wsX4_need) := goodIn_app (goodIn_of _ (by decide +kernel)) ggL_law_X4_need
set_option maxRecDepth 20000 in
theorem ggL_law_X5_need : GoodIn wsL_law wsX5_need := goodIn_r _ [566, 91, 161, 162, 5, 163, 616, 617, 618, 619, 620, 621, 622, 623, 624, 625, 626, 627, 628, 629, 630, 631, 632, 633, 634, 635, 636, 637, 638, 639] (by decide +kernel) (by decide +kernel)
set_option maxRecDepth 20000 in
theorem gL_law_X5_need : GoodIn wsL_law (wsV RL 111 RX5 yX5_need wsX5_need) := goodIn_app (goodIn_of _ (by decide +kernel)) ggL_law_X5_need
set_option maxRecDepth 20000 in
theorem ggL_law_X4_go : GoodIn wsL_law wsX4_go := goodIn_r _ [570, 27, 571, 189, 190, 2, 191, 572, 573, 574, 26, 575, 67, 576, 577, 578, 579, 66, 609, 610, 611, 612, 613, 614, 615, 661, 662] (by decide +kernel) (by decide +kernel)
set_option maxRecDepth 20000 in
theorem gL_law_X4_go : GoodIn wsL_law (wsV RL 112 RX4 yX4_go wsX4_go) := goodIn_app (goodIn_of _ (by decide +kernel)) ggL_law_X4_go
set_option maxRecDepth 20000 in
theorem ggL_law_X5_go : GoodIn wsL_law wsX5_go := goodIn_r _ [583, 92, 161, 162, 5, 163, 584, 585, 586, 587, 91, 616, 617, 618, 619, 620, 621, 622, 623, 624, 625, 626, 627, 628, 629, 630, 631, 632, 633, 634, 635, 636, 637, 638, 639] (by decide +kernel) (by decide +kernel)
set_option maxRecDepth 20000 in
theorem gL_law_X5_go : GoodIn wsL_law (wsV RL 115 RX5 yX5_go wsX5_go) := goodIn_app (goodIn_of _ (by decide +kernel)) ggL_law_X5_go
set_option maxRecDepth 20000 in
theorem ggL_law_X4_gone : GoodIn wsL_law wsX4_gone := goodIn_r _ [591, 27, 571, 572, 573, 574, 26, 575, 67, 576, 577, 578, 579, 66, 609, 610, 611, 612, 613, 614, 615, 661, 662] (by decide +kernel) (by decide +kernel)
set_option maxRecDepth 20000 in
theorem gL_law_X4_gone : GoodIn wsL_law (wsV RL 116 RX4 yX4_gone wsX4_gone) := goodIn_app (goodIn_of _ (by decide +kernel)) ggL_law_X4_gone
set_option maxRecDepth 20000 in
theorem ggL_law_X5_gone : GoodIn wsL_law wsX5_gone := goodIn_r _ [595, 92, 584, 585, 586, 5, 587, 91, 616, 617, 618, 619, 620, 621, 622, 623, 624, 625, 626, 627, 628, 629, 630, 631, 632, 633, 634, 635, 636, 637, 638, 639] (by decide +kernel) (by decide +kernel)
set_option maxRecDepth 20000 in
theorem gL_law_X5_gone : GoodIn wsL_law (wsV RL 119 RX5 yX5_gone wsX5_gone) := goodIn_app (goodIn_of _ (by decide +kernel)) ggL_law_X5_gone
set_option maxRecDepth 20000 in
theorem ggL_law_X4_count : GoodIn wsL_law wsX4_count := goodIn_r _ [599, 15, 600, 188, 103, 29, 30, 27, 536, 537, 538, 539, 540, 541, 542, 601, 602, 603, 26, 604, 66, 609, 610, 611, 612, 613, 614, 615, 640, 641, 642, 643, 644, 645, 646, 647, 648, 649, 650, 651, 652, 653, 654, 661, 662] (by decide +kernel) (by decide +kernel)
set_option maxRecDepth 20000 in
theorem gL_law_X4_count : GoodIn wsL_law (wsV RL 120 RX4 yX4_count wsX4_count) := goodIn_app (goodIn_of _ (by decide +kernel)) ggL_law_X4_count
set_option maxRecDepth 20000 in
theorem ggL_law_X5_count : GoodIn wsL_law wsX5_count := goodIn_r _ [608, 141, 98, 140, 97, 83, 91, 616, 617, 618, 619, 620, 621, 622, 623, 624, 625, 626, 627, 628, 629, 630, 631, 632, 633, 634, 635, 636, 637, 638, 639] (by decide +kernel) (by decide +kernel)
set_option maxRecDepth 20000 in
theorem gL_law_X5_count : GoodIn wsL_law (wsV RL 123 RX5 yX5_count wsX5_count) := goodIn_app (goodIn_of _ (by decide +kernel)) ggL_law_X5_count
theorem dL_law_0 : decode cL_law 0 = .ok (.new 7, 3) := by decide +kernel
theorem dL_law_3 : decode cL_law 3 = .ok (.dup, 1) := by decide +kernel
theorem dL_law_4 : decode cL_law 4 = .ok (.invokespecial 9, 3) := by decide +kernel
theorem dL_law_7 : decode cL_law 7 = .ok (.astore_n 1, 1) := by decide +kernel
theorem dL_law_8 : decode cL_law 8 = .ok (.new 10, 3) := by decide +kernel
theorem dL_law_11 : decode cL_law 11 = .ok (.dup, 1) := by decide +kernel
theorem dL_law_12 : decode cL_law 12 = .ok (.invokespecial 12, 3) := by decide +kernel
theorem dL_law_15 : decode cL_law 15 = .ok (.astore_n 2, 1) := by decide +kernel
theorem dL_law_16 : decode cL_law 16 = .ok (.iconst 0, 1) := by decide +kernel
theorem dL_law_17 : decode cL_law 17 = .ok (.istore_n 3, 1) := by decide +kernel
theorem dL_law_18 : decode cL_law 18 = .ok (.iload_n 3, 1) := by decide +kernel
theorem dL_law_19 : decode cL_law 19 = .ok (.aload_n 0, 1) := by decide +kernel
theorem dL_law_20 : decode cL_law 20 = .ok (.arraylength, 1) := by decide +kernel
theorem dL_law_21 : decode cL_law 21 = .ok (.iconst 5, 1) := by decide +kernel
theorem dL_law_22 : decode cL_law 22 = .ok (.isub, 1) := by decide +kernel
theorem dL_law_23 : decode cL_law 23 = .ok (.if_icmp .gt 825, 3) := by decide +kernel
theorem dL_law_26 : decode cL_law 26 = .ok (.aload_n 0, 1) := by decide +kernel
theorem dL_law_27 : decode cL_law 27 = .ok (.iload_n 3, 1) := by decide +kernel
theorem dL_law_28 : decode cL_law 28 = .ok (.iaload, 1) := by decide +kernel
theorem dL_law_29 : decode cL_law 29 = .ok (.bipush 31, 2) := by decide +kernel
theorem dL_law_31 : decode cL_law 31 = .ok (.iand, 1) := by decide +kernel
theorem dL_law_32 : decode cL_law 32 = .ok (.tableswitch 810 0 25 #[120, 133, 156, 209, 242, 275, 308, 357, 390, 413, 426, 439, 462, 485, 508, 547, 560, 583, 616, 629, 652, 675, 698, 741, 764, 787], 120) := by decide +kernel
theorem dL_law_152 : decode cL_law 152 = .ok (.aload_n 1, 1) := by decide +kernel
theorem dL_law_153 : decode cL_law 153 = .ok (.invokevirtual 13, 3) := by decide +kernel
theorem dL_law_156 : decode cL_law 156 = .ok (.aload_n 2, 1) := by decide +kernel
theorem dL_law_157 : decode cL_law 157 = .ok (.invokevirtual 17, 3) := by decide +kernel
theorem dL_law_160 : decode cL_law 160 = .ok (.if_icmp .eq 682, 3) := by decide +kernel
theorem dL_law_163 : decode cL_law 163 = .ok (.iconst 0, 1) := by decide +kernel
theorem dL_law_164 : decode cL_law 164 = .ok (.ireturn, 1) := by decide +kernel
theorem dL_law_165 : decode cL_law 165 = .ok (.aload_n 1, 1) := by decide +kernel
theorem dL_law_166 : decode cL_law 166 = .ok (.aload_n 0, 1) := by decide +kernel
theorem dL_law_167 : decode cL_law 167 = .ok (.iload_n 3, 1) := by decide +kernel
theorem dL_law_168 : decode cL_law 168 = .ok (.iconst 1, 1) := by decide +kernel
theorem dL_law_169 : decode cL_law 169 = .ok (.iadd, 1) := by decide +kernel
theorem dL_law_170 : decode cL_law 170 = .ok (.iaload, 1) := by decide +kernel
theorem dL_law_171 : decode cL_law 171 = .ok (.invokevirtual 18, 3) := by decide +kernel
theorem dL_law_174 : decode cL_law 174 = .ok (.aload_n 2, 1) := by decide +kernel
theorem dL_law_175 : decode cL_law 175 = .ok (.aload_n 0, 1) := by decide +kernel
theorem dL_law_176 : decode cL_law 176 = .ok (.iload_n 3, 1) := by decide +kernel
theorem dL_law_177 : decode cL_law 177 = .ok (.iconst 1, 1) := by decide +kernel
theorem dL_law_178 : decode cL_law 178 = .ok (.iadd, 1) := by decide +kernel
theorem dL_law_179 : decode cL_law 179 = .ok (.iaload, 1) := by decide +kernel
theorem dL_law_180 : decode cL_law 180 = .ok (.invokevirtual 22, 3) := by decide +kernel
theorem dL_law_183 : decode cL_law 183 = .ok (.if_icmp .eq 659, 3) := by decide +kernel
theorem dL_law_186 : decode cL_law 186 = .ok (.iconst 0, 1) := by decide +kernel
theorem dL_law_187 : decode cL_law 187 = .ok (.ireturn, 1) := by decide +kernel
theorem dL_law_188 : decode cL_law 188 = .ok (.aload_n 1, 1) := by decide +kernel
theorem dL_law_189 : decode cL_law 189 = .ok (.aload_n 0, 1) := by decide +kernel
theorem dL_law_190 : decode cL_law 190 = .ok (.iload_n 3, 1) := by decide +kernel
theorem dL_law_191 : decode cL_law 191 = .ok (.iconst 1, 1) := by decide +kernel
theorem dL_law_192 : decode cL_law 192 = .ok (.iadd, 1) := by decide +kernel
theorem dL_law_193 : decode cL_law 193 = .ok (.iaload, 1) := by decide +kernel
theorem dL_law_194 : decode cL_law 194 = .ok (.aload_n 0, 1) := by decide +kernel
theorem dL_law_195 : decode cL_law 195 = .ok (.iload_n 3, 1) := by decide +kernel
theorem dL_law_196 : decode cL_law 196 = .ok (.iconst 2, 1) := by decide +kernel
theorem dL_law_197 : decode cL_law 197 = .ok (.iadd, 1) := by decide +kernel
theorem dL_law_198 : decode cL_law 198 = .ok (.iaload, 1) := by decide +kernel
theorem dL_law_199 : decode cL_law 199 = .ok (.aload_n 0, 1) := by decide +kernel
theorem dL_law_200 : decode cL_law 200 = .ok (.iload_n 3, 1) := by decide +kernel
theorem dL_law_201 : decode cL_law 201 = .ok (.iconst 3, 1) := by decide +kernel
theorem dL_law_202 : decode cL_law 202 = .ok (.iadd, 1) := by decide +kernel
theorem dL_law_203 : decode cL_law 203 = .ok (.iaload, 1) := by decide +kernel
theorem dL_law_204 : decode cL_law 204 = .ok (.aload_n 0, 1) := by decide +kernel
theorem dL_law_205 : decode cL_law 205 = .ok (.iload_n 3, 1) := by decide +kernel
theorem dL_law_206 : decode cL_law 206 = .ok (.iconst 4, 1) := by decide +kernel
theorem dL_law_207 : decode cL_law 207 = .ok (.iadd, 1) := by decide +kernel
theorem dL_law_208 : decode cL_law 208 = .ok (.iaload, 1) := by decide +kernel
theorem dL_law_209 : decode cL_law 209 = .ok (.invokevirtual 23, 3) := by decide +kernel
theorem dL_law_212 : decode cL_law 212 = .ok (.aload_n 2, 1) := by decide +kernel
theorem dL_law_213 : decode cL_law 213 = .ok (.aload_n 0, 1) := by decide +kernel
theorem dL_law_214 : decode cL_law 214 = .ok (.iload_n 3, 1) := by decide +kernel
theorem dL_law_215 : decode cL_law 215 = .ok (.iconst 1, 1) := by decide +kernel
theorem dL_law_216 : decode cL_law 216 = .ok (.iadd, 1) := by decide +kernel
theorem dL_law_217 : decode cL_law 217 = .ok (.iaload, 1) := by decide +kernel
theorem dL_law_218 : decode cL_law 218 = .ok (.aload_n 0, 1) := by decide +kernel
theorem dL_law_219 : decode cL_law 219 = .ok (.iload_n 3, 1) := by decide +kernel
theorem dL_law_220 : decode cL_law 220 = .ok (.iconst 2, 1) := by decide +kernel
theorem dL_law_221 : decode cL_law 221 = .ok (.iadd, 1) := by decide +kernel
theorem dL_law_222 : decode cL_law 222 = .ok (.iaload, 1) := by decide +kernel
theorem dL_law_223 : decode cL_law 223 = .ok (.aload_n 0, 1) := by decide +kernel
theorem dL_law_224 : decode cL_law 224 = .ok (.iload_n 3, 1) := by decide +kernel
theorem dL_law_225 : decode cL_law 225 = .ok (.iconst 3, 1) := by decide +kernel
theorem dL_law_226 : decode cL_law 226 = .ok (.iadd, 1) := by decide +kernel
theorem dL_law_227 : decode cL_law 227 = .ok (.iaload, 1) := by decide +kernel
theorem dL_law_228 : decode cL_law 228 = .ok (.aload_n 0, 1) := by decide +kernel
theorem dL_law_229 : decode cL_law 229 = .ok (.iload_n 3, 1) := by decide +kernel
theorem dL_law_230 : decode cL_law 230 = .ok (.iconst 4, 1) := by decide +kernel
theorem dL_law_231 : decode cL_law 231 = .ok (.iadd, 1) := by decide +kernel
theorem dL_law_232 : decode cL_law 232 = .ok (.iaload, 1) := by decide +kernel
theorem dL_law_233 : decode cL_law 233 = .ok (.invokevirtual 27, 3) := by decide +kernel
theorem dL_law_236 : decode cL_law 236 = .ok (.if_icmp .eq 606, 3) := by decide +kernel
theorem dL_law_239 : decode cL_law 239 = .ok (.iconst 0, 1) := by decide +kernel
theorem dL_law_240 : decode cL_law 240 = .ok (.ireturn, 1) := by decide +kernel
theorem dL_law_241 : decode cL_law 241 = .ok (.aload_n 1, 1) := by decide +kernel
theorem dL_law_242 : decode cL_law 242 = .ok (.aload_n 0, 1) := by decide +kernel
theorem dL_law_243 : decode cL_law 243 = .ok (.iload_n 3, 1) := by decide +kernel
theorem dL_law_244 : decode cL_law 244 = .ok (.iconst 1, 1) := by decide +kernel
theorem dL_law_245 : decode cL_law 245 = .ok (.iadd, 1) := by decide +kernel
theorem dL_law_246 : decode cL_law 246 = .ok (.iaload, 1) := by decide +kernel
theorem dL_law_247 : decode cL_law 247 = .ok (.aload_n 0, 1) := by decide +kernel
theorem dL_law_248 : decode cL_law 248 = .ok (.iload_n 3, 1) := by decide +kernel
theorem dL_law_249 : decode cL_law 249 = .ok (.iconst 2, 1) := by decide +kernel
theorem dL_law_250 : decode cL_law 250 = .ok (.iadd, 1) := by decide +kernel
theorem dL_law_251 : decode cL_law 251 = .ok (.iaload, 1) := by decide +kernel
theorem dL_law_252 : decode cL_law 252 = .ok (.invokevirtual 28, 3) := by decide +kernel
theorem dL_law_255 : decode cL_law 255 = .ok (.aload_n 2, 1) := by decide +kernel
theorem dL_law_256 : decode cL_law 256 = .ok (.aload_n 0, 1) := by decide +kernel
theorem dL_law_257 : decode cL_law 257 = .ok (.iload_n 3, 1) := by decide +kernel
theorem dL_law_258 : decode cL_law 258 = .ok (.iconst 1, 1) := by decide +kernel
theorem dL_law_259 : decode cL_law 259 = .ok (.iadd, 1) := by decide +kernel
theorem dL_law_260 : decode cL_law 260 = .ok (.iaload, 1) := by decide +kernel
theorem dL_law_261 : decode cL_law 261 = .ok (.aload_n 0, 1) := by decide +kernel
theorem dL_law_262 : decode cL_law 262 = .ok (.iload_n 3, 1) := by decide +kernel
theorem dL_law_263 : decode cL_law 263 = .ok (.iconst 2, 1) := by decide +kernel
theorem dL_law_264 : decode cL_law 264 = .ok (.iadd, 1) := by decide +kernel
theorem dL_law_265 : decode cL_law 265 = .ok (.iaload, 1) := by decide +kernel
theorem dL_law_266 : decode cL_law 266 = .ok (.invokevirtual 32, 3) := by decide +kernel
theorem dL_law_269 : decode cL_law 269 = .ok (.if_icmp .eq 573, 3) := by decide +kernel
theorem dL_law_272 : decode cL_law 272 = .ok (.iconst 0, 1) := by decide +kernel
theorem dL_law_273 : decode cL_law 273 = .ok (.ireturn, 1) := by decide +kernel
theorem dL_law_274 : decode cL_law 274 = .ok (.aload_n 1, 1) := by decide +kernel
theorem dL_law_275 : decode cL_law 275 = .ok (.aload_n 0, 1) := by decide +kernel
theorem dL_law_276 : decode cL_law 276 = .ok (.iload_n 3, 1) := by decide +kernel
theorem dL_law_277 : decode cL_law 277 = .ok (.iconst 1, 1) := by decide +kernel
theorem dL_law_278 : decode cL_law 278 = .ok (.iadd, 1) := by decide +kernel
theorem dL_law_279 : decode cL_law 279 = .ok (.iaload, 1) := by decide +kernel
theorem dL_law_280 : decode cL_law 280 = .ok (.aload_n 0, 1) := by decide +kernel
theorem dL_law_281 : decode cL_law 281 = .ok (.iload_n 3, 1) := by decide +kernel
theorem dL_law_282 : decode cL_law 282 = .ok (.iconst 2, 1) := by decide +kernel
theorem dL_law_283 : decode cL_law 283 = .ok (.iadd, 1) := by decide +kernel
theorem dL_law_284 : decode cL_law 284 = .ok (.iaload, 1) := by decide +kernel
theorem dL_law_285 : decode cL_law 285 = .ok (.invokevirtual 33, 3) := by decide +kernel
theorem dL_law_288 : decode cL_law 288 = .ok (.aload_n 2, 1) := by decide +kernel
theorem dL_law_289 : decode cL_law 289 = .ok (.aload_n 0, 1) := by decide +kernel
theorem dL_law_290 : decode cL_law 290 = .ok (.iload_n 3, 1) := by decide +kernel
theorem dL_law_291 : decode cL_law 291 = .ok (.iconst 1, 1) := by decide +kernel
theorem dL_law_292 : decode cL_law 292 = .ok (.iadd, 1) := by decide +kernel
theorem dL_law_293 : decode cL_law 293 = .ok (.iaload, 1) := by decide +kernel
theorem dL_law_294 : decode cL_law 294 = .ok (.aload_n 0, 1) := by decide +kernel
theorem dL_law_295 : decode cL_law 295 = .ok (.iload_n 3, 1) := by decide +kernel
theorem dL_law_296 : decode cL_law 296 = .ok (.iconst 2, 1) := by decide +kernel
theorem dL_law_297 : decode cL_law 297 = .ok (.iadd, 1) := by decide +kernel
theorem dL_law_298 : decode cL_law 298 = .ok (.iaload, 1) := by decide +kernel
theorem dL_law_299 : decode cL_law 299 = .ok (.invokevirtual 36, 3) := by decide +kernel
theorem dL_law_302 : decode cL_law 302 = .ok (.if_icmp .eq 540, 3) := by decide +kernel
theorem dL_law_305 : decode cL_law 305 = .ok (.iconst 0, 1) := by decide +kernel
theorem dL_law_306 : decode cL_law 306 = .ok (.ireturn, 1) := by decide +kernel
theorem dL_law_307 : decode cL_law 307 = .ok (.aload_n 1, 1) := by decide +kernel
theorem dL_law_308 : decode cL_law 308 = .ok (.aload_n 0, 1) := by decide +kernel
theorem dL_law_309 : decode cL_law 309 = .ok (.iload_n 3, 1) := by decide +kernel
theorem dL_law_310 : decode cL_law 310 = .ok (.iconst 1, 1) := by decide +kernel
theorem dL_law_311 : decode cL_law 311 = .ok (.iadd, 1) := by decide +kernel
theorem dL_law_312 : decode cL_law 312 = .ok (.iaload, 1) := by decide +kernel
theorem dL_law_313 : decode cL_law 313 = .ok (.aload_n 0, 1) := by decide +kernel
theorem dL_law_314 : decode cL_law 314 = .ok (.iload_n 3, 1) := by decide +kernel
theorem dL_law_315 : decode cL_law 315 = .ok (.iconst 2, 1) := by decide +kernel
theorem dL_law_316 : decode cL_law 316 = .ok (.iadd, 1) := by decide +kernel
theorem dL_law_317 : decode cL_law 317 = .ok (.iaload, 1) := by decide +kernel
theorem dL_law_318 : decode cL_law 318 = .ok (.invokevirtual 37, 3) := by decide +kernel
theorem dL_law_321 : decode cL_law 321 = .ok (.aload_n 2, 1) := by decide +kernel
theorem dL_law_322 : decode cL_law 322 = .ok (.aload_n 0, 1) := by decide +kernel
theorem dL_law_323 : decode cL_law 323 = .ok (.iload_n 3, 1) := by decide +kernel
theorem dL_law_324 : decode cL_law 324 = .ok (.iconst 1, 1) := by decide +kernel
theorem dL_law_325 : decode cL_law 325 = .ok (.iadd, 1) := by decide +kernel
theorem dL_law_326 : decode cL_law 326 = .ok (.iaload, 1) := by decide +kernel
theorem dL_law_327 : decode cL_law 327 = .ok (.aload_n 0, 1) := by decide +kernel
theorem dL_law_328 : decode cL_law 328 = .ok (.iload_n 3, 1) := by decide +kernel
theorem dL_law_329 : decode cL_law 329 = .ok (.iconst 2, 1) := by decide +kernel
theorem dL_law_330 : decode cL_law 330 = .ok (.iadd, 1) := by decide +kernel
theorem dL_law_331 : decode cL_law 331 = .ok (.iaload, 1) := by decide +kernel
theorem dL_law_332 : decode cL_law 332 = .ok (.invokevirtual 40, 3) := by decide +kernel
theorem dL_law_335 : decode cL_law 335 = .ok (.if_icmp .eq 507, 3) := by decide +kernel
theorem dL_law_338 : decode cL_law 338 = .ok (.iconst 0, 1) := by decide +kernel
theorem dL_law_339 : decode cL_law 339 = .ok (.ireturn, 1) := by decide +kernel
theorem dL_law_340 : decode cL_law 340 = .ok (.aload_n 1, 1) := by decide +kernel
theorem dL_law_341 : decode cL_law 341 = .ok (.aload_n 0, 1) := by decide +kernel
theorem dL_law_342 : decode cL_law 342 = .ok (.iload_n 3, 1) := by decide +kernel
theorem dL_law_343 : decode cL_law 343 = .ok (.iconst 1, 1) := by decide +kernel
theorem dL_law_344 : decode cL_law 344 = .ok (.iadd, 1) := by decide +kernel
theorem dL_law_345 : decode cL_law 345 = .ok (.iaload, 1) := by decide +kernel
theorem dL_law_346 : decode cL_law 346 = .ok (.aload_n 0, 1) := by decide +kernel
theorem dL_law_347 : decode cL_law 347 = .ok (.iload_n 3, 1) := by decide +kernel
theorem dL_law_348 : decode cL_law 348 = .ok (.iconst 2, 1) := by decide +kernel
theorem dL_law_349 : decode cL_law 349 = .ok (.iadd, 1) := by decide +kernel
theorem dL_law_350 : decode cL_law 350 = .ok (.iaload, 1) := by decide +kernel
theorem dL_law_351 : decode cL_law 351 = .ok (.ifCond .eq 7, 3) := by decide +kernel
theorem dL_law_354 : decode cL_law 354 = .ok (.iconst 1, 1) := by decide +kernel
theorem dL_law_355 : decode cL_law 355 = .ok (.goto 4, 3) := by decide +kernel
theorem dL_law_358 : decode cL_law 358 = .ok (.iconst 0, 1) := by decide +kernel
theorem dL_law_359 : decode cL_law 359 = .ok (.invokevirtual 41, 3) := by decide +kernel
theorem dL_law_362 : decode cL_law 362 = .ok (.aload_n 2, 1) := by decide +kernel
theorem dL_law_363 : decode cL_law 363 = .ok (.aload_n 0, 1) := by decide +kernel
theorem dL_law_364 : decode cL_law 364 = .ok (.iload_n 3, 1) := by decide +kernel
theorem dL_law_365 : decode cL_law 365 = .ok (.iconst 1, 1) := by decide +kernel
theorem dL_law_366 : decode cL_law 366 = .ok (.iadd, 1) := by decide +kernel
theorem dL_law_367 : decode cL_law 367 = .ok (.iaload, 1) := by decide +kernel
theorem dL_law_368 : decode cL_law 368 = .ok (.aload_n 0, 1) := by decide +kernel
theorem dL_law_369 : decode cL_law 369 = .ok (.iload_n 3, 1) := by decide +kernel
theorem dL_law_370 : decode cL_law 370 = .ok (.iconst 2, 1) := by decide +kernel
theorem dL_law_371 : decode cL_law 371 = .ok (.iadd, 1) := by decide +kernel
theorem dL_law_372 : decode cL_law 372 = .ok (.iaload, 1) := by decide +kernel
theorem dL_law_373 : decode cL_law 373 = .ok (.ifCond .eq 7, 3) := by decide +kernel
theorem dL_law_376 : decode cL_law 376 = .ok (.iconst 1, 1) := by decide +kernel
theorem dL_law_377 : decode cL_law 377 = .ok (.goto 4, 3) := by decide +kernel
theorem dL_law_380 : decode cL_law 380 = .ok (.iconst 0, 1) := by decide +kernel
theorem dL_law_381 : decode cL_law 381 = .ok (.invokevirtual 45, 3) := by decide +kernel
theorem dL_law_384 : decode cL_law 384 = .ok (.if_icmp .eq 458, 3) := by decide +kernel
theorem dL_law_387 : decode cL_law 387 = .ok (.iconst 0, 1) := by decide +kernel
theorem dL_law_388 : decode cL_law 388 = .ok (.ireturn, 1) := by decide +kernel
theorem dL_law_389 : decode cL_law 389 = .ok (.aload_n 1, 1) := by decide +kernel
theorem dL_law_390 : decode cL_law 390 = .ok (.aload_n 0, 1) := by decide +kernel
theorem dL_law_391 : decode cL_law 391 = .ok (.iload_n 3, 1) := by decide +kernel
theorem dL_law_392 : decode cL_law 392 = .ok (.iconst 1, 1) := by decide +kernel
theorem dL_law_393 : decode cL_law 393 = .ok (.iadd, 1) := by decide +kernel
theorem dL_law_394 : decode cL_law 394 = .ok (.iaload, 1) := by decide +kernel
theorem dL_law_395 : decode cL_law 395 = .ok (.aload_n 0, 1) := by decide +kernel
theorem dL_law_396 : decode cL_law 396 = .ok (.iload_n 3, 1) := by decide +kernel
theorem dL_law_397 : decode cL_law 397 = .ok (.iconst 2, 1) := by decide +kernel
theorem dL_law_398 : decode cL_law 398 = .ok (.iadd, 1) := by decide +kernel
theorem dL_law_399 : decode cL_law 399 = .ok (.iaload, 1) := by decide +kernel
theorem dL_law_400 : decode cL_law 400 = .ok (.invokevirtual 46, 3) := by decide +kernel
theorem dL_law_403 : decode cL_law 403 = .ok (.aload_n 2, 1) := by decide +kernel
theorem dL_law_404 : decode cL_law 404 = .ok (.aload_n 0, 1) := by decide +kernel
theorem dL_law_405 : decode cL_law 405 = .ok (.iload_n 3, 1) := by decide +kernel
theorem dL_law_406 : decode cL_law 406 = .ok (.iconst 1, 1) := by decide +kernel
theorem dL_law_407 : decode cL_law 407 = .ok (.iadd, 1) := by decide +kernel
theorem dL_law_408 : decode cL_law 408 = .ok (.iaload, 1) := by decide +kernel
theorem dL_law_409 : decode cL_law 409 = .ok (.aload_n 0, 1) := by decide +kernel
theorem dL_law_410 : decode cL_law 410 = .ok (.iload_n 3, 1) := by decide +kernel
theorem dL_law_411 : decode cL_law 411 = .ok (.iconst 2, 1) := by decide +kernel
theorem dL_law_412 : decode cL_law 412 = .ok (.iadd, 1) := by decide +kernel
theorem dL_law_413 : decode cL_law 413 = .ok (.iaload, 1) := by decide +kernel
theorem dL_law_414 : decode cL_law 414 = .ok (.invokevirtual 49, 3) := by decide +kernel
theorem dL_law_417 : decode cL_law 417 = .ok (.if_icmp .eq 425, 3) := by decide +kernel
theorem dL_law_420 : decode cL_law 420 = .ok (.iconst 0, 1) := by decide +kernel
theorem dL_law_421 : decode cL_law 421 = .ok (.ireturn, 1) := by decide +kernel
theorem dL_law_422 : decode cL_law 422 = .ok (.aload_n 1, 1) := by decide +kernel
theorem dL_law_423 : decode cL_law 423 = .ok (.aload_n 0, 1) := by decide +kernel
theorem dL_law_424 : decode cL_law 424 = .ok (.iload_n 3, 1) := by decide +kernel
theorem dL_law_425 : decode cL_law 425 = .ok (.iconst 1, 1) := by decide +kernel
theorem dL_law_426 : decode cL_law 426 = .ok (.iadd, 1) := by decide +kernel
theorem dL_law_427 : decode cL_law 427 = .ok (.iaload, 1) := by decide +kernel
theorem dL_law_428 : decode cL_law 428 = .ok (.invokevirtual 50, 3) := by decide +kernel
theorem dL_law_431 : decode cL_law 431 = .ok (.aload_n 2, 1) := by decide +kernel
theorem dL_law_432 : decode cL_law 432 = .ok (.aload_n 0, 1) := by decide +kernel
theorem dL_law_433 : decode cL_law 433 = .ok (.iload_n 3, 1) := by decide +kernel
theorem dL_law_434 : decode cL_law 434 = .ok (.iconst 1, 1) := by decide +kernel
theorem dL_law_435 : decode cL_law 435 = .ok (.iadd, 1) := by decide +kernel
theorem dL_law_436 : decode cL_law 436 = .ok (.iaload, 1) := by decide +kernel
theorem dL_law_437 : decode cL_law 437 = .ok (.invokevirtual 53, 3) := by decide +kernel
theorem dL_law_440 : decode cL_law 440 = .ok (.if_icmp .eq 402, 3) := by decide +kernel
theorem dL_law_443 : decode cL_law 443 = .ok (.iconst 0, 1) := by decide +kernel
theorem dL_law_444 : decode cL_law 444 = .ok (.ireturn, 1) := by decide +kernel
theorem dL_law_445 : decode cL_law 445 = .ok (.aload_n 1, 1) := by decide +kernel
theorem dL_law_446 : decode cL_law 446 = .ok (.invokevirtual 54, 3) := by decide +kernel
theorem dL_law_449 : decode cL_law 449 = .ok (.aload_n 2, 1) := by decide +kernel
theorem dL_law_450 : decode cL_law 450 = .ok (.invokevirtual 57, 3) := by decide +kernel
theorem dL_law_453 : decode cL_law 453 = .ok (.if_icmp .eq 389, 3) := by decide +kernel
theorem dL_law_456 : decode cL_law 456 = .ok (.iconst 0, 1) := by decide +kernel
theorem dL_law_457 : decode cL_law 457 = .ok (.ireturn, 1) := by decide +kernel
theorem dL_law_458 : decode cL_law 458 = .ok (.aload_n 1, 1) := by decide +kernel
theorem dL_law_459 : decode cL_law 459 = .ok (.invokevirtual 58, 3) := by decide +kernel
theorem dL_law_462 : decode cL_law 462 = .ok (.aload_n 2, 1) := by decide +kernel
theorem dL_law_463 : decode cL_law 463 = .ok (.invokevirtual 61, 3) := by decide +kernel
theorem dL_law_466 : decode cL_law 466 = .ok (.if_icmp .eq 376, 3) := by decide +kernel
theorem dL_law_469 : decode cL_law 469 = .ok (.iconst 0, 1) := by decide +kernel
theorem dL_law_470 : decode cL_law 470 = .ok (.ireturn, 1) := by decide +kernel
theorem dL_law_471 : decode cL_law 471 = .ok (.aload_n 1, 1) := by decide +kernel
theorem dL_law_472 : decode cL_law 472 = .ok (.aload_n 0, 1) := by decide +kernel
theorem dL_law_473 : decode cL_law 473 = .ok (.iload_n 3, 1) := by decide +kernel
theorem dL_law_474 : decode cL_law 474 = .ok (.iconst 1, 1) := by decide +kernel
theorem dL_law_475 : decode cL_law 475 = .ok (.iadd, 1) := by decide +kernel
theorem dL_law_476 : decode cL_law 476 = .ok (.iaload, 1) := by decide +kernel
theorem dL_law_477 : decode cL_law 477 = .ok (.invokevirtual 62, 3) := by decide +kernel
theorem dL_law_480 : decode cL_law 480 = .ok (.aload_n 2, 1) := by decide +kernel
theorem dL_law_481 : decode cL_law 481 = .ok (.aload_n 0, 1) := by decide +kernel
theorem dL_law_482 : decode cL_law 482 = .ok (.iload_n 3, 1) := by decide +kernel
theorem dL_law_483 : decode cL_law 483 = .ok (.iconst 1, 1) := by decide +kernel
theorem dL_law_484 : decode cL_law 484 = .ok (.iadd, 1) := by decide +kernel
theorem dL_law_485 : decode cL_law 485 = .ok (.iaload, 1) := by decide +kernel
theorem dL_law_486 : decode cL_law 486 = .ok (.invokevirtual 65, 3) := by decide +kernel
theorem dL_law_489 : decode cL_law 489 = .ok (.if_icmp .eq 353, 3) := by decide +kernel
theorem dL_law_492 : decode cL_law 492 = .ok (.iconst 0, 1) := by decide +kernel
theorem dL_law_493 : decode cL_law 493 = .ok (.ireturn, 1) := by decide +kernel
theorem dL_law_494 : decode cL_law 494 = .ok (.aload_n 1, 1) := by decide +kernel
theorem dL_law_495 : decode cL_law 495 = .ok (.aload_n 0, 1) := by decide +kernel
theorem dL_law_496 : decode cL_law 496 = .ok (.iload_n 3, 1) := by decide +kernel
theorem dL_law_497 : decode cL_law 497 = .ok (.iconst 1, 1) := by decide +kernel
theorem dL_law_498 : decode cL_law 498 = .ok (.iadd, 1) := by decide +kernel
theorem dL_law_499 : decode cL_law 499 = .ok (.iaload, 1) := by decide +kernel
theorem dL_law_500 : decode cL_law 500 = .ok (.invokevirtual 66, 3) := by decide +kernel
theorem dL_law_503 : decode cL_law 503 = .ok (.aload_n 2, 1) := by decide +kernel
theorem dL_law_504 : decode cL_law 504 = .ok (.aload_n 0, 1) := by decide +kernel
theorem dL_law_505 : decode cL_law 505 = .ok (.iload_n 3, 1) := by decide +kernel
theorem dL_law_506 : decode cL_law 506 = .ok (.iconst 1, 1) := by decide +kernel
theorem dL_law_507 : decode cL_law 507 = .ok (.iadd, 1) := by decide +kernel
theorem dL_law_508 : decode cL_law 508 = .ok (.iaload, 1) := by decide +kernel
theorem dL_law_509 : decode cL_law 509 = .ok (.invokevirtual 69, 3) := by decide +kernel
theorem dL_law_512 : decode cL_law 512 = .ok (.if_icmp .eq 330, 3) := by decide +kernel
theorem dL_law_515 : decode cL_law 515 = .ok (.iconst 0, 1) := by decide +kernel
theorem dL_law_516 : decode cL_law 516 = .ok (.ireturn, 1) := by decide +kernel
theorem dL_law_517 : decode cL_law 517 = .ok (.aload_n 1, 1) := by decide +kernel
theorem dL_law_518 : decode cL_law 518 = .ok (.aload_n 0, 1) := by decide +kernel
theorem dL_law_519 : decode cL_law 519 = .ok (.iload_n 3, 1) := by decide +kernel
theorem dL_law_520 : decode cL_law 520 = .ok (.iconst 1, 1) := by decide +kernel
theorem dL_law_521 : decode cL_law 521 = .ok (.iadd, 1) := by decide +kernel
theorem dL_law_522 : decode cL_law 522 = .ok (.iaload, 1) := by decide +kernel
theorem dL_law_523 : decode cL_law 523 = .ok (.invokevirtual 70, 3) := by decide +kernel
theorem dL_law_526 : decode cL_law 526 = .ok (.aload_n 2, 1) := by decide +kernel
theorem dL_law_527 : decode cL_law 527 = .ok (.aload_n 0, 1) := by decide +kernel
theorem dL_law_528 : decode cL_law 528 = .ok (.iload_n 3, 1) := by decide +kernel
theorem dL_law_529 : decode cL_law 529 = .ok (.iconst 1, 1) := by decide +kernel
theorem dL_law_530 : decode cL_law 530 = .ok (.iadd, 1) := by decide +kernel
theorem dL_law_531 : decode cL_law 531 = .ok (.iaload, 1) := by decide +kernel
theorem dL_law_532 : decode cL_law 532 = .ok (.invokevirtual 73, 3) := by decide +kernel
theorem dL_law_535 : decode cL_law 535 = .ok (.if_icmp .eq 307, 3) := by decide +kernel
theorem dL_law_538 : decode cL_law 538 = .ok (.iconst 0, 1) := by decide +kernel
theorem dL_law_539 : decode cL_law 539 = .ok (.ireturn, 1) := by decide +kernel
theorem dL_law_540 : decode cL_law 540 = .ok (.aload_n 1, 1) := by decide +kernel
theorem dL_law_541 : decode cL_law 541 = .ok (.aload_n 0, 1) := by decide +kernel
theorem dL_law_542 : decode cL_law 542 = .ok (.iload_n 3, 1) := by decide +kernel
theorem dL_law_543 : decode cL_law 543 = .ok (.iconst 1, 1) := by decide +kernel
theorem dL_law_544 : decode cL_law 544 = .ok (.iadd, 1) := by decide +kernel
theorem dL_law_545 : decode cL_law 545 = .ok (.iaload, 1) := by decide +kernel
theorem dL_law_546 : decode cL_law 546 = .ok (.ifCond .eq 7, 3) := by decide +kernel
theorem dL_law_549 : decode cL_law 549 = .ok (.iconst 1, 1) := by decide +kernel
theorem dL_law_550 : decode cL_law 550 = .ok (.goto 4, 3) := by decide +kernel
theorem dL_law_553 : decode cL_law 553 = .ok (.iconst 0, 1) := by decide +kernel
theorem dL_law_554 : decode cL_law 554 = .ok (.invokevirtual 74, 3) := by decide +kernel
theorem dL_law_557 : decode cL_law 557 = .ok (.aload_n 2, 1) := by decide +kernel
theorem dL_law_558 : decode cL_law 558 = .ok (.aload_n 0, 1) := by decide +kernel
theorem dL_law_559 : decode cL_law 559 = .ok (.iload_n 3, 1) := by decide +kernel
theorem dL_law_560 : decode cL_law 560 = .ok (.iconst 1, 1) := by decide +kernel
theorem dL_law_561 : decode cL_law 561 = .ok (.iadd, 1) := by decide +kernel
theorem dL_law_562 : decode cL_law 562 = .ok (.iaload, 1) := by decide +kernel
theorem dL_law_563 : decode cL_law 563 = .ok (.ifCond .eq 7, 3) := by decide +kernel
theorem dL_law_566 : decode cL_law 566 = .ok (.iconst 1, 1) := by decide +kernel
theorem dL_law_567 : decode cL_law 567 = .ok (.goto 4, 3) := by decide +kernel
theorem dL_law_570 : decode cL_law 570 = .ok (.iconst 0, 1) := by decide +kernel
theorem dL_law_571 : decode cL_law 571 = .ok (.invokevirtual 78, 3) := by decide +kernel
theorem dL_law_574 : decode cL_law 574 = .ok (.if_icmp .eq 268, 3) := by decide +kernel
theorem dL_law_577 : decode cL_law 577 = .ok (.iconst 0, 1) := by decide +kernel
theorem dL_law_578 : decode cL_law 578 = .ok (.ireturn, 1) := by decide +kernel
theorem dL_law_579 : decode cL_law 579 = .ok (.aload_n 1, 1) := by decide +kernel
theorem dL_law_580 : decode cL_law 580 = .ok (.invokevirtual 79, 3) := by decide +kernel
theorem dL_law_583 : decode cL_law 583 = .ok (.aload_n 2, 1) := by decide +kernel
theorem dL_law_584 : decode cL_law 584 = .ok (.invokevirtual 82, 3) := by decide +kernel
theorem dL_law_587 : decode cL_law 587 = .ok (.if_icmp .eq 255, 3) := by decide +kernel
theorem dL_law_590 : decode cL_law 590 = .ok (.iconst 0, 1) := by decide +kernel
theorem dL_law_591 : decode cL_law 591 = .ok (.ireturn, 1) := by decide +kernel
theorem dL_law_592 : decode cL_law 592 = .ok (.aload_n 1, 1) := by decide +kernel
theorem dL_law_593 : decode cL_law 593 = .ok (.aload_n 0, 1) := by decide +kernel
theorem dL_law_594 : decode cL_law 594 = .ok (.iload_n 3, 1) := by decide +kernel
theorem dL_law_595 : decode cL_law 595 = .ok (.iconst 1, 1) := by decide +kernel
theorem dL_law_596 : decode cL_law 596 = .ok (.iadd, 1) := by decide +kernel
theorem dL_law_597 : decode cL_law 597 = .ok (.iaload, 1) := by decide +kernel
theorem dL_law_598 : decode cL_law 598 = .ok (.invokevirtual 83, 3) := by decide +kernel
theorem dL_law_601 : decode cL_law 601 = .ok (.aload_n 2, 1) := by decide +kernel
theorem dL_law_602 : decode cL_law 602 = .ok (.aload_n 0, 1) := by decide +kernel
theorem dL_law_603 : decode cL_law 603 = .ok (.iload_n 3, 1) := by decide +kernel
theorem dL_law_604 : decode cL_law 604 = .ok (.iconst 1, 1) := by decide +kernel
theorem dL_law_605 : decode cL_law 605 = .ok (.iadd, 1) := by decide +kernel
theorem dL_law_606 : decode cL_law 606 = .ok (.iaload, 1) := by decide +kernel
theorem dL_law_607 : decode cL_law 607 = .ok (.invokevirtual 86, 3) := by decide +kernel
theorem dL_law_610 : decode cL_law 610 = .ok (.if_icmp .eq 232, 3) := by decide +kernel
theorem dL_law_613 : decode cL_law 613 = .ok (.iconst 0, 1) := by decide +kernel
theorem dL_law_614 : decode cL_law 614 = .ok (.ireturn, 1) := by decide +kernel
theorem dL_law_615 : decode cL_law 615 = .ok (.aload_n 1, 1) := by decide +kernel
theorem dL_law_616 : decode cL_law 616 = .ok (.aload_n 0, 1) := by decide +kernel
theorem dL_law_617 : decode cL_law 617 = .ok (.iload_n 3, 1) := by decide +kernel
theorem dL_law_618 : decode cL_law 618 = .ok (.iconst 1, 1) := by decide +kernel
theorem dL_law_619 : decode cL_law 619 = .ok (.iadd, 1) := by decide +kernel
theorem dL_law_620 : decode cL_law 620 = .ok (.iaload, 1) := by decide +kernel
theorem dL_law_621 : decode cL_law 621 = .ok (.aload_n 0, 1) := by decide +kernel
theorem dL_law_622 : decode cL_law 622 = .ok (.iload_n 3, 1) := by decide +kernel
theorem dL_law_623 : decode cL_law 623 = .ok (.iconst 2, 1) := by decide +kernel
theorem dL_law_624 : decode cL_law 624 = .ok (.iadd, 1) := by decide +kernel
theorem dL_law_625 : decode cL_law 625 = .ok (.iaload, 1) := by decide +kernel
theorem dL_law_626 : decode cL_law 626 = .ok (.invokevirtual 87, 3) := by decide +kernel
theorem dL_law_629 : decode cL_law 629 = .ok (.aload_n 2, 1) := by decide +kernel
theorem dL_law_630 : decode cL_law 630 = .ok (.aload_n 0, 1) := by decide +kernel
theorem dL_law_631 : decode cL_law 631 = .ok (.iload_n 3, 1) := by decide +kernel
theorem dL_law_632 : decode cL_law 632 = .ok (.iconst 1, 1) := by decide +kernel
theorem dL_law_633 : decode cL_law 633 = .ok (.iadd, 1) := by decide +kernel
theorem dL_law_634 : decode cL_law 634 = .ok (.iaload, 1) := by decide +kernel
theorem dL_law_635 : decode cL_law 635 = .ok (.aload_n 0, 1) := by decide +kernel
theorem dL_law_636 : decode cL_law 636 = .ok (.iload_n 3, 1) := by decide +kernel
theorem dL_law_637 : decode cL_law 637 = .ok (.iconst 2, 1) := by decide +kernel
theorem dL_law_638 : decode cL_law 638 = .ok (.iadd, 1) := by decide +kernel
theorem dL_law_639 : decode cL_law 639 = .ok (.iaload, 1) := by decide +kernel
theorem dL_law_640 : decode cL_law 640 = .ok (.invokevirtual 90, 3) := by decide +kernel
theorem dL_law_643 : decode cL_law 643 = .ok (.if_icmp .eq 199, 3) := by decide +kernel
theorem dL_law_646 : decode cL_law 646 = .ok (.iconst 0, 1) := by decide +kernel
theorem dL_law_647 : decode cL_law 647 = .ok (.ireturn, 1) := by decide +kernel
theorem dL_law_648 : decode cL_law 648 = .ok (.aload_n 1, 1) := by decide +kernel
theorem dL_law_649 : decode cL_law 649 = .ok (.invokevirtual 91, 3) := by decide +kernel
theorem dL_law_652 : decode cL_law 652 = .ok (.aload_n 2, 1) := by decide +kernel
theorem dL_law_653 : decode cL_law 653 = .ok (.invokevirtual 94, 3) := by decide +kernel
theorem dL_law_656 : decode cL_law 656 = .ok (.if_icmp .eq 186, 3) := by decide +kernel
theorem dL_law_659 : decode cL_law 659 = .ok (.iconst 0, 1) := by decide +kernel
theorem dL_law_660 : decode cL_law 660 = .ok (.ireturn, 1) := by decide +kernel
theorem dL_law_661 : decode cL_law 661 = .ok (.aload_n 1, 1) := by decide +kernel
theorem dL_law_662 : decode cL_law 662 = .ok (.aload_n 0, 1) := by decide +kernel
theorem dL_law_663 : decode cL_law 663 = .ok (.iload_n 3, 1) := by decide +kernel
theorem dL_law_664 : decode cL_law 664 = .ok (.iconst 1, 1) := by decide +kernel
theorem dL_law_665 : decode cL_law 665 = .ok (.iadd, 1) := by decide +kernel
theorem dL_law_666 : decode cL_law 666 = .ok (.iaload, 1) := by decide +kernel
theorem dL_law_667 : decode cL_law 667 = .ok (.invokevirtual 95, 3) := by decide +kernel
theorem dL_law_670 : decode cL_law 670 = .ok (.aload_n 2, 1) := by decide +kernel
theorem dL_law_671 : decode cL_law 671 = .ok (.aload_n 0, 1) := by decide +kernel
theorem dL_law_672 : decode cL_law 672 = .ok (.iload_n 3, 1) := by decide +kernel
theorem dL_law_673 : decode cL_law 673 = .ok (.iconst 1, 1) := by decide +kernel
theorem dL_law_674 : decode cL_law 674 = .ok (.iadd, 1) := by decide +kernel
theorem dL_law_675 : decode cL_law 675 = .ok (.iaload, 1) := by decide +kernel
theorem dL_law_676 : decode cL_law 676 = .ok (.invokevirtual 98, 3) := by decide +kernel
theorem dL_law_679 : decode cL_law 679 = .ok (.if_icmp .eq 163, 3) := by decide +kernel
theorem dL_law_682 : decode cL_law 682 = .ok (.iconst 0, 1) := by decide +kernel
theorem dL_law_683 : decode cL_law 683 = .ok (.ireturn, 1) := by decide +kernel
theorem dL_law_684 : decode cL_law 684 = .ok (.aload_n 1, 1) := by decide +kernel
theorem dL_law_685 : decode cL_law 685 = .ok (.aload_n 0, 1) := by decide +kernel
theorem dL_law_686 : decode cL_law 686 = .ok (.iload_n 3, 1) := by decide +kernel
theorem dL_law_687 : decode cL_law 687 = .ok (.iconst 1, 1) := by decide +kernel
theorem dL_law_688 : decode cL_law 688 = .ok (.iadd, 1) := by decide +kernel
theorem dL_law_689 : decode cL_law 689 = .ok (.iaload, 1) := by decide +kernel
theorem dL_law_690 : decode cL_law 690 = .ok (.invokevirtual 99, 3) := by decide +kernel
theorem dL_law_693 : decode cL_law 693 = .ok (.aload_n 2, 1) := by decide +kernel
theorem dL_law_694 : decode cL_law 694 = .ok (.aload_n 0, 1) := by decide +kernel
theorem dL_law_695 : decode cL_law 695 = .ok (.iload_n 3, 1) := by decide +kernel
theorem dL_law_696 : decode cL_law 696 = .ok (.iconst 1, 1) := by decide +kernel
theorem dL_law_697 : decode cL_law 697 = .ok (.iadd, 1) := by decide +kernel
theorem dL_law_698 : decode cL_law 698 = .ok (.iaload, 1) := by decide +kernel
theorem dL_law_699 : decode cL_law 699 = .ok (.invokevirtual 102, 3) := by decide +kernel
theorem dL_law_702 : decode cL_law 702 = .ok (.if_icmp .eq 140, 3) := by decide +kernel
theorem dL_law_705 : decode cL_law 705 = .ok (.iconst 0, 1) := by decide +kernel
theorem dL_law_706 : decode cL_law 706 = .ok (.ireturn, 1) := by decide +kernel
theorem dL_law_707 : decode cL_law 707 = .ok (.aload_n 1, 1) := by decide +kernel
theorem dL_law_708 : decode cL_law 708 = .ok (.aload_n 0, 1) := by decide +kernel
theorem dL_law_709 : decode cL_law 709 = .ok (.iload_n 3, 1) := by decide +kernel
theorem dL_law_710 : decode cL_law 710 = .ok (.iconst 1, 1) := by decide +kernel
theorem dL_law_711 : decode cL_law 711 = .ok (.iadd, 1) := by decide +kernel
theorem dL_law_712 : decode cL_law 712 = .ok (.iaload, 1) := by decide +kernel
theorem dL_law_713 : decode cL_law 713 = .ok (.invokevirtual 103, 3) := by decide +kernel
theorem dL_law_716 : decode cL_law 716 = .ok (.aload_n 2, 1) := by decide +kernel
theorem dL_law_717 : decode cL_law 717 = .ok (.aload_n 0, 1) := by decide +kernel
theorem dL_law_718 : decode cL_law 718 = .ok (.iload_n 3, 1) := by decide +kernel
theorem dL_law_719 : decode cL_law 719 = .ok (.iconst 1, 1) := by decide +kernel
theorem dL_law_720 : decode cL_law 720 = .ok (.iadd, 1) := by decide +kernel
theorem dL_law_721 : decode cL_law 721 = .ok (.iaload, 1) := by decide +kernel
theorem dL_law_722 : decode cL_law 722 = .ok (.invokevirtual 106, 3) := by decide +kernel
theorem dL_law_725 : decode cL_law 725 = .ok (.if_icmp .eq 117, 3) := by decide +kernel
theorem dL_law_728 : decode cL_law 728 = .ok (.iconst 0, 1) := by decide +kernel
theorem dL_law_729 : decode cL_law 729 = .ok (.ireturn, 1) := by decide +kernel
theorem dL_law_730 : decode cL_law 730 = .ok (.aload_n 1, 1) := by decide +kernel
theorem dL_law_731 : decode cL_law 731 = .ok (.aload_n 0, 1) := by decide +kernel
theorem dL_law_732 : decode cL_law 732 = .ok (.iload_n 3, 1) := by decide +kernel
theorem dL_law_733 : decode cL_law 733 = .ok (.iconst 1, 1) := by decide +kernel
theorem dL_law_734 : decode cL_law 734 = .ok (.iadd, 1) := by decide +kernel
theorem dL_law_735 : decode cL_law 735 = .ok (.iaload, 1) := by decide +kernel
theorem dL_law_736 : decode cL_law 736 = .ok (.aload_n 0, 1) := by decide +kernel
theorem dL_law_737 : decode cL_law 737 = .ok (.iload_n 3, 1) := by decide +kernel
theorem dL_law_738 : decode cL_law 738 = .ok (.iconst 2, 1) := by decide +kernel
theorem dL_law_739 : decode cL_law 739 = .ok (.iadd, 1) := by decide +kernel
theorem dL_law_740 : decode cL_law 740 = .ok (.iaload, 1) := by decide +kernel
theorem dL_law_741 : decode cL_law 741 = .ok (.aload_n 0, 1) := by decide +kernel
theorem dL_law_742 : decode cL_law 742 = .ok (.iload_n 3, 1) := by decide +kernel
theorem dL_law_743 : decode cL_law 743 = .ok (.iconst 3, 1) := by decide +kernel
theorem dL_law_744 : decode cL_law 744 = .ok (.iadd, 1) := by decide +kernel
theorem dL_law_745 : decode cL_law 745 = .ok (.iaload, 1) := by decide +kernel
theorem dL_law_746 : decode cL_law 746 = .ok (.invokevirtual 107, 3) := by decide +kernel
theorem dL_law_749 : decode cL_law 749 = .ok (.aload_n 2, 1) := by decide +kernel
theorem dL_law_750 : decode cL_law 750 = .ok (.aload_n 0, 1) := by decide +kernel
theorem dL_law_751 : decode cL_law 751 = .ok (.iload_n 3, 1) := by decide +kernel
theorem dL_law_752 : decode cL_law 752 = .ok (.iconst 1, 1) := by decide +kernel
theorem dL_law_753 : decode cL_law 753 = .ok (.iadd, 1) := by decide +kernel
theorem dL_law_754 : decode cL_law 754 = .ok (.iaload, 1) := by decide +kernel
theorem dL_law_755 : decode cL_law 755 = .ok (.aload_n 0, 1) := by decide +kernel
theorem dL_law_756 : decode cL_law 756 = .ok (.iload_n 3, 1) := by decide +kernel
theorem dL_law_757 : decode cL_law 757 = .ok (.iconst 2, 1) := by decide +kernel
theorem dL_law_758 : decode cL_law 758 = .ok (.iadd, 1) := by decide +kernel
theorem dL_law_759 : decode cL_law 759 = .ok (.iaload, 1) := by decide +kernel
theorem dL_law_760 : decode cL_law 760 = .ok (.aload_n 0, 1) := by decide +kernel
theorem dL_law_761 : decode cL_law 761 = .ok (.iload_n 3, 1) := by decide +kernel
theorem dL_law_762 : decode cL_law 762 = .ok (.iconst 3, 1) := by decide +kernel
theorem dL_law_763 : decode cL_law 763 = .ok (.iadd, 1) := by decide +kernel
theorem dL_law_764 : decode cL_law 764 = .ok (.iaload, 1) := by decide +kernel
theorem dL_law_765 : decode cL_law 765 = .ok (.invokevirtual 111, 3) := by decide +kernel
theorem dL_law_768 : decode cL_law 768 = .ok (.if_icmp .eq 74, 3) := by decide +kernel
theorem dL_law_771 : decode cL_law 771 = .ok (.iconst 0, 1) := by decide +kernel
theorem dL_law_772 : decode cL_law 772 = .ok (.ireturn, 1) := by decide +kernel
theorem dL_law_773 : decode cL_law 773 = .ok (.aload_n 1, 1) := by decide +kernel
theorem dL_law_774 : decode cL_law 774 = .ok (.aload_n 0, 1) := by decide +kernel
theorem dL_law_775 : decode cL_law 775 = .ok (.iload_n 3, 1) := by decide +kernel
theorem dL_law_776 : decode cL_law 776 = .ok (.iconst 1, 1) := by decide +kernel
theorem dL_law_777 : decode cL_law 777 = .ok (.iadd, 1) := by decide +kernel
theorem dL_law_778 : decode cL_law 778 = .ok (.iaload, 1) := by decide +kernel
theorem dL_law_779 : decode cL_law 779 = .ok (.invokevirtual 112, 3) := by decide +kernel
theorem dL_law_782 : decode cL_law 782 = .ok (.aload_n 2, 1) := by decide +kernel
theorem dL_law_783 : decode cL_law 783 = .ok (.aload_n 0, 1) := by decide +kernel
theorem dL_law_784 : decode cL_law 784 = .ok (.iload_n 3, 1) := by decide +kernel
theorem dL_law_785 : decode cL_law 785 = .ok (.iconst 1, 1) := by decide +kernel
theorem dL_law_786 : decode cL_law 786 = .ok (.iadd, 1) := by decide +kernel
theorem dL_law_787 : decode cL_law 787 = .ok (.iaload, 1) := by decide +kernel
theorem dL_law_788 : decode cL_law 788 = .ok (.invokevirtual 115, 3) := by decide +kernel
theorem dL_law_791 : decode cL_law 791 = .ok (.if_icmp .eq 51, 3) := by decide +kernel
theorem dL_law_794 : decode cL_law 794 = .ok (.iconst 0, 1) := by decide +kernel
theorem dL_law_795 : decode cL_law 795 = .ok (.ireturn, 1) := by decide +kernel
theorem dL_law_796 : decode cL_law 796 = .ok (.aload_n 1, 1) := by decide +kernel
theorem dL_law_797 : decode cL_law 797 = .ok (.aload_n 0, 1) := by decide +kernel
theorem dL_law_798 : decode cL_law 798 = .ok (.iload_n 3, 1) := by decide +kernel
theorem dL_law_799 : decode cL_law 799 = .ok (.iconst 1, 1) := by decide +kernel
theorem dL_law_800 : decode cL_law 800 = .ok (.iadd, 1) := by decide +kernel
theorem dL_law_801 : decode cL_law 801 = .ok (.iaload, 1) := by decide +kernel
theorem dL_law_802 : decode cL_law 802 = .ok (.invokevirtual 116, 3) := by decide +kernel
theorem dL_law_805 : decode cL_law 805 = .ok (.aload_n 2, 1) := by decide +kernel
theorem dL_law_806 : decode cL_law 806 = .ok (.aload_n 0, 1) := by decide +kernel
theorem dL_law_807 : decode cL_law 807 = .ok (.iload_n 3, 1) := by decide +kernel
theorem dL_law_808 : decode cL_law 808 = .ok (.iconst 1, 1) := by decide +kernel
theorem dL_law_809 : decode cL_law 809 = .ok (.iadd, 1) := by decide +kernel
theorem dL_law_810 : decode cL_law 810 = .ok (.iaload, 1) := by decide +kernel
theorem dL_law_811 : decode cL_law 811 = .ok (.invokevirtual 119, 3) := by decide +kernel
theorem dL_law_814 : decode cL_law 814 = .ok (.if_icmp .eq 28, 3) := by decide +kernel
theorem dL_law_817 : decode cL_law 817 = .ok (.iconst 0, 1) := by decide +kernel
theorem dL_law_818 : decode cL_law 818 = .ok (.ireturn, 1) := by decide +kernel
theorem dL_law_819 : decode cL_law 819 = .ok (.aload_n 1, 1) := by decide +kernel
theorem dL_law_820 : decode cL_law 820 = .ok (.aload_n 0, 1) := by decide +kernel
theorem dL_law_821 : decode cL_law 821 = .ok (.iload_n 3, 1) := by decide +kernel
theorem dL_law_822 : decode cL_law 822 = .ok (.iconst 1, 1) := by decide +kernel
theorem dL_law_823 : decode cL_law 823 = .ok (.iadd, 1) := by decide +kernel
theorem dL_law_824 : decode cL_law 824 = .ok (.iaload, 1) := by decide +kernel
theorem dL_law_825 : decode cL_law 825 = .ok (.invokevirtual 120, 3) := by decide +kernel
theorem dL_law_828 : decode cL_law 828 = .ok (.aload_n 2, 1) := by decide +kernel
theorem dL_law_829 : decode cL_law 829 = .ok (.aload_n 0, 1) := by decide +kernel
theorem dL_law_830 : decode cL_law 830 = .ok (.iload_n 3, 1) := by decide +kernel
theorem dL_law_831 : decode cL_law 831 = .ok (.iconst 1, 1) := by decide +kernel
theorem dL_law_832 : decode cL_law 832 = .ok (.iadd, 1) := by decide +kernel
theorem dL_law_833 : decode cL_law 833 = .ok (.iaload, 1) := by decide +kernel
theorem dL_law_834 : decode cL_law 834 = .ok (.invokevirtual 123, 3) := by decide +kernel
theorem dL_law_837 : decode cL_law 837 = .ok (.if_icmp .eq 5, 3) := by decide +kernel
theorem dL_law_840 : decode cL_law 840 = .ok (.iconst 0, 1) := by decide +kernel
theorem dL_law_841 : decode cL_law 841 = .ok (.ireturn, 1) := by decide +kernel
theorem dL_law_842 : decode cL_law 842 = .ok (.iinc 3 5, 3) := by decide +kernel
theorem dL_law_845 : decode cL_law 845 = .ok (.goto (-827), 3) := by decide +kernel
theorem dL_law_848 : decode cL_law 848 = .ok (.iconst 1, 1) := by decide +kernel
theorem dL_law_849 : decode cL_law 849 = .ok (.ireturn, 1) := by decide +kernel
abbrev vwCl : List vw_C := [(RX0, TX0, 15), (RX1, TX1, 2), (RX2, TX2, 3), (RX3, TX3, 3), (RX4, TX4, 7), (RX5, TX5, 24)]
end
