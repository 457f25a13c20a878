section
-- ===== PART A: goes FIRST, ahead of the names: the tables' words, and 'selects' of the private methods out of them =====
/-- a private method of a class that the tables say can be made, by its rows of tables_1 -/
def lw_okq (q : MethodName × Nat) : Prop := (q.1.cls ≠ "java/lang/invoke/MethodHandle" ∧ q.1.cls ≠ "java/lang/invoke/VarHandle") ∧ Cond.instantiable q.1.cls q.2 ∈ tables_1 ∧ Cond.privateMethod q.1 ∈ tables_1 ∧ Cond.instanceMethod q.1 ∈ tables_1
theorem lw_p0 : lw_okq (⟨"PairTokens", "learnNext", "()Z"⟩, 5) := ⟨⟨by decide +kernel, by decide +kernel⟩, List.mem_of_getElem? (i := 17) (by decide +kernel), List.mem_of_getElem? (i := 211) (by decide +kernel), List.mem_of_getElem? (i := 212) (by decide +kernel)⟩
theorem lw_p1 : lw_okq (⟨"PairTokens$PairCounter", "add", "(III)V"⟩, 3) := ⟨⟨by decide +kernel, by decide +kernel⟩, List.mem_of_getElem? (i := 114) (by decide +kernel), List.mem_of_getElem? (i := 224) (by decide +kernel), List.mem_of_getElem? (i := 225) (by decide +kernel)⟩
theorem lw_p2 : lw_okq (⟨"PairTokens$PairCounter", "isAhead", "(II)Z"⟩, 3) := ⟨⟨by decide +kernel, by decide +kernel⟩, List.mem_of_getElem? (i := 114) (by decide +kernel), List.mem_of_getElem? (i := 232) (by decide +kernel), List.mem_of_getElem? (i := 233) (by decide +kernel)⟩
theorem lw_p3 : lw_okq (⟨"PairTokens", "tellText", "()V"⟩, 5) := ⟨⟨by decide +kernel, by decide +kernel⟩, List.mem_of_getElem? (i := 17) (by decide +kernel), List.mem_of_getElem? (i := 275) (by decide +kernel), List.mem_of_getElem? (i := 276) (by decide +kernel)⟩
theorem lw_p4 : lw_okq (⟨"PairTokens$Choices", "startWithByte", "(IILPairTokens$Vocabulary;)V"⟩, 4) := ⟨⟨by decide +kernel, by decide +kernel⟩, List.mem_of_getElem? (i := 133) (by decide +kernel), List.mem_of_getElem? (i := 299) (by decide +kernel), List.mem_of_getElem? (i := 300) (by decide +kernel)⟩
theorem lw_p5 : lw_okq (⟨"PairTokens$Choices", "startWithLearned", "(IILPairTokens$Vocabulary;)V"⟩, 4) := ⟨⟨by decide +kernel, by decide +kernel⟩, List.mem_of_getElem? (i := 133) (by decide +kernel), List.mem_of_getElem? (i := 311) (by decide +kernel), List.mem_of_getElem? (i := 312) (by decide +kernel)⟩
theorem lw_p6 : lw_okq (⟨"java/lang/Throwable", "fillInStackTrace", "(I)Ljava/lang/Throwable;"⟩, 6) := ⟨⟨by decide +kernel, by decide +kernel⟩, List.mem_of_getElem? (i := 382) (by decide +kernel), List.mem_of_getElem? (i := 380) (by decide +kernel), List.mem_of_getElem? (i := 381) (by decide +kernel)⟩
theorem lw_p7 : lw_okq (⟨"PairTokensModel", "beginsWord", "(I)Z"⟩, 17) := ⟨⟨by decide +kernel, by decide +kernel⟩, List.mem_of_getElem? (i := 416) (by decide +kernel), List.mem_of_getElem? (i := 497) (by decide +kernel), List.mem_of_getElem? (i := 498) (by decide +kernel)⟩
theorem lw_p8 : lw_okq (⟨"PairTokensModel", "layBytes", "()V"⟩, 17) := ⟨⟨by decide +kernel, by decide +kernel⟩, List.mem_of_getElem? (i := 416) (by decide +kernel), List.mem_of_getElem? (i := 505) (by decide +kernel), List.mem_of_getElem? (i := 506) (by decide +kernel)⟩
theorem lw_p9 : lw_okq (⟨"PairTokensModel", "isPair", "(III)Z"⟩, 17) := ⟨⟨by decide +kernel, by decide +kernel⟩, List.mem_of_getElem? (i := 416) (by decide +kernel), List.mem_of_getElem? (i := 509) (by decide +kernel), List.mem_of_getElem? (i := 510) (by decide +kernel)⟩
theorem lw_p10 : lw_okq (⟨"PairTokensModel", "countOf", "(II)I"⟩, 17) := ⟨⟨by decide +kernel, by decide +kernel⟩, List.mem_of_getElem? (i := 416) (by decide +kernel), List.mem_of_getElem? (i := 513) (by decide +kernel), List.mem_of_getElem? (i := 514) (by decide +kernel)⟩
theorem lw_p11 : lw_okq (⟨"PairTokensModel", "keep", "(III)V"⟩, 17) := ⟨⟨by decide +kernel, by decide +kernel⟩, List.mem_of_getElem? (i := 416) (by decide +kernel), List.mem_of_getElem? (i := 517) (by decide +kernel), List.mem_of_getElem? (i := 518) (by decide +kernel)⟩
theorem lw_p12 : lw_okq (⟨"PairTokensModel", "sizeOf", "(I)I"⟩, 17) := ⟨⟨by decide +kernel, by decide +kernel⟩, List.mem_of_getElem? (i := 416) (by decide +kernel), List.mem_of_getElem? (i := 521) (by decide +kernel), List.mem_of_getElem? (i := 522) (by decide +kernel)⟩
theorem lw_p13 : lw_okq (⟨"PairTokensModel", "byteOf", "(II)I"⟩, 17) := ⟨⟨by decide +kernel, by decide +kernel⟩, List.mem_of_getElem? (i := 416) (by decide +kernel), List.mem_of_getElem? (i := 525) (by decide +kernel), List.mem_of_getElem? (i := 526) (by decide +kernel)⟩
theorem lw_p14 : lw_okq (⟨"PairTokensModel", "join", "(III)V"⟩, 17) := ⟨⟨by decide +kernel, by decide +kernel⟩, List.mem_of_getElem? (i := 416) (by decide +kernel), List.mem_of_getElem? (i := 529) (by decide +kernel), List.mem_of_getElem? (i := 530) (by decide +kernel)⟩
theorem lw_p15 : lw_okq (⟨"PairTokensModel", "isLearned", "(I)Z"⟩, 17) := ⟨⟨by decide +kernel, by decide +kernel⟩, List.mem_of_getElem? (i := 416) (by decide +kernel), List.mem_of_getElem? (i := 537) (by decide +kernel), List.mem_of_getElem? (i := 538) (by decide +kernel)⟩
def lw_privs_1 : List (MethodName × Nat) := [(⟨"PairTokens", "learnNext", "()Z"⟩, 5), (⟨"PairTokens$PairCounter", "add", "(III)V"⟩, 3), (⟨"PairTokens$PairCounter", "isAhead", "(II)Z"⟩, 3), (⟨"PairTokens", "tellText", "()V"⟩, 5), (⟨"PairTokens$Choices", "startWithByte", "(IILPairTokens$Vocabulary;)V"⟩, 4), (⟨"PairTokens$Choices", "startWithLearned", "(IILPairTokens$Vocabulary;)V"⟩, 4), (⟨"java/lang/Throwable", "fillInStackTrace", "(I)Ljava/lang/Throwable;"⟩, 6), (⟨"PairTokensModel", "beginsWord", "(I)Z"⟩, 17), (⟨"PairTokensModel", "layBytes", "()V"⟩, 17), (⟨"PairTokensModel", "isPair", "(III)Z"⟩, 17), (⟨"PairTokensModel", "countOf", "(II)I"⟩, 17), (⟨"PairTokensModel", "keep", "(III)V"⟩, 17), (⟨"PairTokensModel", "sizeOf", "(I)I"⟩, 17), (⟨"PairTokensModel", "byteOf", "(II)I"⟩, 17), (⟨"PairTokensModel", "join", "(III)V"⟩, 17), (⟨"PairTokensModel", "isLearned", "(I)Z"⟩, 17)]
theorem lw_r1 : ∀ q ∈ lw_privs_1, lw_okq q := List.forall_mem_cons.mpr ⟨lw_p0, List.forall_mem_cons.mpr ⟨lw_p1, List.forall_mem_cons.mpr ⟨lw_p2, List.forall_mem_cons.mpr ⟨lw_p3, List.forall_mem_cons.mpr ⟨lw_p4, List.forall_mem_cons.mpr ⟨lw_p5, List.forall_mem_cons.mpr ⟨lw_p6, List.forall_mem_cons.mpr ⟨lw_p7, List.forall_mem_cons.mpr ⟨lw_p8, List.forall_mem_cons.mpr ⟨lw_p9, List.forall_mem_cons.mpr ⟨lw_p10, List.forall_mem_cons.mpr ⟨lw_p11, List.forall_mem_cons.mpr ⟨lw_p12, List.forall_mem_cons.mpr ⟨lw_p13, List.forall_mem_cons.mpr ⟨lw_p14, List.forall_mem_cons.mpr ⟨lw_p15, fun _ h => absurd h List.not_mem_nil⟩⟩⟩⟩⟩⟩⟩⟩⟩⟩⟩⟩⟩⟩⟩⟩
theorem lw_p16 : lw_okq (⟨"PairTokensModel", "isToken", "(I)Z"⟩, 17) := ⟨⟨by decide +kernel, by decide +kernel⟩, List.mem_of_getElem? (i := 416) (by decide +kernel), List.mem_of_getElem? (i := 549) (by decide +kernel), List.mem_of_getElem? (i := 550) (by decide +kernel)⟩
theorem lw_p17 : lw_okq (⟨"PairTokensModel", "tell", "()V"⟩, 17) := ⟨⟨by decide +kernel, by decide +kernel⟩, List.mem_of_getElem? (i := 416) (by decide +kernel), List.mem_of_getElem? (i := 561) (by decide +kernel), List.mem_of_getElem? (i := 562) (by decide +kernel)⟩
theorem lw_p18 : lw_okq (⟨"PairTokensModel", "findBest", "()V"⟩, 17) := ⟨⟨by decide +kernel, by decide +kernel⟩, List.mem_of_getElem? (i := 416) (by decide +kernel), List.mem_of_getElem? (i := 581) (by decide +kernel), List.mem_of_getElem? (i := 582) (by decide +kernel)⟩
theorem lw_p19 : lw_okq (⟨"PairTokensModel", "come", "(II)V"⟩, 17) := ⟨⟨by decide +kernel, by decide +kernel⟩, List.mem_of_getElem? (i := 416) (by decide +kernel), List.mem_of_getElem? (i := 585) (by decide +kernel), List.mem_of_getElem? (i := 586) (by decide +kernel)⟩
theorem lw_p20 : lw_okq (⟨"PairTokensModel", "isBefore", "(III)Z"⟩, 17) := ⟨⟨by decide +kernel, by decide +kernel⟩, List.mem_of_getElem? (i := 416) (by decide +kernel), List.mem_of_getElem? (i := 590) (by decide +kernel), List.mem_of_getElem? (i := 591) (by decide +kernel)⟩
theorem lw_p21 : lw_okq (⟨"PairTokensModel", "fits", "(II)Z"⟩, 17) := ⟨⟨by decide +kernel, by decide +kernel⟩, List.mem_of_getElem? (i := 416) (by decide +kernel), List.mem_of_getElem? (i := 594) (by decide +kernel), List.mem_of_getElem? (i := 595) (by decide +kernel)⟩
def lw_privs_2 : List (MethodName × Nat) := [(⟨"PairTokensModel", "isToken", "(I)Z"⟩, 17), (⟨"PairTokensModel", "tell", "()V"⟩, 17), (⟨"PairTokensModel", "findBest", "()V"⟩, 17), (⟨"PairTokensModel", "come", "(II)V"⟩, 17), (⟨"PairTokensModel", "isBefore", "(III)Z"⟩, 17), (⟨"PairTokensModel", "fits", "(II)Z"⟩, 17)]
theorem lw_r2 : ∀ q ∈ lw_privs_2, lw_okq q := List.forall_mem_cons.mpr ⟨lw_p16, List.forall_mem_cons.mpr ⟨lw_p17, List.forall_mem_cons.mpr ⟨lw_p18, List.forall_mem_cons.mpr ⟨lw_p19, List.forall_mem_cons.mpr ⟨lw_p20, List.forall_mem_cons.mpr ⟨lw_p21, fun _ h => absurd h List.not_mem_nil⟩⟩⟩⟩⟩⟩
def lw_privs : List (MethodName × Nat) := lw_privs_1 ++ (lw_privs_2)
def lw_tbl : List Cond := k2_sels lw_privs ++ tables_1
theorem lw_privs_ok : ∀ q ∈ lw_privs, lw_okq q := by
  show ∀ q ∈ lw_privs_1 ++ (lw_privs_2), lw_okq q
  exact List.forall_mem_append.mpr ⟨lw_r1, lw_r2⟩
-- ===== end of PART A; then your names; then what follows =====
end
section
/-! ===== BEGIN words of one list among another's, by their places ===== -/
theorem goodIn_r {big : List Cond} (ws : List Cond) (ps : List Nat) (hp : ws = ps.filterMap (fun i => big[i]?)) (h : ws.all goodWord = true) : GoodIn big ws := by
  intro w hw
  have h1 := List.all_eq_true.mp h w hw
  rw [hp] at hw
  obtain ⟨i, -, hi⟩ := List.mem_filterMap.mp hw
  have hm : w ∈ big := by first | exact List.mem_of_getElem? hi | exact List.getElem?_mem hi
  exact ⟨hm, good_of_word h1⟩
theorem goodIn_app {big a b : List Cond} (ha : GoodIn big a) (hb : GoodIn big b) : GoodIn big (a ++ b) := fun w h => (List.mem_append.mp h).elim (ha w) (hb w)
theorem goodIn_ca {big a b : List Cond} {c : Cond} (ha : GoodIn big (c :: a)) (hb : GoodIn big b) : GoodIn big (c :: (a ++ b)) := fun w h => (List.mem_cons.mp h).elim (fun e => ha w (List.mem_cons.mpr (Or.inl e))) (fun h => (List.mem_append.mp h).elim (fun h => ha w (List.mem_cons.mpr (Or.inr h))) (hb w))
theorem goodIn_sub {big ws : List Cond} (hm : ∀ w ∈ ws, w ∈ big) (h : ws.all goodWord = true) : GoodIn big ws := fun w hw => ⟨hm w hw, good_of_word (List.all_eq_true.mp h w hw)⟩
/-! ===== END ===== -/

/-! ===== BEGIN printed: names, fields, word lists, decode rows ===== -/
def RX0 : String := "PairTokens$Choices"
def TX0 : u_T := fun k => match k with
  | 0 => ("PairTokens$Choices", "sums", "[I", true)
  | 1 => ("PairTokens$Choices", "lengths", "[I", true)
  | 2 => ("PairTokens$Choices", "manners", "[I", true)
  | _ => ("PairTokens$Choices", "chosen", "[I", true)
def tyX0 : Nat → FieldType := fun k => match k with
  | 0 => .array .int
  | 1 => .array .int
  | 2 => .array .int
  | _ => .array .int
abbrev wsX00 : List Cond := u_ws RX0 TX0 4
theorem nmX0 : ∀ a, a < 4 → ∀ b, b < 4 → a ≠ b → (TX0 a).2.1 ≠ (TX0 b).2.1 := by decide +kernel
theorem tyX0_ok : ∀ k, k < 4 → parseFieldDescriptor (TX0 k).2.2.1 = some (tyX0 k) := by decide +kernel
abbrev cX0_init : ByteArray := prog_2_method_1_code
def yX0_init : MethodName := ⟨RX0, "<init>", "()V"⟩
abbrev cX0_weigh : ByteArray := prog_2_method_2_code
def yX0_weigh : MethodName := ⟨RX0, "weigh", "(LPairTokens$Text;LPairTokens$Vocabulary;)V"⟩
abbrev cX0_chosenAfter : ByteArray := prog_2_method_3_code
def yX0_chosenAfter : MethodName := ⟨RX0, "chosenAfter", "(ILPairTokens$Vocabulary;)I"⟩
abbrev cX0_startWithByte : ByteArray := prog_2_method_4_code
def yX0_startWithByte : MethodName := ⟨RX0, "startWithByte", "(IILPairTokens$Vocabulary;)V"⟩
abbrev cX0_startWithLearned : ByteArray := prog_2_method_5_code
def yX0_startWithLearned : MethodName := ⟨RX0, "startWithLearned", "(IILPairTokens$Vocabulary;)V"⟩
def RX1 : String := "PairTokens$PairCounter"
def TX1 : u_T := fun k => match k with
  | 0 => ("PairTokens$PairCounter", "keys", "[I", true)
  | 1 => ("PairTokens$PairCounter", "counts", "[I", true)
  | _ => ("PairTokens$PairCounter", "places", "[I", true)
def tyX1 : Nat → FieldType := fun k => match k with
  | 0 => .array .int
  | 1 => .array .int
  | _ => .array .int
abbrev wsX10 : List Cond := u_ws RX1 TX1 3
theorem nmX1 : ∀ a, a < 3 → ∀ b, b < 3 → a ≠ b → (TX1 a).2.1 ≠ (TX1 b).2.1 := by decide +kernel
theorem tyX1_ok : ∀ k, k < 3 → parseFieldDescriptor (TX1 k).2.2.1 = some (tyX1 k) := by decide +kernel
abbrev cX1_init : ByteArray := prog_3_method_1_code
def yX1_init : MethodName := ⟨RX1, "<init>", "()V"⟩
abbrev cX1_countPairs : ByteArray := prog_3_method_2_code
def yX1_countPairs : MethodName := ⟨RX1, "countPairs", "(LPairTokens$Row;)V"⟩
abbrev cX1_mostFrequent : ByteArray := prog_3_method_3_code
def yX1_mostFrequent : MethodName := ⟨RX1, "mostFrequent", "()I"⟩
abbrev cX1_isAhead : ByteArray := prog_3_method_4_code
def yX1_isAhead : MethodName := ⟨RX1, "isAhead", "(II)Z"⟩
abbrev cX1_add : ByteArray := prog_3_method_5_code
def yX1_add : MethodName := ⟨RX1, "add", "(III)V"⟩
def RX2 : String := "PairTokens$Row"
def TX2 : u_T := fun k => match k with
  | 0 => ("PairTokens$Row", "cells", "[I", true)
  | 1 => ("PairTokens$Row", "starts", "[I", true)
  | 2 => ("PairTokens$Row", "length", "I", false)
  | _ => ("PairTokens$Row", "wordBegins", "[Z", true)
def tyX2 : Nat → FieldType := fun k => match k with
  | 0 => .array .int
  | 1 => .array .int
  | 2 => .int
  | _ => .array .boolean
abbrev wsX20 : List Cond := u_ws RX2 TX2 4
theorem nmX2 : ∀ a, a < 4 → ∀ b, b < 4 → a ≠ b → (TX2 a).2.1 ≠ (TX2 b).2.1 := by decide +kernel
theorem tyX2_ok : ∀ k, k < 4 → parseFieldDescriptor (TX2 k).2.2.1 = some (tyX2 k) := by decide +kernel
abbrev cX2_init : ByteArray := prog_4_method_1_code
def yX2_init : MethodName := ⟨RX2, "<init>", "()V"⟩
abbrev cX2_spell : ByteArray := prog_4_method_2_code
def yX2_spell : MethodName := ⟨RX2, "spell", "(LPairTokens$Text;)V"⟩
abbrev cX2_hasNext : ByteArray := prog_4_method_3_code
def yX2_hasNext : MethodName := ⟨RX2, "hasNext", "(I)Z"⟩
abbrev cX2_merge : ByteArray := prog_4_method_4_code
def yX2_merge : MethodName := ⟨RX2, "merge", "(III)V"⟩
def RX3 : String := "PairTokens$Text"
def TX3 : u_T := fun k => match k with
  | 0 => ("PairTokens$Text", "octets", "[I", true)
  | _ => ("PairTokens$Text", "length", "I", false)
def tyX3 : Nat → FieldType := fun k => match k with
  | 0 => .array .int
  | _ => .int
abbrev wsX30 : List Cond := u_ws RX3 TX3 2
theorem nmX3 : ∀ a, a < 2 → ∀ b, b < 2 → a ≠ b → (TX3 a).2.1 ≠ (TX3 b).2.1 := by decide +kernel
theorem tyX3_ok : ∀ k, k < 2 → parseFieldDescriptor (TX3 k).2.2.1 = some (tyX3 k) := by decide +kernel
abbrev cX3_init : ByteArray := prog_5_method_1_code
def yX3_init : MethodName := ⟨RX3, "<init>", "()V"⟩
abbrev cX3_append : ByteArray := prog_5_method_2_code
def yX3_append : MethodName := ⟨RX3, "append", "(I)V"⟩
abbrev cX3_beginsWord : ByteArray := prog_5_method_3_code
def yX3_beginsWord : MethodName := ⟨RX3, "beginsWord", "(I)Z"⟩
def RX4 : String := "PairTokens$Vocabulary"
def TX4 : u_T := fun k => match k with
  | 0 => ("PairTokens$Vocabulary", "firsts", "[I", true)
  | 1 => ("PairTokens$Vocabulary", "seconds", "[I", true)
  | 2 => ("PairTokens$Vocabulary", "counts", "[I", true)
  | 3 => ("PairTokens$Vocabulary", "sizes", "[I", true)
  | 4 => ("PairTokens$Vocabulary", "worth", "[I", true)
  | 5 => ("PairTokens$Vocabulary", "learned", "I", false)
  | 6 => ("PairTokens$Vocabulary", "source", "[I", true)
  | _ => ("PairTokens$Vocabulary", "places", "[I", true)
def tyX4 : Nat → FieldType := fun k => match k with
  | 0 => .array .int
  | 1 => .array .int
  | 2 => .array .int
  | 3 => .array .int
  | 4 => .array .int
  | 5 => .int
  | 6 => .array .int
  | _ => .array .int
abbrev wsX40 : List Cond := u_ws RX4 TX4 8
theorem nmX4 : ∀ a, a < 8 → ∀ b, b < 8 → a ≠ b → (TX4 a).2.1 ≠ (TX4 b).2.1 := by decide +kernel
theorem tyX4_ok : ∀ k, k < 8 → parseFieldDescriptor (TX4 k).2.2.1 = some (tyX4 k) := by decide +kernel
abbrev cX4_init : ByteArray := prog_6_method_1_code
def yX4_init : MethodName := ⟨RX4, "<init>", "()V"⟩
abbrev cX4_startFrom : ByteArray := prog_6_method_2_code
def yX4_startFrom : MethodName := ⟨RX4, "startFrom", "(LPairTokens$Text;)V"⟩
abbrev cX4_isToken : ByteArray := prog_6_method_3_code
def yX4_isToken : MethodName := ⟨RX4, "isToken", "(I)Z"⟩
abbrev cX4_isLearned : ByteArray := prog_6_method_4_code
def yX4_isLearned : MethodName := ⟨RX4, "isLearned", "(I)Z"⟩
abbrev cX4_add : ByteArray := prog_6_method_5_code
def yX4_add : MethodName := ⟨RX4, "add", "(IIII)V"⟩
abbrev cX4_sizeOf : ByteArray := prog_6_method_6_code
def yX4_sizeOf : MethodName := ⟨RX4, "sizeOf", "(I)I"⟩
abbrev cX4_byteOf : ByteArray := prog_6_method_7_code
def yX4_byteOf : MethodName := ⟨RX4, "byteOf", "(II)I"⟩
abbrev cX4_standsAt : ByteArray := prog_6_method_8_code
def yX4_standsAt : MethodName := ⟨RX4, "standsAt", "(ILPairTokens$Text;I)Z"⟩
def RX5 : String := "PairTokens"
def TX5 : u_T := fun k => match k with
  | 0 => ("PairTokens", "text", "LPairTokens$Text;", true)
  | 1 => ("PairTokens", "vocabulary", "LPairTokens$Vocabulary;", true)
  | 2 => ("PairTokens", "row", "LPairTokens$Row;", true)
  | 3 => ("PairTokens", "counter", "LPairTokens$PairCounter;", true)
  | _ => ("PairTokens", "choices", "LPairTokens$Choices;", true)
def tyX5 : Nat → FieldType := fun k => match k with
  | 0 => .object "PairTokens$Text"
  | 1 => .object "PairTokens$Vocabulary"
  | 2 => .object "PairTokens$Row"
  | 3 => .object "PairTokens$PairCounter"
  | _ => .object "PairTokens$Choices"
abbrev wsX50 : List Cond := u_ws RX5 TX5 5
theorem nmX5 : ∀ a, a < 5 → ∀ b, b < 5 → a ≠ b → (TX5 a).2.1 ≠ (TX5 b).2.1 := by decide +kernel
theorem tyX5_ok : ∀ k, k < 5 → parseFieldDescriptor (TX5 k).2.2.1 = some (tyX5 k) := by decide +kernel
abbrev cX5_init : ByteArray := prog_1_method_1_code
def yX5_init : MethodName := ⟨RX5, "<init>", "()V"⟩
abbrev cX5_octet : ByteArray := prog_1_method_2_code
def yX5_octet : MethodName := ⟨RX5, "octet", "(I)I"⟩
abbrev cX5_cut : ByteArray := prog_1_method_3_code
def yX5_cut : MethodName := ⟨RX5, "cut", "(I)I"⟩
abbrev cX5_byteAt : ByteArray := prog_1_method_4_code
def yX5_byteAt : MethodName := ⟨RX5, "byteAt", "(I)I"⟩
abbrev cX5_words : ByteArray := prog_1_method_5_code
def yX5_words : MethodName := ⟨RX5, "words", "()I"⟩
abbrev cX5_learn : ByteArray := prog_1_method_6_code
def yX5_learn : MethodName := ⟨RX5, "learn", "(I)I"⟩
abbrev cX5_pair : ByteArray := prog_1_method_7_code
def yX5_pair : MethodName := ⟨RX5, "pair", "(II)I"⟩
abbrev cX5_count : ByteArray := prog_1_method_8_code
def yX5_count : MethodName := ⟨RX5, "count", "(I)I"⟩
abbrev cX5_size : ByteArray := prog_1_method_9_code
def yX5_size : MethodName := ⟨RX5, "size", "(I)I"⟩
abbrev cX5_decode : ByteArray := prog_1_method_10_code
def yX5_decode : MethodName := ⟨RX5, "decode", "(II)I"⟩
abbrev cX5_tokens : ByteArray := prog_1_method_11_code
def yX5_tokens : MethodName := ⟨RX5, "tokens", "()I"⟩
abbrev cX5_at : ByteArray := prog_1_method_12_code
def yX5_at : MethodName := ⟨RX5, "at", "(I)I"⟩
abbrev cX5_from : ByteArray := prog_1_method_13_code
def yX5_from : MethodName := ⟨RX5, "from", "(I)I"⟩
abbrev cX5_points : ByteArray := prog_1_method_14_code
def yX5_points : MethodName := ⟨RX5, "points", "(II)I"⟩
abbrev cX5_best : ByteArray := prog_1_method_15_code
def yX5_best : MethodName := ⟨RX5, "best", "()I"⟩
abbrev cX5_bestAt : ByteArray := prog_1_method_16_code
def yX5_bestAt : MethodName := ⟨RX5, "bestAt", "(I)I"⟩
abbrev cX5_sum : ByteArray := prog_1_method_17_code
def yX5_sum : MethodName := ⟨RX5, "sum", "()I"⟩
abbrev cX5_ways : ByteArray := prog_1_method_18_code
def yX5_ways : MethodName := ⟨RX5, "ways", "()I"⟩
abbrev cX5_learnNext : ByteArray := prog_1_method_19_code
def yX5_learnNext : MethodName := ⟨RX5, "learnNext", "()Z"⟩
abbrev cX5_tellText : ByteArray := prog_1_method_20_code
def yX5_tellText : MethodName := ⟨RX5, "tellText", "()V"⟩
def RX6 : String := "PairTokensModel"
def TX6 : u_T := fun k => match k with
  | 0 => ("PairTokensModel", "code", "I", false)
  | 1 => ("PairTokensModel", "bytes", "I", false)
  | 2 => ("PairTokensModel", "text", "[I", true)
  | 3 => ("PairTokensModel", "learned", "I", false)
  | 4 => ("PairTokensModel", "first", "[I", true)
  | 5 => ("PairTokensModel", "second", "[I", true)
  | 6 => ("PairTokensModel", "counted", "[I", true)
  | 7 => ("PairTokensModel", "length", "[I", true)
  | 8 => ("PairTokensModel", "spelled", "[I", true)
  | 9 => ("PairTokensModel", "points", "[I", true)
  | 10 => ("PairTokensModel", "size", "I", false)
  | 11 => ("PairTokensModel", "row", "[I", true)
  | 12 => ("PairTokensModel", "places", "[I", true)
  | 13 => ("PairTokensModel", "bestSum", "[I", true)
  | 14 => ("PairTokensModel", "bestSize", "[I", true)
  | 15 => ("PairTokensModel", "bestRow", "[I", true)
  | _ => ("PairTokensModel", "waysTo", "[I", true)
def tyX6 : Nat → FieldType := fun k => match k with
  | 0 => .int
  | 1 => .int
  | 2 => .array .int
  | 3 => .int
  | 4 => .array .int
  | 5 => .array .int
  | 6 => .array .int
  | 7 => .array .int
  | 8 => .array .int
  | 9 => .array .int
  | 10 => .int
  | 11 => .array .int
  | 12 => .array .int
  | 13 => .array .int
  | 14 => .array .int
  | 15 => .array .int
  | _ => .array .int
abbrev wsX60 : List Cond := u_ws RX6 TX6 17
theorem nmX6 : ∀ a, a < 17 → ∀ b, b < 17 → a ≠ b → (TX6 a).2.1 ≠ (TX6 b).2.1 := by decide +kernel
theorem tyX6_ok : ∀ k, k < 17 → parseFieldDescriptor (TX6 k).2.2.1 = some (tyX6 k) := by decide +kernel
abbrev cX6_init : ByteArray := prog_8_method_1_code
def yX6_init : MethodName := ⟨RX6, "<init>", "()V"⟩
abbrev cX6_thrown : ByteArray := prog_8_method_2_code
def yX6_thrown : MethodName := ⟨RX6, "thrown", "()I"⟩
abbrev cX6_in : ByteArray := prog_8_method_3_code
def yX6_in : MethodName := ⟨RX6, "in", "(III)Z"⟩
abbrev cX6_octet : ByteArray := prog_8_method_4_code
def yX6_octet : MethodName := ⟨RX6, "octet", "(I)I"⟩
abbrev cX6_cut : ByteArray := prog_8_method_5_code
def yX6_cut : MethodName := ⟨RX6, "cut", "(I)I"⟩
abbrev cX6_byteAt : ByteArray := prog_8_method_6_code
def yX6_byteAt : MethodName := ⟨RX6, "byteAt", "(I)I"⟩
abbrev cX6_beginsWord : ByteArray := prog_8_method_7_code
def yX6_beginsWord : MethodName := ⟨RX6, "beginsWord", "(I)Z"⟩
abbrev cX6_words : ByteArray := prog_8_method_8_code
def yX6_words : MethodName := ⟨RX6, "words", "()I"⟩
abbrev cX6_layBytes : ByteArray := prog_8_method_9_code
def yX6_layBytes : MethodName := ⟨RX6, "layBytes", "()V"⟩
abbrev cX6_isPair : ByteArray := prog_8_method_10_code
def yX6_isPair : MethodName := ⟨RX6, "isPair", "(III)Z"⟩
abbrev cX6_join : ByteArray := prog_8_method_11_code
def yX6_join : MethodName := ⟨RX6, "join", "(III)V"⟩
abbrev cX6_sizeOf : ByteArray := prog_8_method_12_code
def yX6_sizeOf : MethodName := ⟨RX6, "sizeOf", "(I)I"⟩
abbrev cX6_byteOf : ByteArray := prog_8_method_13_code
def yX6_byteOf : MethodName := ⟨RX6, "byteOf", "(II)I"⟩
abbrev cX6_keep : ByteArray := prog_8_method_14_code
def yX6_keep : MethodName := ⟨RX6, "keep", "(III)V"⟩
abbrev cX6_countOf : ByteArray := prog_8_method_15_code
def yX6_countOf : MethodName := ⟨RX6, "countOf", "(II)I"⟩
abbrev cX6_learn : ByteArray := prog_8_method_16_code
def yX6_learn : MethodName := ⟨RX6, "learn", "(I)I"⟩
abbrev cX6_isLearned : ByteArray := prog_8_method_17_code
def yX6_isLearned : MethodName := ⟨RX6, "isLearned", "(I)Z"⟩
abbrev cX6_isToken : ByteArray := prog_8_method_18_code
def yX6_isToken : MethodName := ⟨RX6, "isToken", "(I)Z"⟩
abbrev cX6_pair : ByteArray := prog_8_method_19_code
def yX6_pair : MethodName := ⟨RX6, "pair", "(II)I"⟩
abbrev cX6_count : ByteArray := prog_8_method_20_code
def yX6_count : MethodName := ⟨RX6, "count", "(I)I"⟩
abbrev cX6_size : ByteArray := prog_8_method_21_code
def yX6_size : MethodName := ⟨RX6, "size", "(I)I"⟩
abbrev cX6_decode : ByteArray := prog_8_method_22_code
def yX6_decode : MethodName := ⟨RX6, "decode", "(II)I"⟩
abbrev cX6_tell : ByteArray := prog_8_method_23_code
def yX6_tell : MethodName := ⟨RX6, "tell", "()V"⟩
abbrev cX6_tokens : ByteArray := prog_8_method_24_code
def yX6_tokens : MethodName := ⟨RX6, "tokens", "()I"⟩
abbrev cX6_at : ByteArray := prog_8_method_25_code
def yX6_at : MethodName := ⟨RX6, "at", "(I)I"⟩
abbrev cX6_from : ByteArray := prog_8_method_26_code
def yX6_from : MethodName := ⟨RX6, "from", "(I)I"⟩
abbrev cX6_points : ByteArray := prog_8_method_27_code
def yX6_points : MethodName := ⟨RX6, "points", "(II)I"⟩
abbrev cX6_fits : ByteArray := prog_8_method_28_code
def yX6_fits : MethodName := ⟨RX6, "fits", "(II)Z"⟩
abbrev cX6_isBefore : ByteArray := prog_8_method_29_code
def yX6_isBefore : MethodName := ⟨RX6, "isBefore", "(III)Z"⟩
abbrev cX6_come : ByteArray := prog_8_method_30_code
def yX6_come : MethodName := ⟨RX6, "come", "(II)V"⟩
abbrev cX6_findBest : ByteArray := prog_8_method_31_code
def yX6_findBest : MethodName := ⟨RX6, "findBest", "()V"⟩
abbrev cX6_best : ByteArray := prog_8_method_32_code
def yX6_best : MethodName := ⟨RX6, "best", "()I"⟩
abbrev cX6_bestAt : ByteArray := prog_8_method_33_code
def yX6_bestAt : MethodName := ⟨RX6, "bestAt", "(I)I"⟩
abbrev cX6_sum : ByteArray := prog_8_method_34_code
def yX6_sum : MethodName := ⟨RX6, "sum", "()I"⟩
abbrev cX6_ways : ByteArray := prog_8_method_35_code
def yX6_ways : MethodName := ⟨RX6, "ways", "()I"⟩
def RJx00060 : String := "java/lang/ArrayIndexOutOfBoundsException"
def TJx00060 : u_T := fun k => match k with
  | 0 => ("java/lang/Throwable", "cause", "Ljava/lang/Throwable;", false)
  | 1 => ("java/lang/Throwable", "stackTrace", "[Ljava/lang/StackTraceElement;", false)
  | 2 => ("java/lang/Throwable", "suppressedExceptions", "Ljava/util/List;", false)
  | 3 => ("java/lang/Throwable", "detailMessage", "Ljava/lang/String;", false)
  | 4 => ("java/lang/Throwable", "backtrace", "Ljava/lang/Object;", false)
  | _ => ("java/lang/Throwable", "depth", "I", false)
def tyJx00060 : Nat → FieldType := fun k => match k with
  | 0 => .object "java/lang/Throwable"
  | 1 => .array (.object "java/lang/StackTraceElement")
  | 2 => .object "java/util/List"
  | 3 => .object "java/lang/String"
  | 4 => .object "java/lang/Object"
  | _ => .int
abbrev wsJx000600 : List Cond := u_ws RJx00060 TJx00060 6
theorem nmJx00060 : ∀ a, a < 6 → ∀ b, b < 6 → a ≠ b → (TJx00060 a).2.1 ≠ (TJx00060 b).2.1 := by decide +kernel
theorem tyJx00060_ok : ∀ k, k < 6 → parseFieldDescriptor (TJx00060 k).2.2.1 = some (tyJx00060 k) := by decide +kernel
abbrev cJx00060_init_a7421 : ByteArray := prog_9_method_2_code
def yJx00060_init_a7421 : MethodName := ⟨RJx00060, "<init>", "(Ljava/lang/String;)V"⟩
def RJ9 : String := "java/lang/Math"
def TJ9 : u_T := fun k => match k with
  | _ => ("", "", "", false)
def tyJ9 : Nat → FieldType := fun k => match k with
  | _ => .int
abbrev wsJ90 : List Cond := u_ws RJ9 TJ9 0
theorem nmJ9 : ∀ a, a < 0 → ∀ b, b < 0 → a ≠ b → (TJ9 a).2.1 ≠ (TJ9 b).2.1 := by decide +kernel
theorem tyJ9_ok : ∀ k, k < 0 → parseFieldDescriptor (TJ9 k).2.2.1 = some (tyJ9 k) := by decide +kernel
abbrev cJ9_min_7cf53 : ByteArray := prog_12_method_69_code
def yJ9_min_7cf53 : MethodName := ⟨RJ9, "min", "(II)I"⟩
def RJ0 : String := "java/lang/String"
def TJ0 : u_T := fun k => match k with
  | _ => ("", "", "", false)
def tyJ0 : Nat → FieldType := fun k => match k with
  | _ => .int
abbrev wsJ00 : List Cond := u_ws RJ0 TJ0 0
theorem nmJ0 : ∀ a, a < 0 → ∀ b, b < 0 → a ≠ b → (TJ0 a).2.1 ≠ (TJ0 b).2.1 := by decide +kernel
theorem tyJ0_ok : ∀ k, k < 0 → parseFieldDescriptor (TJ0 k).2.2.1 = some (tyJ0 k) := by decide +kernel
def RJ10 : String := "java/lang/System"
def TJ10 : u_T := fun k => match k with
  | _ => ("", "", "", false)
def tyJ10 : Nat → FieldType := fun k => match k with
  | _ => .int
abbrev wsJ100 : List Cond := u_ws RJ10 TJ10 0
theorem nmJ10 : ∀ a, a < 0 → ∀ b, b < 0 → a ≠ b → (TJ10 a).2.1 ≠ (TJ10 b).2.1 := by decide +kernel
theorem tyJ10_ok : ∀ k, k < 0 → parseFieldDescriptor (TJ10 k).2.2.1 = some (tyJ10 k) := by decide +kernel
def RJ7 : String := "java/util/Arrays"
def TJ7 : u_T := fun k => match k with
  | _ => ("", "", "", false)
def tyJ7 : Nat → FieldType := fun k => match k with
  | _ => .int
abbrev wsJ70 : List Cond := u_ws RJ7 TJ7 0
theorem nmJ7 : ∀ a, a < 0 → ∀ b, b < 0 → a ≠ b → (TJ7 a).2.1 ≠ (TJ7 b).2.1 := by decide +kernel
theorem tyJ7_ok : ∀ k, k < 0 → parseFieldDescriptor (TJ7 k).2.2.1 = some (tyJ7 k) := by decide +kernel
abbrev cJ7_fill_53178 : ByteArray := prog_17_method_103_code
def yJ7_fill_53178 : MethodName := ⟨RJ7, "fill", "([II)V"⟩
def RL : String := "PairTokensLaw"
abbrev cL_decode : ByteArray := method_3_code
def yL_decode : MethodName := ⟨RL, "decode", "(LPairTokens;II[J)I"⟩
abbrev cL_law : ByteArray := code
def yL_law : MethodName := ⟨RL, "law", "([I)Z"⟩
def wsX0_init : List Cond := .code yX0_init cX0_init 1 none :: ([.methodLink RX0 3 objectInit, .instanceMethod objectInit, .code objectInit ⟨#[0xb1]⟩ 1 none, .arrayClass .int, .fieldLink RX0 9 "PairTokens$Choices" "sums" "[I", .fieldLink RX0 15 "PairTokens$Choices" "lengths" "[I", .fieldLink RX0 18 "PairTokens$Choices" "manners" "[I", .fieldLink RX0 21 "PairTokens$Choices" "chosen" "[I"] ++ wsX00)
def wsX0_startWithByte : List Cond := .code yX0_startWithByte cX0_startWithByte 4 none :: ([.fieldLink RX0 9 "PairTokens$Choices" "sums" "[I", .fieldLink RX0 53 "PairTokens$Vocabulary" "worth" "[I", .fieldLink RX0 15 "PairTokens$Choices" "lengths" "[I", .fieldLink RX0 18 "PairTokens$Choices" "manners" "[I", .fieldLink RX0 21 "PairTokens$Choices" "chosen" "[I"] ++ wsX00 ++ wsX40)
def wsX4_isLearned : List Cond := .code yX4_isLearned cX4_isLearned 2 (some .boolean) :: ([.fieldLink RX4 27 "PairTokens$Vocabulary" "learned" "I"] ++ wsX40)
def wsX4_sizeOf : List Cond := .code yX4_sizeOf cX4_sizeOf 2 (some .int) :: ([.fieldLink RX4 21 "PairTokens$Vocabulary" "sizes" "[I", .methodLink RX4 58 yX4_isLearned, .instanceMethod yX4_isLearned, .selects RX4 yX4_isLearned yX4_isLearned, .initialized RX4, .code yX4_isLearned cX4_isLearned 2 (some .boolean), .fieldLink RX4 27 "PairTokens$Vocabulary" "learned" "I"] ++ wsX40)
def wsX4_byteOf : List Cond := .code yX4_byteOf cX4_byteOf 4 (some .int) :: ([.fieldLink RX4 34 "PairTokens$Vocabulary" "places" "[I", .fieldLink RX4 31 "PairTokens$Vocabulary" "source" "[I", .methodLink RX4 58 yX4_isLearned, .instanceMethod yX4_isLearned, .selects RX4 yX4_isLearned yX4_isLearned, .initialized RX4, .code yX4_isLearned cX4_isLearned 2 (some .boolean), .fieldLink RX4 27 "PairTokens$Vocabulary" "learned" "I"] ++ wsX40)
def wsX4_standsAt : List Cond := .code yX4_standsAt cX4_standsAt 6 (some .boolean) :: ([.fieldLink RX4 62 "PairTokens$Text" "length" "I", .fieldLink RX4 43 "PairTokens$Text" "octets" "[I", .methodLink RX4 54 yX4_sizeOf, .instanceMethod yX4_sizeOf, .selects RX4 yX4_sizeOf yX4_sizeOf, .initialized RX4, .code yX4_sizeOf cX4_sizeOf 2 (some .int), .fieldLink RX4 21 "PairTokens$Vocabulary" "sizes" "[I", .methodLink RX4 58 yX4_isLearned, .instanceMethod yX4_isLearned, .selects RX4 yX4_isLearned yX4_isLearned, .code yX4_isLearned cX4_isLearned 2 (some .boolean), .fieldLink RX4 27 "PairTokens$Vocabulary" "learned" "I", .methodLink RX4 65 yX4_byteOf, .instanceMethod yX4_byteOf, .selects RX4 yX4_byteOf yX4_byteOf, .code yX4_byteOf cX4_byteOf 4 (some .int), .fieldLink RX4 34 "PairTokens$Vocabulary" "places" "[I", .fieldLink RX4 31 "PairTokens$Vocabulary" "source" "[I"] ++ wsX30 ++ wsX40)
def wsX0_startWithLearned : List Cond := .code yX0_startWithLearned cX0_startWithLearned 7 none :: ([.fieldLink RX0 53 "PairTokens$Vocabulary" "worth" "[I", .fieldLink RX0 9 "PairTokens$Choices" "sums" "[I", .fieldLink RX0 15 "PairTokens$Choices" "lengths" "[I", .fieldLink RX0 18 "PairTokens$Choices" "manners" "[I", .constant RX0 56 (1000000), .methodLink RX0 57 Lib.Math.min.name, .static Lib.Math.min.name, .initialized "java/lang/Math", .code Lib.Math.min.name Lib.Math.min.code 2 (some .int), .fieldLink RX0 21 "PairTokens$Choices" "chosen" "[I", .methodLink RX0 49 yX4_sizeOf, .instanceMethod yX4_sizeOf, .selects RX4 yX4_sizeOf yX4_sizeOf, .initialized RX4, .code yX4_sizeOf cX4_sizeOf 2 (some .int), .fieldLink RX4 21 "PairTokens$Vocabulary" "sizes" "[I", .methodLink RX4 58 yX4_isLearned, .instanceMethod yX4_isLearned, .selects RX4 yX4_isLearned yX4_isLearned, .code yX4_isLearned cX4_isLearned 2 (some .boolean), .fieldLink RX4 27 "PairTokens$Vocabulary" "learned" "I"] ++ wsX40 ++ wsX00)
def wsX0_weigh_r1 : List Cond := [Cond.fieldLink RX0 24 "PairTokens$Text" "length" "I", Cond.fieldLink RX0 9 "PairTokens$Choices" "sums" "[I", Cond.fieldLink RX0 15 "PairTokens$Choices" "lengths" "[I", Cond.fieldLink RX0 18 "PairTokens$Choices" "manners" "[I", Cond.fieldLink RX0 30 "PairTokens$Text" "octets" "[I", Cond.fieldLink RX0 37 "PairTokens$Vocabulary" "learned" "I", Cond.methodLink RX0 33 yX0_startWithByte, Cond.instanceMethod yX0_startWithByte, Cond.selects RX0 yX0_startWithByte yX0_startWithByte, Cond.initialized RX0, Cond.code yX0_startWithByte cX0_startWithByte 4 none, Cond.fieldLink RX0 53 "PairTokens$Vocabulary" "worth" "[I", Cond.fieldLink RX0 21 "PairTokens$Choices" "chosen" "[I", Cond.methodLink RX0 42 yX4_standsAt, Cond.instanceMethod yX4_standsAt, Cond.selects RX4 yX4_standsAt yX4_standsAt, Cond.initialized RX4, Cond.code yX4_standsAt cX4_standsAt 6 (some .boolean), Cond.fieldLink RX4 62 "PairTokens$Text" "length" "I", Cond.fieldLink RX4 43 "PairTokens$Text" "octets" "[I", Cond.methodLink RX4 54 yX4_sizeOf, Cond.instanceMethod yX4_sizeOf, Cond.selects RX4 yX4_sizeOf yX4_sizeOf, Cond.code yX4_sizeOf cX4_sizeOf 2 (some .int)]
def wsX0_weigh_r2 : List Cond := [Cond.fieldLink RX4 21 "PairTokens$Vocabulary" "sizes" "[I", Cond.methodLink RX4 58 yX4_isLearned, Cond.instanceMethod yX4_isLearned, Cond.selects RX4 yX4_isLearned yX4_isLearned, Cond.code yX4_isLearned cX4_isLearned 2 (some .boolean), Cond.fieldLink RX4 27 "PairTokens$Vocabulary" "learned" "I", Cond.methodLink RX4 65 yX4_byteOf, Cond.instanceMethod yX4_byteOf, Cond.selects RX4 yX4_byteOf yX4_byteOf, Cond.code yX4_byteOf cX4_byteOf 4 (some .int), Cond.fieldLink RX4 34 "PairTokens$Vocabulary" "places" "[I", Cond.fieldLink RX4 31 "PairTokens$Vocabulary" "source" "[I", Cond.methodLink RX0 46 yX0_startWithLearned, Cond.instanceMethod yX0_startWithLearned, Cond.selects RX0 yX0_startWithLearned yX0_startWithLearned, Cond.code yX0_startWithLearned cX0_startWithLearned 7 none, Cond.constant RX0 56 (1000000), Cond.methodLink RX0 57 Lib.Math.min.name, Cond.static Lib.Math.min.name, Cond.initialized "java/lang/Math", Cond.code Lib.Math.min.name Lib.Math.min.code 2 (some .int), Cond.methodLink RX0 49 yX4_sizeOf]
def wsX0_weigh : List Cond := .code yX0_weigh cX0_weigh 6 none :: ((wsX0_weigh_r1 ++ wsX0_weigh_r2) ++ wsX30 ++ wsX00 ++ wsX40)
def wsX0_chosenAfter : List Cond := .code yX0_chosenAfter cX0_chosenAfter 5 (some .int) :: ([.fieldLink RX0 21 "PairTokens$Choices" "chosen" "[I", .methodLink RX0 49 yX4_sizeOf, .instanceMethod yX4_sizeOf, .selects RX4 yX4_sizeOf yX4_sizeOf, .initialized RX4, .code yX4_sizeOf cX4_sizeOf 2 (some .int), .fieldLink RX4 21 "PairTokens$Vocabulary" "sizes" "[I", .methodLink RX4 58 yX4_isLearned, .instanceMethod yX4_isLearned, .selects RX4 yX4_isLearned yX4_isLearned, .code yX4_isLearned cX4_isLearned 2 (some .boolean), .fieldLink RX4 27 "PairTokens$Vocabulary" "learned" "I"] ++ wsX00 ++ wsX40)
def wsX1_init : List Cond := .code yX1_init cX1_init 1 none :: ([.methodLink RX1 3 objectInit, .instanceMethod objectInit, .code objectInit ⟨#[0xb1]⟩ 1 none, .arrayClass .int, .fieldLink RX1 9 "PairTokens$PairCounter" "keys" "[I", .fieldLink RX1 15 "PairTokens$PairCounter" "counts" "[I", .fieldLink RX1 18 "PairTokens$PairCounter" "places" "[I"] ++ wsX10)
def wsJ7_fill_53178 : List Cond := .code yJ7_fill_53178 cJ7_fill_53178 4 none :: ([])
def wsX2_hasNext : List Cond := .code yX2_hasNext cX2_hasNext 2 (some .boolean) :: ([.fieldLink RX2 18 "PairTokens$Row" "length" "I", .fieldLink RX2 22 "PairTokens$Row" "wordBegins" "[Z"] ++ wsX20)
def wsX1_add : List Cond := .code yX1_add cX1_add 7 none :: ([.fieldLink RX1 15 "PairTokens$PairCounter" "counts" "[I", .fieldLink RX1 9 "PairTokens$PairCounter" "keys" "[I", .fieldLink RX1 18 "PairTokens$PairCounter" "places" "[I"] ++ wsX10)
def wsX1_countPairs : List Cond := .code yX1_countPairs cX1_countPairs 3 none :: ([.fieldLink RX1 15 "PairTokens$PairCounter" "counts" "[I", .fieldLink RX1 27 "PairTokens$Row" "length" "I", .fieldLink RX1 37 "PairTokens$Row" "cells" "[I", .fieldLink RX1 40 "PairTokens$Row" "starts" "[I", .methodLink RX1 21 yJ7_fill_53178, .static yJ7_fill_53178, .initialized RJ7, .code yJ7_fill_53178 cJ7_fill_53178 4 none, .methodLink RX1 33 yX2_hasNext, .instanceMethod yX2_hasNext, .selects RX2 yX2_hasNext yX2_hasNext, .initialized RX2, .code yX2_hasNext cX2_hasNext 2 (some .boolean), .fieldLink RX2 18 "PairTokens$Row" "length" "I", .fieldLink RX2 22 "PairTokens$Row" "wordBegins" "[Z", .methodLink RX1 43 yX1_add, .instanceMethod yX1_add, .selects RX1 yX1_add yX1_add, .initialized RX1, .code yX1_add cX1_add 7 none, .fieldLink RX1 9 "PairTokens$PairCounter" "keys" "[I", .fieldLink RX1 18 "PairTokens$PairCounter" "places" "[I"] ++ wsX10 ++ wsX20)
def wsX1_isAhead : List Cond := .code yX1_isAhead cX1_isAhead 3 (some .boolean) :: ([.fieldLink RX1 15 "PairTokens$PairCounter" "counts" "[I", .fieldLink RX1 9 "PairTokens$PairCounter" "keys" "[I"] ++ wsX10)
def wsX1_mostFrequent : List Cond := .code yX1_mostFrequent cX1_mostFrequent 3 (some .int) :: ([.fieldLink RX1 15 "PairTokens$PairCounter" "counts" "[I", .methodLink RX1 47 yX1_isAhead, .instanceMethod yX1_isAhead, .selects RX1 yX1_isAhead yX1_isAhead, .initialized RX1, .code yX1_isAhead cX1_isAhead 3 (some .boolean), .fieldLink RX1 9 "PairTokens$PairCounter" "keys" "[I"] ++ wsX10)
def wsX2_init : List Cond := .code yX2_init cX2_init 1 none :: ([.methodLink RX2 3 objectInit, .instanceMethod objectInit, .code objectInit ⟨#[0xb1]⟩ 1 none, .arrayClass .int, .fieldLink RX2 9 "PairTokens$Row" "cells" "[I", .fieldLink RX2 15 "PairTokens$Row" "starts" "[I", .fieldLink RX2 18 "PairTokens$Row" "length" "I", .arrayClass .boolean, .fieldLink RX2 22 "PairTokens$Row" "wordBegins" "[Z"] ++ wsX20)
def wsX3_beginsWord : List Cond := .code yX3_beginsWord cX3_beginsWord 2 (some .boolean) :: ([.fieldLink RX3 15 "PairTokens$Text" "length" "I", .fieldLink RX3 9 "PairTokens$Text" "octets" "[I"] ++ wsX30)
def wsX2_spell : List Cond := .code yX2_spell cX2_spell 3 none :: ([.fieldLink RX2 26 "PairTokens$Text" "length" "I", .fieldLink RX2 18 "PairTokens$Row" "length" "I", .fieldLink RX2 9 "PairTokens$Row" "cells" "[I", .fieldLink RX2 29 "PairTokens$Text" "octets" "[I", .fieldLink RX2 15 "PairTokens$Row" "starts" "[I", .fieldLink RX2 22 "PairTokens$Row" "wordBegins" "[Z", .methodLink RX2 32 yX3_beginsWord, .instanceMethod yX3_beginsWord, .selects RX3 yX3_beginsWord yX3_beginsWord, .initialized RX3, .code yX3_beginsWord cX3_beginsWord 2 (some .boolean), .fieldLink RX3 15 "PairTokens$Text" "length" "I", .fieldLink RX3 9 "PairTokens$Text" "octets" "[I"] ++ wsX30 ++ wsX20)
def wsX2_merge : List Cond := .code yX2_merge cX2_merge 7 none :: ([.fieldLink RX2 18 "PairTokens$Row" "length" "I", .fieldLink RX2 9 "PairTokens$Row" "cells" "[I", .fieldLink RX2 15 "PairTokens$Row" "starts" "[I", .fieldLink RX2 22 "PairTokens$Row" "wordBegins" "[Z", .methodLink RX2 36 yX2_hasNext, .instanceMethod yX2_hasNext, .selects RX2 yX2_hasNext yX2_hasNext, .initialized RX2, .code yX2_hasNext cX2_hasNext 2 (some .boolean)] ++ wsX20)
def wsX3_init : List Cond := .code yX3_init cX3_init 1 none :: ([.methodLink RX3 3 objectInit, .instanceMethod objectInit, .code objectInit ⟨#[0xb1]⟩ 1 none, .arrayClass .int, .fieldLink RX3 9 "PairTokens$Text" "octets" "[I", .fieldLink RX3 15 "PairTokens$Text" "length" "I"] ++ wsX30)
def wsX3_append : List Cond := .code yX3_append cX3_append 2 none :: ([.fieldLink RX3 15 "PairTokens$Text" "length" "I", .fieldLink RX3 9 "PairTokens$Text" "octets" "[I"] ++ wsX30)
def wsX4_init : List Cond := .code yX4_init cX4_init 1 none :: ([.methodLink RX4 3 objectInit, .instanceMethod objectInit, .code objectInit ⟨#[0xb1]⟩ 1 none, .arrayClass .int, .fieldLink RX4 9 "PairTokens$Vocabulary" "firsts" "[I", .fieldLink RX4 15 "PairTokens$Vocabulary" "seconds" "[I", .fieldLink RX4 18 "PairTokens$Vocabulary" "counts" "[I", .fieldLink RX4 21 "PairTokens$Vocabulary" "sizes" "[I", .fieldLink RX4 24 "PairTokens$Vocabulary" "worth" "[I", .fieldLink RX4 27 "PairTokens$Vocabulary" "learned" "I", .fieldLink RX4 31 "PairTokens$Vocabulary" "source" "[I", .fieldLink RX4 34 "PairTokens$Vocabulary" "places" "[I", .methodLink RX4 37 yJ7_fill_53178, .static yJ7_fill_53178, .initialized RJ7, .code yJ7_fill_53178 cJ7_fill_53178 4 none] ++ wsX40)
def wsX4_startFrom : List Cond := .code yX4_startFrom cX4_startFrom 2 none :: ([.fieldLink RX4 43 "PairTokens$Text" "octets" "[I", .fieldLink RX4 31 "PairTokens$Vocabulary" "source" "[I", .methodLink RX4 48 arraycopyName, .native arraycopyName, .static arraycopyName, .initialized "java/lang/System", .fieldLink RX4 27 "PairTokens$Vocabulary" "learned" "I"] ++ wsX30 ++ wsX40)
def wsX4_isToken : List Cond := .code yX4_isToken cX4_isToken 2 (some .boolean) :: ([.fieldLink RX4 27 "PairTokens$Vocabulary" "learned" "I"] ++ wsX40)
def wsX4_add : List Cond := .code yX4_add cX4_add 5 none :: ([.fieldLink RX4 27 "PairTokens$Vocabulary" "learned" "I", .fieldLink RX4 9 "PairTokens$Vocabulary" "firsts" "[I", .fieldLink RX4 15 "PairTokens$Vocabulary" "seconds" "[I", .fieldLink RX4 18 "PairTokens$Vocabulary" "counts" "[I", .fieldLink RX4 21 "PairTokens$Vocabulary" "sizes" "[I", .fieldLink RX4 34 "PairTokens$Vocabulary" "places" "[I", .fieldLink RX4 24 "PairTokens$Vocabulary" "worth" "[I", .methodLink RX4 54 yX4_sizeOf, .instanceMethod yX4_sizeOf, .selects RX4 yX4_sizeOf yX4_sizeOf, .initialized RX4, .code yX4_sizeOf cX4_sizeOf 2 (some .int), .methodLink RX4 58 yX4_isLearned, .instanceMethod yX4_isLearned, .selects RX4 yX4_isLearned yX4_isLearned, .code yX4_isLearned cX4_isLearned 2 (some .boolean)] ++ wsX40)
def wsX5_init_r1 : List Cond := [Cond.methodLink RX5 1 objectInit, Cond.instanceMethod objectInit, Cond.code objectInit ⟨#[0xb1]⟩ 1 none, Cond.classLink RX5 7 RX3, Cond.instantiable RX3 2, Cond.initialized RX3, Cond.fieldLink RX5 10 "PairTokens" "text" "LPairTokens$Text;", Cond.classLink RX5 16 RX4, Cond.instantiable RX4 8, Cond.initialized RX4, Cond.fieldLink RX5 19 "PairTokens" "vocabulary" "LPairTokens$Vocabulary;", Cond.classLink RX5 23 RX2, Cond.instantiable RX2 4, Cond.initialized RX2, Cond.fieldLink RX5 26 "PairTokens" "row" "LPairTokens$Row;", Cond.classLink RX5 30 RX1, Cond.instantiable RX1 3, Cond.initialized RX1, Cond.fieldLink RX5 33 "PairTokens" "counter" "LPairTokens$PairCounter;", Cond.classLink RX5 37 RX0, Cond.instantiable RX0 4, Cond.initialized RX0, Cond.fieldLink RX5 40 "PairTokens" "choices" "LPairTokens$Choices;", Cond.methodLink RX5 9 yX3_init]
def wsX5_init_r2 : List Cond := [Cond.instanceMethod yX3_init, Cond.code yX3_init cX3_init 1 none, Cond.methodLink RX3 3 objectInit, Cond.arrayClass .int, Cond.fieldLink RX3 9 "PairTokens$Text" "octets" "[I", Cond.fieldLink RX3 15 "PairTokens$Text" "length" "I", Cond.methodLink RX5 18 yX4_init, Cond.instanceMethod yX4_init, Cond.code yX4_init cX4_init 1 none, Cond.methodLink RX4 3 objectInit, Cond.fieldLink RX4 9 "PairTokens$Vocabulary" "firsts" "[I", Cond.fieldLink RX4 15 "PairTokens$Vocabulary" "seconds" "[I", Cond.fieldLink RX4 18 "PairTokens$Vocabulary" "counts" "[I", Cond.fieldLink RX4 21 "PairTokens$Vocabulary" "sizes" "[I", Cond.fieldLink RX4 24 "PairTokens$Vocabulary" "worth" "[I", Cond.fieldLink RX4 27 "PairTokens$Vocabulary" "learned" "I", Cond.fieldLink RX4 31 "PairTokens$Vocabulary" "source" "[I", Cond.fieldLink RX4 34 "PairTokens$Vocabulary" "places" "[I", Cond.methodLink RX4 37 yJ7_fill_53178, Cond.static yJ7_fill_53178, Cond.initialized RJ7, Cond.code yJ7_fill_53178 cJ7_fill_53178 4 none, Cond.methodLink RX5 25 yX2_init, Cond.instanceMethod yX2_init]
def wsX5_init_r3 : List Cond := [Cond.code yX2_init cX2_init 1 none, Cond.methodLink RX2 3 objectInit, Cond.fieldLink RX2 9 "PairTokens$Row" "cells" "[I", Cond.fieldLink RX2 15 "PairTokens$Row" "starts" "[I", Cond.fieldLink RX2 18 "PairTokens$Row" "length" "I", Cond.arrayClass .boolean, Cond.fieldLink RX2 22 "PairTokens$Row" "wordBegins" "[Z", Cond.methodLink RX5 32 yX1_init, Cond.instanceMethod yX1_init, Cond.code yX1_init cX1_init 1 none, Cond.methodLink RX1 3 objectInit, Cond.fieldLink RX1 9 "PairTokens$PairCounter" "keys" "[I", Cond.fieldLink RX1 15 "PairTokens$PairCounter" "counts" "[I", Cond.fieldLink RX1 18 "PairTokens$PairCounter" "places" "[I", Cond.methodLink RX5 39 yX0_init, Cond.instanceMethod yX0_init, Cond.code yX0_init cX0_init 1 none, Cond.methodLink RX0 3 objectInit, Cond.fieldLink RX0 9 "PairTokens$Choices" "sums" "[I", Cond.fieldLink RX0 15 "PairTokens$Choices" "lengths" "[I", Cond.fieldLink RX0 18 "PairTokens$Choices" "manners" "[I", Cond.fieldLink RX0 21 "PairTokens$Choices" "chosen" "[I"]
def wsX5_init : List Cond := .code yX5_init cX5_init 1 none :: ((wsX5_init_r1 ++ (wsX5_init_r2 ++ wsX5_init_r3)) ++ wsX30 ++ wsX50 ++ wsX40 ++ wsX20 ++ wsX10 ++ wsX00)
def wsX5_octet : List Cond := .code yX5_octet cX5_octet 2 (some .int) :: ([.fieldLink RX5 10 "PairTokens" "text" "LPairTokens$Text;", .fieldLink RX5 44 "PairTokens$Text" "length" "I", .methodLink RX5 48 yX3_append, .instanceMethod yX3_append, .selects RX3 yX3_append yX3_append, .initialized RX3, .code yX3_append cX3_append 2 none, .fieldLink RX3 15 "PairTokens$Text" "length" "I", .fieldLink RX3 9 "PairTokens$Text" "octets" "[I"] ++ wsX50 ++ wsX30)
def wsX5_cut : List Cond := .code yX5_cut cX5_cut 3 (some .int) :: ([.fieldLink RX5 10 "PairTokens" "text" "LPairTokens$Text;", .fieldLink RX5 44 "PairTokens$Text" "length" "I"] ++ wsX50 ++ wsX30)
def wsX5_byteAt : List Cond := .code yX5_byteAt cX5_byteAt 2 (some .int) :: ([.fieldLink RX5 10 "PairTokens" "text" "LPairTokens$Text;", .fieldLink RX5 44 "PairTokens$Text" "length" "I", .fieldLink RX5 52 "PairTokens$Text" "octets" "[I"] ++ wsX50 ++ wsX30)
def wsX5_words : List Cond := .code yX5_words cX5_words 3 (some .int) :: ([.fieldLink RX5 10 "PairTokens" "text" "LPairTokens$Text;", .fieldLink RX5 44 "PairTokens$Text" "length" "I", .methodLink RX5 56 yX3_beginsWord, .instanceMethod yX3_beginsWord, .selects RX3 yX3_beginsWord yX3_beginsWord, .initialized RX3, .code yX3_beginsWord cX3_beginsWord 2 (some .boolean), .fieldLink RX3 15 "PairTokens$Text" "length" "I", .fieldLink RX3 9 "PairTokens$Text" "octets" "[I"] ++ wsX50 ++ wsX30)
def wsX5_learnNext_r1 : List Cond := [Cond.fieldLink RX5 33 "PairTokens" "counter" "LPairTokens$PairCounter;", Cond.fieldLink RX5 26 "PairTokens" "row" "LPairTokens$Row;", Cond.fieldLink RX5 142 "PairTokens$PairCounter" "counts" "[I", Cond.fieldLink RX5 19 "PairTokens" "vocabulary" "LPairTokens$Vocabulary;", Cond.fieldLink RX5 71 "PairTokens$Vocabulary" "learned" "I", Cond.fieldLink RX5 143 "PairTokens$PairCounter" "keys" "[I", Cond.fieldLink RX5 146 "PairTokens$PairCounter" "places" "[I", Cond.methodLink RX5 134 yX1_countPairs, Cond.instanceMethod yX1_countPairs, Cond.selects RX1 yX1_countPairs yX1_countPairs, Cond.initialized RX1, Cond.code yX1_countPairs cX1_countPairs 3 none, Cond.fieldLink RX1 15 "PairTokens$PairCounter" "counts" "[I", Cond.fieldLink RX1 27 "PairTokens$Row" "length" "I", Cond.fieldLink RX1 37 "PairTokens$Row" "cells" "[I", Cond.fieldLink RX1 40 "PairTokens$Row" "starts" "[I", Cond.methodLink RX1 21 yJ7_fill_53178, Cond.static yJ7_fill_53178, Cond.initialized RJ7, Cond.code yJ7_fill_53178 cJ7_fill_53178 4 none, Cond.methodLink RX1 33 yX2_hasNext, Cond.instanceMethod yX2_hasNext, Cond.selects RX2 yX2_hasNext yX2_hasNext, Cond.initialized RX2]
def wsX5_learnNext_r2 : List Cond := [Cond.code yX2_hasNext cX2_hasNext 2 (some .boolean), Cond.fieldLink RX2 18 "PairTokens$Row" "length" "I", Cond.fieldLink RX2 22 "PairTokens$Row" "wordBegins" "[Z", Cond.methodLink RX1 43 yX1_add, Cond.instanceMethod yX1_add, Cond.selects RX1 yX1_add yX1_add, Cond.code yX1_add cX1_add 7 none, Cond.fieldLink RX1 9 "PairTokens$PairCounter" "keys" "[I", Cond.fieldLink RX1 18 "PairTokens$PairCounter" "places" "[I", Cond.methodLink RX5 138 yX1_mostFrequent, Cond.instanceMethod yX1_mostFrequent, Cond.selects RX1 yX1_mostFrequent yX1_mostFrequent, Cond.code yX1_mostFrequent cX1_mostFrequent 3 (some .int), Cond.methodLink RX1 47 yX1_isAhead, Cond.instanceMethod yX1_isAhead, Cond.selects RX1 yX1_isAhead yX1_isAhead, Cond.code yX1_isAhead cX1_isAhead 3 (some .boolean), Cond.methodLink RX5 149 yX4_add, Cond.instanceMethod yX4_add, Cond.selects RX4 yX4_add yX4_add, Cond.initialized RX4, Cond.code yX4_add cX4_add 5 none, Cond.fieldLink RX4 27 "PairTokens$Vocabulary" "learned" "I", Cond.fieldLink RX4 9 "PairTokens$Vocabulary" "firsts" "[I"]
def wsX5_learnNext_r3 : List Cond := [Cond.fieldLink RX4 15 "PairTokens$Vocabulary" "seconds" "[I", Cond.fieldLink RX4 18 "PairTokens$Vocabulary" "counts" "[I", Cond.fieldLink RX4 21 "PairTokens$Vocabulary" "sizes" "[I", Cond.fieldLink RX4 34 "PairTokens$Vocabulary" "places" "[I", Cond.fieldLink RX4 24 "PairTokens$Vocabulary" "worth" "[I", Cond.methodLink RX4 54 yX4_sizeOf, Cond.instanceMethod yX4_sizeOf, Cond.selects RX4 yX4_sizeOf yX4_sizeOf, Cond.code yX4_sizeOf cX4_sizeOf 2 (some .int), Cond.methodLink RX4 58 yX4_isLearned, Cond.instanceMethod yX4_isLearned, Cond.selects RX4 yX4_isLearned yX4_isLearned, Cond.code yX4_isLearned cX4_isLearned 2 (some .boolean), Cond.methodLink RX5 153 yX2_merge, Cond.instanceMethod yX2_merge, Cond.selects RX2 yX2_merge yX2_merge, Cond.code yX2_merge cX2_merge 7 none, Cond.fieldLink RX2 9 "PairTokens$Row" "cells" "[I", Cond.fieldLink RX2 15 "PairTokens$Row" "starts" "[I", Cond.methodLink RX2 36 yX2_hasNext]
def wsX5_learnNext : List Cond := .code yX5_learnNext cX5_learnNext 5 (some .boolean) :: ((wsX5_learnNext_r1 ++ (wsX5_learnNext_r2 ++ wsX5_learnNext_r3)) ++ wsX50 ++ wsX10 ++ wsX40 ++ wsX20)
def wsX5_learn_r1 : List Cond := [Cond.fieldLink RX5 19 "PairTokens" "vocabulary" "LPairTokens$Vocabulary;", Cond.fieldLink RX5 10 "PairTokens" "text" "LPairTokens$Text;", Cond.fieldLink RX5 26 "PairTokens" "row" "LPairTokens$Row;", Cond.fieldLink RX5 71 "PairTokens$Vocabulary" "learned" "I", Cond.methodLink RX5 60 yX4_startFrom, Cond.instanceMethod yX4_startFrom, Cond.selects RX4 yX4_startFrom yX4_startFrom, Cond.initialized RX4, Cond.code yX4_startFrom cX4_startFrom 2 none, Cond.fieldLink RX4 43 "PairTokens$Text" "octets" "[I", Cond.fieldLink RX4 31 "PairTokens$Vocabulary" "source" "[I", Cond.methodLink RX4 48 arraycopyName, Cond.native arraycopyName, Cond.static arraycopyName, Cond.initialized "java/lang/System", Cond.fieldLink RX4 27 "PairTokens$Vocabulary" "learned" "I", Cond.methodLink RX5 64 yX2_spell, Cond.instanceMethod yX2_spell, Cond.selects RX2 yX2_spell yX2_spell, Cond.initialized RX2, Cond.code yX2_spell cX2_spell 3 none, Cond.fieldLink RX2 26 "PairTokens$Text" "length" "I", Cond.fieldLink RX2 18 "PairTokens$Row" "length" "I", Cond.fieldLink RX2 9 "PairTokens$Row" "cells" "[I"]
def wsX5_learn_r2 : List Cond := [Cond.fieldLink RX2 29 "PairTokens$Text" "octets" "[I", Cond.fieldLink RX2 15 "PairTokens$Row" "starts" "[I", Cond.fieldLink RX2 22 "PairTokens$Row" "wordBegins" "[Z", Cond.methodLink RX2 32 yX3_beginsWord, Cond.instanceMethod yX3_beginsWord, Cond.selects RX3 yX3_beginsWord yX3_beginsWord, Cond.initialized RX3, Cond.code yX3_beginsWord cX3_beginsWord 2 (some .boolean), Cond.fieldLink RX3 15 "PairTokens$Text" "length" "I", Cond.fieldLink RX3 9 "PairTokens$Text" "octets" "[I", Cond.methodLink RX5 67 yX5_learnNext, Cond.instanceMethod yX5_learnNext, Cond.selects RX5 yX5_learnNext yX5_learnNext, Cond.initialized RX5, Cond.code yX5_learnNext cX5_learnNext 5 (some .boolean), Cond.fieldLink RX5 33 "PairTokens" "counter" "LPairTokens$PairCounter;", Cond.fieldLink RX5 142 "PairTokens$PairCounter" "counts" "[I", Cond.fieldLink RX5 143 "PairTokens$PairCounter" "keys" "[I", Cond.fieldLink RX5 146 "PairTokens$PairCounter" "places" "[I", Cond.methodLink RX5 134 yX1_countPairs, Cond.instanceMethod yX1_countPairs, Cond.selects RX1 yX1_countPairs yX1_countPairs, Cond.initialized RX1, Cond.code yX1_countPairs cX1_countPairs 3 none]
def wsX5_learn_r3 : List Cond := [Cond.fieldLink RX1 15 "PairTokens$PairCounter" "counts" "[I", Cond.fieldLink RX1 27 "PairTokens$Row" "length" "I", Cond.fieldLink RX1 37 "PairTokens$Row" "cells" "[I", Cond.fieldLink RX1 40 "PairTokens$Row" "starts" "[I", Cond.methodLink RX1 21 yJ7_fill_53178, Cond.static yJ7_fill_53178, Cond.initialized RJ7, Cond.code yJ7_fill_53178 cJ7_fill_53178 4 none, Cond.methodLink RX1 33 yX2_hasNext, Cond.instanceMethod yX2_hasNext, Cond.selects RX2 yX2_hasNext yX2_hasNext, Cond.code yX2_hasNext cX2_hasNext 2 (some .boolean), Cond.methodLink RX1 43 yX1_add, Cond.instanceMethod yX1_add, Cond.selects RX1 yX1_add yX1_add, Cond.code yX1_add cX1_add 7 none, Cond.fieldLink RX1 9 "PairTokens$PairCounter" "keys" "[I", Cond.fieldLink RX1 18 "PairTokens$PairCounter" "places" "[I", Cond.methodLink RX5 138 yX1_mostFrequent, Cond.instanceMethod yX1_mostFrequent, Cond.selects RX1 yX1_mostFrequent yX1_mostFrequent, Cond.code yX1_mostFrequent cX1_mostFrequent 3 (some .int), Cond.methodLink RX1 47 yX1_isAhead, Cond.instanceMethod yX1_isAhead]
def wsX5_learn_r4 : List Cond := [Cond.selects RX1 yX1_isAhead yX1_isAhead, Cond.code yX1_isAhead cX1_isAhead 3 (some .boolean), Cond.methodLink RX5 149 yX4_add, Cond.instanceMethod yX4_add, Cond.selects RX4 yX4_add yX4_add, Cond.code yX4_add cX4_add 5 none, Cond.fieldLink RX4 9 "PairTokens$Vocabulary" "firsts" "[I", Cond.fieldLink RX4 15 "PairTokens$Vocabulary" "seconds" "[I", Cond.fieldLink RX4 18 "PairTokens$Vocabulary" "counts" "[I", Cond.fieldLink RX4 21 "PairTokens$Vocabulary" "sizes" "[I", Cond.fieldLink RX4 34 "PairTokens$Vocabulary" "places" "[I", Cond.fieldLink RX4 24 "PairTokens$Vocabulary" "worth" "[I", Cond.methodLink RX4 54 yX4_sizeOf, Cond.instanceMethod yX4_sizeOf, Cond.selects RX4 yX4_sizeOf yX4_sizeOf, Cond.code yX4_sizeOf cX4_sizeOf 2 (some .int), Cond.methodLink RX4 58 yX4_isLearned, Cond.instanceMethod yX4_isLearned, Cond.selects RX4 yX4_isLearned yX4_isLearned, Cond.code yX4_isLearned cX4_isLearned 2 (some .boolean), Cond.methodLink RX5 153 yX2_merge, Cond.instanceMethod yX2_merge, Cond.selects RX2 yX2_merge yX2_merge, Cond.code yX2_merge cX2_merge 7 none]
def wsX5_learn_r5 : List Cond := [Cond.methodLink RX2 36 yX2_hasNext]
def wsX5_learn : List Cond := .code yX5_learn cX5_learn 3 (some .int) :: ((wsX5_learn_r1 ++ (wsX5_learn_r2 ++ (wsX5_learn_r3 ++ (wsX5_learn_r4 ++ wsX5_learn_r5)))) ++ wsX50 ++ wsX40 ++ wsX30 ++ wsX20 ++ wsX10)
def wsX5_pair : List Cond := .code yX5_pair cX5_pair 4 (some .int) :: ([.fieldLink RX5 19 "PairTokens" "vocabulary" "LPairTokens$Vocabulary;", .fieldLink RX5 77 "PairTokens$Vocabulary" "firsts" "[I", .fieldLink RX5 80 "PairTokens$Vocabulary" "seconds" "[I", .methodLink RX5 74 yX4_isLearned, .instanceMethod yX4_isLearned, .selects RX4 yX4_isLearned yX4_isLearned, .initialized RX4, .code yX4_isLearned cX4_isLearned 2 (some .boolean), .fieldLink RX4 27 "PairTokens$Vocabulary" "learned" "I"] ++ wsX50 ++ wsX40)
def wsX5_count : List Cond := .code yX5_count cX5_count 2 (some .int) :: ([.fieldLink RX5 19 "PairTokens" "vocabulary" "LPairTokens$Vocabulary;", .fieldLink RX5 83 "PairTokens$Vocabulary" "counts" "[I", .methodLink RX5 74 yX4_isLearned, .instanceMethod yX4_isLearned, .selects RX4 yX4_isLearned yX4_isLearned, .initialized RX4, .code yX4_isLearned cX4_isLearned 2 (some .boolean), .fieldLink RX4 27 "PairTokens$Vocabulary" "learned" "I"] ++ wsX50 ++ wsX40)
def wsX5_size : List Cond := .code yX5_size cX5_size 2 (some .int) :: ([.fieldLink RX5 19 "PairTokens" "vocabulary" "LPairTokens$Vocabulary;", .methodLink RX5 86 yX4_isToken, .instanceMethod yX4_isToken, .selects RX4 yX4_isToken yX4_isToken, .initialized RX4, .code yX4_isToken cX4_isToken 2 (some .boolean), .fieldLink RX4 27 "PairTokens$Vocabulary" "learned" "I", .methodLink RX5 89 yX4_sizeOf, .instanceMethod yX4_sizeOf, .selects RX4 yX4_sizeOf yX4_sizeOf, .code yX4_sizeOf cX4_sizeOf 2 (some .int), .fieldLink RX4 21 "PairTokens$Vocabulary" "sizes" "[I", .methodLink RX4 58 yX4_isLearned, .instanceMethod yX4_isLearned, .selects RX4 yX4_isLearned yX4_isLearned, .code yX4_isLearned cX4_isLearned 2 (some .boolean)] ++ wsX50 ++ wsX40)
def wsX5_decode_r1 : List Cond := [Cond.fieldLink RX5 19 "PairTokens" "vocabulary" "LPairTokens$Vocabulary;", Cond.classLink RX5 93 RJx00060, Cond.instantiable RJx00060 6, Cond.initialized RJx00060, Cond.methodLink RX5 86 yX4_isToken, Cond.instanceMethod yX4_isToken, Cond.selects RX4 yX4_isToken yX4_isToken, Cond.initialized RX4, Cond.code yX4_isToken cX4_isToken 2 (some .boolean), Cond.fieldLink RX4 27 "PairTokens$Vocabulary" "learned" "I", Cond.methodLink RX5 89 yX4_sizeOf, Cond.instanceMethod yX4_sizeOf, Cond.selects RX4 yX4_sizeOf yX4_sizeOf, Cond.code yX4_sizeOf cX4_sizeOf 2 (some .int), Cond.fieldLink RX4 21 "PairTokens$Vocabulary" "sizes" "[I", Cond.methodLink RX4 58 yX4_isLearned, Cond.instanceMethod yX4_isLearned, Cond.selects RX4 yX4_isLearned yX4_isLearned, Cond.code yX4_isLearned cX4_isLearned 2 (some .boolean), Cond.methodLink RX5 100 yX4_byteOf, Cond.instanceMethod yX4_byteOf, Cond.selects RX4 yX4_byteOf yX4_byteOf, Cond.code yX4_byteOf cX4_byteOf 4 (some .int), Cond.fieldLink RX4 34 "PairTokens$Vocabulary" "places" "[I"]
def wsX5_decode_r2 : List Cond := [Cond.fieldLink RX4 31 "PairTokens$Vocabulary" "source" "[I"]
def wsX5_decode : List Cond := .code yX5_decode cX5_decode 3 (some .int) :: ((wsX5_decode_r1 ++ wsX5_decode_r2) ++ wsX50 ++ wsJx000600 ++ wsX40)
def wsX5_tellText_r1 : List Cond := [Cond.fieldLink RX5 26 "PairTokens" "row" "LPairTokens$Row;", Cond.fieldLink RX5 10 "PairTokens" "text" "LPairTokens$Text;", Cond.fieldLink RX5 19 "PairTokens" "vocabulary" "LPairTokens$Vocabulary;", Cond.fieldLink RX5 71 "PairTokens$Vocabulary" "learned" "I", Cond.fieldLink RX5 77 "PairTokens$Vocabulary" "firsts" "[I", Cond.fieldLink RX5 80 "PairTokens$Vocabulary" "seconds" "[I", Cond.methodLink RX5 64 yX2_spell, Cond.instanceMethod yX2_spell, Cond.selects RX2 yX2_spell yX2_spell, Cond.initialized RX2, Cond.code yX2_spell cX2_spell 3 none, Cond.fieldLink RX2 26 "PairTokens$Text" "length" "I", Cond.fieldLink RX2 18 "PairTokens$Row" "length" "I", Cond.fieldLink RX2 9 "PairTokens$Row" "cells" "[I", Cond.fieldLink RX2 29 "PairTokens$Text" "octets" "[I", Cond.fieldLink RX2 15 "PairTokens$Row" "starts" "[I", Cond.fieldLink RX2 22 "PairTokens$Row" "wordBegins" "[Z", Cond.methodLink RX2 32 yX3_beginsWord, Cond.instanceMethod yX3_beginsWord, Cond.selects RX3 yX3_beginsWord yX3_beginsWord, Cond.initialized RX3, Cond.code yX3_beginsWord cX3_beginsWord 2 (some .boolean), Cond.fieldLink RX3 15 "PairTokens$Text" "length" "I", Cond.fieldLink RX3 9 "PairTokens$Text" "octets" "[I"]
def wsX5_tellText_r2 : List Cond := [Cond.methodLink RX5 153 yX2_merge, Cond.instanceMethod yX2_merge, Cond.selects RX2 yX2_merge yX2_merge, Cond.code yX2_merge cX2_merge 7 none, Cond.methodLink RX2 36 yX2_hasNext, Cond.instanceMethod yX2_hasNext, Cond.selects RX2 yX2_hasNext yX2_hasNext, Cond.code yX2_hasNext cX2_hasNext 2 (some .boolean)]
def wsX5_tellText : List Cond := .code yX5_tellText cX5_tellText 2 none :: ((wsX5_tellText_r1 ++ wsX5_tellText_r2) ++ wsX50 ++ wsX40 ++ wsX30 ++ wsX20)
def wsX5_tokens_r1 : List Cond := [Cond.fieldLink RX5 26 "PairTokens" "row" "LPairTokens$Row;", Cond.fieldLink RX5 107 "PairTokens$Row" "length" "I", Cond.methodLink RX5 104 yX5_tellText, Cond.instanceMethod yX5_tellText, Cond.selects RX5 yX5_tellText yX5_tellText, Cond.initialized RX5, Cond.code yX5_tellText cX5_tellText 2 none, Cond.fieldLink RX5 10 "PairTokens" "text" "LPairTokens$Text;", Cond.fieldLink RX5 19 "PairTokens" "vocabulary" "LPairTokens$Vocabulary;", Cond.fieldLink RX5 71 "PairTokens$Vocabulary" "learned" "I", Cond.fieldLink RX5 77 "PairTokens$Vocabulary" "firsts" "[I", Cond.fieldLink RX5 80 "PairTokens$Vocabulary" "seconds" "[I", Cond.methodLink RX5 64 yX2_spell, Cond.instanceMethod yX2_spell, Cond.selects RX2 yX2_spell yX2_spell, Cond.initialized RX2, Cond.code yX2_spell cX2_spell 3 none, Cond.fieldLink RX2 26 "PairTokens$Text" "length" "I", Cond.fieldLink RX2 18 "PairTokens$Row" "length" "I", Cond.fieldLink RX2 9 "PairTokens$Row" "cells" "[I", Cond.fieldLink RX2 29 "PairTokens$Text" "octets" "[I", Cond.fieldLink RX2 15 "PairTokens$Row" "starts" "[I", Cond.fieldLink RX2 22 "PairTokens$Row" "wordBegins" "[Z", Cond.methodLink RX2 32 yX3_beginsWord]
def wsX5_tokens_r2 : List Cond := [Cond.instanceMethod yX3_beginsWord, Cond.selects RX3 yX3_beginsWord yX3_beginsWord, Cond.initialized RX3, Cond.code yX3_beginsWord cX3_beginsWord 2 (some .boolean), Cond.fieldLink RX3 15 "PairTokens$Text" "length" "I", Cond.fieldLink RX3 9 "PairTokens$Text" "octets" "[I", Cond.methodLink RX5 153 yX2_merge, Cond.instanceMethod yX2_merge, Cond.selects RX2 yX2_merge yX2_merge, Cond.code yX2_merge cX2_merge 7 none, Cond.methodLink RX2 36 yX2_hasNext, Cond.instanceMethod yX2_hasNext, Cond.selects RX2 yX2_hasNext yX2_hasNext, Cond.code yX2_hasNext cX2_hasNext 2 (some .boolean)]
def wsX5_tokens : List Cond := .code yX5_tokens cX5_tokens 1 (some .int) :: ((wsX5_tokens_r1 ++ wsX5_tokens_r2) ++ wsX50 ++ wsX20 ++ wsX40 ++ wsX30)
def wsX5_at_r1 : List Cond := [Cond.fieldLink RX5 26 "PairTokens" "row" "LPairTokens$Row;", Cond.fieldLink RX5 107 "PairTokens$Row" "length" "I", Cond.fieldLink RX5 108 "PairTokens$Row" "cells" "[I", Cond.methodLink RX5 104 yX5_tellText, Cond.instanceMethod yX5_tellText, Cond.selects RX5 yX5_tellText yX5_tellText, Cond.initialized RX5, Cond.code yX5_tellText cX5_tellText 2 none, Cond.fieldLink RX5 10 "PairTokens" "text" "LPairTokens$Text;", Cond.fieldLink RX5 19 "PairTokens" "vocabulary" "LPairTokens$Vocabulary;", Cond.fieldLink RX5 71 "PairTokens$Vocabulary" "learned" "I", Cond.fieldLink RX5 77 "PairTokens$Vocabulary" "firsts" "[I", Cond.fieldLink RX5 80 "PairTokens$Vocabulary" "seconds" "[I", Cond.methodLink RX5 64 yX2_spell, Cond.instanceMethod yX2_spell, Cond.selects RX2 yX2_spell yX2_spell, Cond.initialized RX2, Cond.code yX2_spell cX2_spell 3 none, Cond.fieldLink RX2 26 "PairTokens$Text" "length" "I", Cond.fieldLink RX2 18 "PairTokens$Row" "length" "I", Cond.fieldLink RX2 9 "PairTokens$Row" "cells" "[I", Cond.fieldLink RX2 29 "PairTokens$Text" "octets" "[I", Cond.fieldLink RX2 15 "PairTokens$Row" "starts" "[I", Cond.fieldLink RX2 22 "PairTokens$Row" "wordBegins" "[Z"]
def wsX5_at_r2 : List Cond := [Cond.methodLink RX2 32 yX3_beginsWord, Cond.instanceMethod yX3_beginsWord, Cond.selects RX3 yX3_beginsWord yX3_beginsWord, Cond.initialized RX3, Cond.code yX3_beginsWord cX3_beginsWord 2 (some .boolean), Cond.fieldLink RX3 15 "PairTokens$Text" "length" "I", Cond.fieldLink RX3 9 "PairTokens$Text" "octets" "[I", Cond.methodLink RX5 153 yX2_merge, Cond.instanceMethod yX2_merge, Cond.selects RX2 yX2_merge yX2_merge, Cond.code yX2_merge cX2_merge 7 none, Cond.methodLink RX2 36 yX2_hasNext, Cond.instanceMethod yX2_hasNext, Cond.selects RX2 yX2_hasNext yX2_hasNext, Cond.code yX2_hasNext cX2_hasNext 2 (some .boolean)]
def wsX5_at : List Cond := .code yX5_at cX5_at 2 (some .int) :: ((wsX5_at_r1 ++ wsX5_at_r2) ++ wsX50 ++ wsX20 ++ wsX40 ++ wsX30)
def wsX5_from_r1 : List Cond := [Cond.fieldLink RX5 26 "PairTokens" "row" "LPairTokens$Row;", Cond.fieldLink RX5 107 "PairTokens$Row" "length" "I", Cond.fieldLink RX5 111 "PairTokens$Row" "starts" "[I", Cond.methodLink RX5 104 yX5_tellText, Cond.instanceMethod yX5_tellText, Cond.selects RX5 yX5_tellText yX5_tellText, Cond.initialized RX5, Cond.code yX5_tellText cX5_tellText 2 none, Cond.fieldLink RX5 10 "PairTokens" "text" "LPairTokens$Text;", Cond.fieldLink RX5 19 "PairTokens" "vocabulary" "LPairTokens$Vocabulary;", Cond.fieldLink RX5 71 "PairTokens$Vocabulary" "learned" "I", Cond.fieldLink RX5 77 "PairTokens$Vocabulary" "firsts" "[I", Cond.fieldLink RX5 80 "PairTokens$Vocabulary" "seconds" "[I", Cond.methodLink RX5 64 yX2_spell, Cond.instanceMethod yX2_spell, Cond.selects RX2 yX2_spell yX2_spell, Cond.initialized RX2, Cond.code yX2_spell cX2_spell 3 none, Cond.fieldLink RX2 26 "PairTokens$Text" "length" "I", Cond.fieldLink RX2 18 "PairTokens$Row" "length" "I", Cond.fieldLink RX2 9 "PairTokens$Row" "cells" "[I", Cond.fieldLink RX2 29 "PairTokens$Text" "octets" "[I", Cond.fieldLink RX2 15 "PairTokens$Row" "starts" "[I", Cond.fieldLink RX2 22 "PairTokens$Row" "wordBegins" "[Z"]
def wsX5_from_r2 : List Cond := [Cond.methodLink RX2 32 yX3_beginsWord, Cond.instanceMethod yX3_beginsWord, Cond.selects RX3 yX3_beginsWord yX3_beginsWord, Cond.initialized RX3, Cond.code yX3_beginsWord cX3_beginsWord 2 (some .boolean), Cond.fieldLink RX3 15 "PairTokens$Text" "length" "I", Cond.fieldLink RX3 9 "PairTokens$Text" "octets" "[I", Cond.methodLink RX5 153 yX2_merge, Cond.instanceMethod yX2_merge, Cond.selects RX2 yX2_merge yX2_merge, Cond.code yX2_merge cX2_merge 7 none, Cond.methodLink RX2 36 yX2_hasNext, Cond.instanceMethod yX2_hasNext, Cond.selects RX2 yX2_hasNext yX2_hasNext, Cond.code yX2_hasNext cX2_hasNext 2 (some .boolean)]
def wsX5_from : List Cond := .code yX5_from cX5_from 2 (some .int) :: ((wsX5_from_r1 ++ wsX5_from_r2) ++ wsX50 ++ wsX20 ++ wsX40 ++ wsX30)
def wsX5_points : List Cond := .code yX5_points cX5_points 3 (some .int) :: ([.fieldLink RX5 19 "PairTokens" "vocabulary" "LPairTokens$Vocabulary;", .fieldLink RX5 114 "PairTokens$Vocabulary" "worth" "[I", .methodLink RX5 86 yX4_isToken, .instanceMethod yX4_isToken, .selects RX4 yX4_isToken yX4_isToken, .initialized RX4, .code yX4_isToken cX4_isToken 2 (some .boolean), .fieldLink RX4 27 "PairTokens$Vocabulary" "learned" "I"] ++ wsX50 ++ wsX40)
def wsX5_best_r1 : List Cond := [Cond.fieldLink RX5 40 "PairTokens" "choices" "LPairTokens$Choices;", Cond.fieldLink RX5 10 "PairTokens" "text" "LPairTokens$Text;", Cond.fieldLink RX5 19 "PairTokens" "vocabulary" "LPairTokens$Vocabulary;", Cond.fieldLink RX5 121 "PairTokens$Choices" "lengths" "[I", Cond.methodLink RX5 117 yX0_weigh, Cond.instanceMethod yX0_weigh, Cond.selects RX0 yX0_weigh yX0_weigh, Cond.initialized RX0, Cond.code yX0_weigh cX0_weigh 6 none, Cond.fieldLink RX0 24 "PairTokens$Text" "length" "I", Cond.fieldLink RX0 9 "PairTokens$Choices" "sums" "[I", Cond.fieldLink RX0 15 "PairTokens$Choices" "lengths" "[I", Cond.fieldLink RX0 18 "PairTokens$Choices" "manners" "[I", Cond.fieldLink RX0 30 "PairTokens$Text" "octets" "[I", Cond.fieldLink RX0 37 "PairTokens$Vocabulary" "learned" "I", Cond.methodLink RX0 33 yX0_startWithByte, Cond.instanceMethod yX0_startWithByte, Cond.selects RX0 yX0_startWithByte yX0_startWithByte, Cond.code yX0_startWithByte cX0_startWithByte 4 none, Cond.fieldLink RX0 53 "PairTokens$Vocabulary" "worth" "[I", Cond.fieldLink RX0 21 "PairTokens$Choices" "chosen" "[I", Cond.methodLink RX0 42 yX4_standsAt, Cond.instanceMethod yX4_standsAt, Cond.selects RX4 yX4_standsAt yX4_standsAt]
def wsX5_best_r2 : List Cond := [Cond.initialized RX4, Cond.code yX4_standsAt cX4_standsAt 6 (some .boolean), Cond.fieldLink RX4 62 "PairTokens$Text" "length" "I", Cond.fieldLink RX4 43 "PairTokens$Text" "octets" "[I", Cond.methodLink RX4 54 yX4_sizeOf, Cond.instanceMethod yX4_sizeOf, Cond.selects RX4 yX4_sizeOf yX4_sizeOf, Cond.code yX4_sizeOf cX4_sizeOf 2 (some .int), Cond.fieldLink RX4 21 "PairTokens$Vocabulary" "sizes" "[I", Cond.methodLink RX4 58 yX4_isLearned, Cond.instanceMethod yX4_isLearned, Cond.selects RX4 yX4_isLearned yX4_isLearned, Cond.code yX4_isLearned cX4_isLearned 2 (some .boolean), Cond.fieldLink RX4 27 "PairTokens$Vocabulary" "learned" "I", Cond.methodLink RX4 65 yX4_byteOf, Cond.instanceMethod yX4_byteOf, Cond.selects RX4 yX4_byteOf yX4_byteOf, Cond.code yX4_byteOf cX4_byteOf 4 (some .int), Cond.fieldLink RX4 34 "PairTokens$Vocabulary" "places" "[I", Cond.fieldLink RX4 31 "PairTokens$Vocabulary" "source" "[I", Cond.methodLink RX0 46 yX0_startWithLearned, Cond.instanceMethod yX0_startWithLearned, Cond.selects RX0 yX0_startWithLearned yX0_startWithLearned, Cond.code yX0_startWithLearned cX0_startWithLearned 7 none]
def wsX5_best_r3 : List Cond := [Cond.constant RX0 56 (1000000), Cond.methodLink RX0 57 Lib.Math.min.name, Cond.static Lib.Math.min.name, Cond.initialized "java/lang/Math", Cond.code Lib.Math.min.name Lib.Math.min.code 2 (some .int), Cond.methodLink RX0 49 yX4_sizeOf]
def wsX5_best : List Cond := .code yX5_best cX5_best 1 (some .int) :: ((wsX5_best_r1 ++ (wsX5_best_r2 ++ wsX5_best_r3)) ++ wsX50 ++ wsX00 ++ wsX30 ++ wsX40)
def wsX5_bestAt_r1 : List Cond := [Cond.fieldLink RX5 40 "PairTokens" "choices" "LPairTokens$Choices;", Cond.fieldLink RX5 10 "PairTokens" "text" "LPairTokens$Text;", Cond.fieldLink RX5 19 "PairTokens" "vocabulary" "LPairTokens$Vocabulary;", Cond.fieldLink RX5 121 "PairTokens$Choices" "lengths" "[I", Cond.methodLink RX5 117 yX0_weigh, Cond.instanceMethod yX0_weigh, Cond.selects RX0 yX0_weigh yX0_weigh, Cond.initialized RX0, Cond.code yX0_weigh cX0_weigh 6 none, Cond.fieldLink RX0 24 "PairTokens$Text" "length" "I", Cond.fieldLink RX0 9 "PairTokens$Choices" "sums" "[I", Cond.fieldLink RX0 15 "PairTokens$Choices" "lengths" "[I", Cond.fieldLink RX0 18 "PairTokens$Choices" "manners" "[I", Cond.fieldLink RX0 30 "PairTokens$Text" "octets" "[I", Cond.fieldLink RX0 37 "PairTokens$Vocabulary" "learned" "I", Cond.methodLink RX0 33 yX0_startWithByte, Cond.instanceMethod yX0_startWithByte, Cond.selects RX0 yX0_startWithByte yX0_startWithByte, Cond.code yX0_startWithByte cX0_startWithByte 4 none, Cond.fieldLink RX0 53 "PairTokens$Vocabulary" "worth" "[I", Cond.fieldLink RX0 21 "PairTokens$Choices" "chosen" "[I", Cond.methodLink RX0 42 yX4_standsAt, Cond.instanceMethod yX4_standsAt, Cond.selects RX4 yX4_standsAt yX4_standsAt]
def wsX5_bestAt_r2 : List Cond := [Cond.initialized RX4, Cond.code yX4_standsAt cX4_standsAt 6 (some .boolean), Cond.fieldLink RX4 62 "PairTokens$Text" "length" "I", Cond.fieldLink RX4 43 "PairTokens$Text" "octets" "[I", Cond.methodLink RX4 54 yX4_sizeOf, Cond.instanceMethod yX4_sizeOf, Cond.selects RX4 yX4_sizeOf yX4_sizeOf, Cond.code yX4_sizeOf cX4_sizeOf 2 (some .int), Cond.fieldLink RX4 21 "PairTokens$Vocabulary" "sizes" "[I", Cond.methodLink RX4 58 yX4_isLearned, Cond.instanceMethod yX4_isLearned, Cond.selects RX4 yX4_isLearned yX4_isLearned, Cond.code yX4_isLearned cX4_isLearned 2 (some .boolean), Cond.fieldLink RX4 27 "PairTokens$Vocabulary" "learned" "I", Cond.methodLink RX4 65 yX4_byteOf, Cond.instanceMethod yX4_byteOf, Cond.selects RX4 yX4_byteOf yX4_byteOf, Cond.code yX4_byteOf cX4_byteOf 4 (some .int), Cond.fieldLink RX4 34 "PairTokens$Vocabulary" "places" "[I", Cond.fieldLink RX4 31 "PairTokens$Vocabulary" "source" "[I", Cond.methodLink RX0 46 yX0_startWithLearned, Cond.instanceMethod yX0_startWithLearned, Cond.selects RX0 yX0_startWithLearned yX0_startWithLearned, Cond.code yX0_startWithLearned cX0_startWithLearned 7 none]
def wsX5_bestAt_r3 : List Cond := [Cond.constant RX0 56 (1000000), Cond.methodLink RX0 57 Lib.Math.min.name, Cond.static Lib.Math.min.name, Cond.initialized "java/lang/Math", Cond.code Lib.Math.min.name Lib.Math.min.code 2 (some .int), Cond.methodLink RX0 49 yX4_sizeOf, Cond.methodLink RX5 124 yX0_chosenAfter, Cond.instanceMethod yX0_chosenAfter, Cond.selects RX0 yX0_chosenAfter yX0_chosenAfter, Cond.code yX0_chosenAfter cX0_chosenAfter 5 (some .int)]
def wsX5_bestAt : List Cond := .code yX5_bestAt cX5_bestAt 2 (some .int) :: ((wsX5_bestAt_r1 ++ (wsX5_bestAt_r2 ++ wsX5_bestAt_r3)) ++ wsX50 ++ wsX00 ++ wsX30 ++ wsX40)
def wsX5_sum_r1 : List Cond := [Cond.fieldLink RX5 40 "PairTokens" "choices" "LPairTokens$Choices;", Cond.fieldLink RX5 10 "PairTokens" "text" "LPairTokens$Text;", Cond.fieldLink RX5 19 "PairTokens" "vocabulary" "LPairTokens$Vocabulary;", Cond.fieldLink RX5 128 "PairTokens$Choices" "sums" "[I", Cond.methodLink RX5 117 yX0_weigh, Cond.instanceMethod yX0_weigh, Cond.selects RX0 yX0_weigh yX0_weigh, Cond.initialized RX0, Cond.code yX0_weigh cX0_weigh 6 none, Cond.fieldLink RX0 24 "PairTokens$Text" "length" "I", Cond.fieldLink RX0 9 "PairTokens$Choices" "sums" "[I", Cond.fieldLink RX0 15 "PairTokens$Choices" "lengths" "[I", Cond.fieldLink RX0 18 "PairTokens$Choices" "manners" "[I", Cond.fieldLink RX0 30 "PairTokens$Text" "octets" "[I", Cond.fieldLink RX0 37 "PairTokens$Vocabulary" "learned" "I", Cond.methodLink RX0 33 yX0_startWithByte, Cond.instanceMethod yX0_startWithByte, Cond.selects RX0 yX0_startWithByte yX0_startWithByte, Cond.code yX0_startWithByte cX0_startWithByte 4 none, Cond.fieldLink RX0 53 "PairTokens$Vocabulary" "worth" "[I", Cond.fieldLink RX0 21 "PairTokens$Choices" "chosen" "[I", Cond.methodLink RX0 42 yX4_standsAt, Cond.instanceMethod yX4_standsAt, Cond.selects RX4 yX4_standsAt yX4_standsAt]
def wsX5_sum_r2 : List Cond := [Cond.initialized RX4, Cond.code yX4_standsAt cX4_standsAt 6 (some .boolean), Cond.fieldLink RX4 62 "PairTokens$Text" "length" "I", Cond.fieldLink RX4 43 "PairTokens$Text" "octets" "[I", Cond.methodLink RX4 54 yX4_sizeOf, Cond.instanceMethod yX4_sizeOf, Cond.selects RX4 yX4_sizeOf yX4_sizeOf, Cond.code yX4_sizeOf cX4_sizeOf 2 (some .int), Cond.fieldLink RX4 21 "PairTokens$Vocabulary" "sizes" "[I", Cond.methodLink RX4 58 yX4_isLearned, Cond.instanceMethod yX4_isLearned, Cond.selects RX4 yX4_isLearned yX4_isLearned, Cond.code yX4_isLearned cX4_isLearned 2 (some .boolean), Cond.fieldLink RX4 27 "PairTokens$Vocabulary" "learned" "I", Cond.methodLink RX4 65 yX4_byteOf, Cond.instanceMethod yX4_byteOf, Cond.selects RX4 yX4_byteOf yX4_byteOf, Cond.code yX4_byteOf cX4_byteOf 4 (some .int), Cond.fieldLink RX4 34 "PairTokens$Vocabulary" "places" "[I", Cond.fieldLink RX4 31 "PairTokens$Vocabulary" "source" "[I", Cond.methodLink RX0 46 yX0_startWithLearned, Cond.instanceMethod yX0_startWithLearned, Cond.selects RX0 yX0_startWithLearned yX0_startWithLearned, Cond.code yX0_startWithLearned cX0_startWithLearned 7 none]
def wsX5_sum_r3 : List Cond := [Cond.constant RX0 56 (1000000), Cond.methodLink RX0 57 Lib.Math.min.name, Cond.static Lib.Math.min.name, Cond.initialized "java/lang/Math", Cond.code Lib.Math.min.name Lib.Math.min.code 2 (some .int), Cond.methodLink RX0 49 yX4_sizeOf]
def wsX5_sum : List Cond := .code yX5_sum cX5_sum 1 (some .int) :: ((wsX5_sum_r1 ++ (wsX5_sum_r2 ++ wsX5_sum_r3)) ++ wsX50 ++ wsX00 ++ wsX30 ++ wsX40)
def wsX5_ways_r1 : List Cond := [Cond.fieldLink RX5 40 "PairTokens" "choices" "LPairTokens$Choices;", Cond.fieldLink RX5 10 "PairTokens" "text" "LPairTokens$Text;", Cond.fieldLink RX5 19 "PairTokens" "vocabulary" "LPairTokens$Vocabulary;", Cond.fieldLink RX5 131 "PairTokens$Choices" "manners" "[I", Cond.methodLink RX5 117 yX0_weigh, Cond.instanceMethod yX0_weigh, Cond.selects RX0 yX0_weigh yX0_weigh, Cond.initialized RX0, Cond.code yX0_weigh cX0_weigh 6 none, Cond.fieldLink RX0 24 "PairTokens$Text" "length" "I", Cond.fieldLink RX0 9 "PairTokens$Choices" "sums" "[I", Cond.fieldLink RX0 15 "PairTokens$Choices" "lengths" "[I", Cond.fieldLink RX0 18 "PairTokens$Choices" "manners" "[I", Cond.fieldLink RX0 30 "PairTokens$Text" "octets" "[I", Cond.fieldLink RX0 37 "PairTokens$Vocabulary" "learned" "I", Cond.methodLink RX0 33 yX0_startWithByte, Cond.instanceMethod yX0_startWithByte, Cond.selects RX0 yX0_startWithByte yX0_startWithByte, Cond.code yX0_startWithByte cX0_startWithByte 4 none, Cond.fieldLink RX0 53 "PairTokens$Vocabulary" "worth" "[I", Cond.fieldLink RX0 21 "PairTokens$Choices" "chosen" "[I", Cond.methodLink RX0 42 yX4_standsAt, Cond.instanceMethod yX4_standsAt, Cond.selects RX4 yX4_standsAt yX4_standsAt]
def wsX5_ways_r2 : List Cond := [Cond.initialized RX4, Cond.code yX4_standsAt cX4_standsAt 6 (some .boolean), Cond.fieldLink RX4 62 "PairTokens$Text" "length" "I", Cond.fieldLink RX4 43 "PairTokens$Text" "octets" "[I", Cond.methodLink RX4 54 yX4_sizeOf, Cond.instanceMethod yX4_sizeOf, Cond.selects RX4 yX4_sizeOf yX4_sizeOf, Cond.code yX4_sizeOf cX4_sizeOf 2 (some .int), Cond.fieldLink RX4 21 "PairTokens$Vocabulary" "sizes" "[I", Cond.methodLink RX4 58 yX4_isLearned, Cond.instanceMethod yX4_isLearned, Cond.selects RX4 yX4_isLearned yX4_isLearned, Cond.code yX4_isLearned cX4_isLearned 2 (some .boolean), Cond.fieldLink RX4 27 "PairTokens$Vocabulary" "learned" "I", Cond.methodLink RX4 65 yX4_byteOf, Cond.instanceMethod yX4_byteOf, Cond.selects RX4 yX4_byteOf yX4_byteOf, Cond.code yX4_byteOf cX4_byteOf 4 (some .int), Cond.fieldLink RX4 34 "PairTokens$Vocabulary" "places" "[I", Cond.fieldLink RX4 31 "PairTokens$Vocabulary" "source" "[I", Cond.methodLink RX0 46 yX0_startWithLearned, Cond.instanceMethod yX0_startWithLearned, Cond.selects RX0 yX0_startWithLearned yX0_startWithLearned, Cond.code yX0_startWithLearned cX0_startWithLearned 7 none]
def wsX5_ways_r3 : List Cond := [Cond.constant RX0 56 (1000000), Cond.methodLink RX0 57 Lib.Math.min.name, Cond.static Lib.Math.min.name, Cond.initialized "java/lang/Math", Cond.code Lib.Math.min.name Lib.Math.min.code 2 (some .int), Cond.methodLink RX0 49 yX4_sizeOf]
def wsX5_ways : List Cond := .code yX5_ways cX5_ways 1 (some .int) :: ((wsX5_ways_r1 ++ (wsX5_ways_r2 ++ wsX5_ways_r3)) ++ wsX50 ++ wsX00 ++ wsX30 ++ wsX40)
def wsX6_init : List Cond := .code yX6_init cX6_init 2 none :: ([.methodLink RX6 1 objectInit, .instanceMethod objectInit, .code objectInit ⟨#[0xb1]⟩ 1 none, .arrayClass .int, .fieldLink RX6 7 "PairTokensModel" "text" "[I", .fieldLink RX6 13 "PairTokensModel" "first" "[I", .fieldLink RX6 16 "PairTokensModel" "second" "[I", .fieldLink RX6 19 "PairTokensModel" "counted" "[I", .fieldLink RX6 22 "PairTokensModel" "length" "[I", .fieldLink RX6 25 "PairTokensModel" "spelled" "[I", .fieldLink RX6 28 "PairTokensModel" "points" "[I", .fieldLink RX6 31 "PairTokensModel" "row" "[I", .fieldLink RX6 34 "PairTokensModel" "places" "[I", .fieldLink RX6 37 "PairTokensModel" "bestSum" "[I", .fieldLink RX6 40 "PairTokensModel" "bestSize" "[I", .fieldLink RX6 43 "PairTokensModel" "bestRow" "[I", .fieldLink RX6 46 "PairTokensModel" "waysTo" "[I"] ++ wsX60)
def wsX6_thrown : List Cond := .code yX6_thrown cX6_thrown 1 (some .int) :: ([.fieldLink RX6 49 "PairTokensModel" "code" "I"] ++ wsX60)
def wsX6_in : List Cond := .code yX6_in cX6_in 3 (some .boolean) :: ([])
def wsX6_octet : List Cond := .code yX6_octet cX6_octet 2 (some .int) :: ([.fieldLink RX6 49 "PairTokensModel" "code" "I", .fieldLink RX6 57 "PairTokensModel" "bytes" "I", .fieldLink RX6 7 "PairTokensModel" "text" "[I", .methodLink RX6 53 yX6_in, .static yX6_in, .initialized RX6, .code yX6_in cX6_in 3 (some .boolean)] ++ wsX60)
def wsX6_cut : List Cond := .code yX6_cut cX6_cut 3 (some .int) :: ([.fieldLink RX6 49 "PairTokensModel" "code" "I", .fieldLink RX6 57 "PairTokensModel" "bytes" "I", .methodLink RX6 53 yX6_in, .static yX6_in, .initialized RX6, .code yX6_in cX6_in 3 (some .boolean)] ++ wsX60)
def wsX6_byteAt : List Cond := .code yX6_byteAt cX6_byteAt 2 (some .int) :: ([.fieldLink RX6 49 "PairTokensModel" "code" "I", .fieldLink RX6 57 "PairTokensModel" "bytes" "I", .fieldLink RX6 7 "PairTokensModel" "text" "[I", .methodLink RX6 53 yX6_in, .static yX6_in, .initialized RX6, .code yX6_in cX6_in 3 (some .boolean)] ++ wsX60)
def wsX6_beginsWord : List Cond := .code yX6_beginsWord cX6_beginsWord 2 (some .boolean) :: ([.fieldLink RX6 7 "PairTokensModel" "text" "[I"] ++ wsX60)
def wsX6_words : List Cond := .code yX6_words cX6_words 3 (some .int) :: ([.fieldLink RX6 49 "PairTokensModel" "code" "I", .fieldLink RX6 57 "PairTokensModel" "bytes" "I", .methodLink RX6 60 yX6_beginsWord, .instanceMethod yX6_beginsWord, .selects RX6 yX6_beginsWord yX6_beginsWord, .initialized RX6, .code yX6_beginsWord cX6_beginsWord 2 (some .boolean), .fieldLink RX6 7 "PairTokensModel" "text" "[I"] ++ wsX60)
def wsX6_layBytes : List Cond := .code yX6_layBytes cX6_layBytes 2 none :: ([.fieldLink RX6 57 "PairTokensModel" "bytes" "I", .fieldLink RX6 64 "PairTokensModel" "size" "I", .fieldLink RX6 31 "PairTokensModel" "row" "[I", .fieldLink RX6 7 "PairTokensModel" "text" "[I", .fieldLink RX6 34 "PairTokensModel" "places" "[I"] ++ wsX60)
def wsX6_isPair : List Cond := .code yX6_isPair cX6_isPair 4 (some .boolean) :: ([.fieldLink RX6 64 "PairTokensModel" "size" "I", .fieldLink RX6 31 "PairTokensModel" "row" "[I", .fieldLink RX6 34 "PairTokensModel" "places" "[I", .methodLink RX6 60 yX6_beginsWord, .instanceMethod yX6_beginsWord, .selects RX6 yX6_beginsWord yX6_beginsWord, .initialized RX6, .code yX6_beginsWord cX6_beginsWord 2 (some .boolean), .fieldLink RX6 7 "PairTokensModel" "text" "[I"] ++ wsX60)
def wsX6_join : List Cond := .code yX6_join cX6_join 8 none :: ([.fieldLink RX6 64 "PairTokensModel" "size" "I", .fieldLink RX6 34 "PairTokensModel" "places" "[I", .fieldLink RX6 31 "PairTokensModel" "row" "[I", .methodLink RX6 67 yX6_isPair, .instanceMethod yX6_isPair, .selects RX6 yX6_isPair yX6_isPair, .initialized RX6, .code yX6_isPair cX6_isPair 4 (some .boolean), .methodLink RX6 60 yX6_beginsWord, .instanceMethod yX6_beginsWord, .selects RX6 yX6_beginsWord yX6_beginsWord, .code yX6_beginsWord cX6_beginsWord 2 (some .boolean), .fieldLink RX6 7 "PairTokensModel" "text" "[I"] ++ wsX60)
def wsX6_sizeOf : List Cond := .code yX6_sizeOf cX6_sizeOf 2 (some .int) :: ([.fieldLink RX6 22 "PairTokensModel" "length" "[I"] ++ wsX60)
def wsX6_byteOf : List Cond := .code yX6_byteOf cX6_byteOf 3 (some .int) :: ([.fieldLink RX6 25 "PairTokensModel" "spelled" "[I"] ++ wsX60)
def wsX6_keep : List Cond := .code yX6_keep cX6_keep 7 none :: ([.fieldLink RX6 70 "PairTokensModel" "learned" "I", .fieldLink RX6 13 "PairTokensModel" "first" "[I", .fieldLink RX6 16 "PairTokensModel" "second" "[I", .fieldLink RX6 19 "PairTokensModel" "counted" "[I", .fieldLink RX6 22 "PairTokensModel" "length" "[I", .fieldLink RX6 25 "PairTokensModel" "spelled" "[I", .fieldLink RX6 28 "PairTokensModel" "points" "[I", .methodLink RX6 73 yX6_sizeOf, .instanceMethod yX6_sizeOf, .selects RX6 yX6_sizeOf yX6_sizeOf, .initialized RX6, .code yX6_sizeOf cX6_sizeOf 2 (some .int), .methodLink RX6 77 yX6_byteOf, .instanceMethod yX6_byteOf, .selects RX6 yX6_byteOf yX6_byteOf, .code yX6_byteOf cX6_byteOf 3 (some .int)] ++ wsX60)
def wsX6_countOf : List Cond := .code yX6_countOf cX6_countOf 5 (some .int) :: ([.fieldLink RX6 64 "PairTokensModel" "size" "I", .methodLink RX6 67 yX6_isPair, .instanceMethod yX6_isPair, .selects RX6 yX6_isPair yX6_isPair, .initialized RX6, .code yX6_isPair cX6_isPair 4 (some .boolean), .fieldLink RX6 31 "PairTokensModel" "row" "[I", .fieldLink RX6 34 "PairTokensModel" "places" "[I", .methodLink RX6 60 yX6_beginsWord, .instanceMethod yX6_beginsWord, .selects RX6 yX6_beginsWord yX6_beginsWord, .code yX6_beginsWord cX6_beginsWord 2 (some .boolean), .fieldLink RX6 7 "PairTokensModel" "text" "[I"] ++ wsX60)
def wsX6_learn_r1 : List Cond := [Cond.fieldLink RX6 49 "PairTokensModel" "code" "I", Cond.fieldLink RX6 70 "PairTokensModel" "learned" "I", Cond.fieldLink RX6 64 "PairTokensModel" "size" "I", Cond.fieldLink RX6 31 "PairTokensModel" "row" "[I", Cond.methodLink RX6 53 yX6_in, Cond.static yX6_in, Cond.initialized RX6, Cond.code yX6_in cX6_in 3 (some .boolean), Cond.methodLink RX6 81 yX6_layBytes, Cond.instanceMethod yX6_layBytes, Cond.selects RX6 yX6_layBytes yX6_layBytes, Cond.code yX6_layBytes cX6_layBytes 2 none, Cond.fieldLink RX6 57 "PairTokensModel" "bytes" "I", Cond.fieldLink RX6 7 "PairTokensModel" "text" "[I", Cond.fieldLink RX6 34 "PairTokensModel" "places" "[I", Cond.methodLink RX6 67 yX6_isPair, Cond.instanceMethod yX6_isPair, Cond.selects RX6 yX6_isPair yX6_isPair, Cond.code yX6_isPair cX6_isPair 4 (some .boolean), Cond.methodLink RX6 60 yX6_beginsWord, Cond.instanceMethod yX6_beginsWord, Cond.selects RX6 yX6_beginsWord yX6_beginsWord, Cond.code yX6_beginsWord cX6_beginsWord 2 (some .boolean), Cond.methodLink RX6 84 yX6_countOf]
def wsX6_learn_r2 : List Cond := [Cond.instanceMethod yX6_countOf, Cond.selects RX6 yX6_countOf yX6_countOf, Cond.code yX6_countOf cX6_countOf 5 (some .int), Cond.methodLink RX6 87 yX6_keep, Cond.instanceMethod yX6_keep, Cond.selects RX6 yX6_keep yX6_keep, Cond.code yX6_keep cX6_keep 7 none, Cond.fieldLink RX6 13 "PairTokensModel" "first" "[I", Cond.fieldLink RX6 16 "PairTokensModel" "second" "[I", Cond.fieldLink RX6 19 "PairTokensModel" "counted" "[I", Cond.fieldLink RX6 22 "PairTokensModel" "length" "[I", Cond.fieldLink RX6 25 "PairTokensModel" "spelled" "[I", Cond.fieldLink RX6 28 "PairTokensModel" "points" "[I", Cond.methodLink RX6 73 yX6_sizeOf, Cond.instanceMethod yX6_sizeOf, Cond.selects RX6 yX6_sizeOf yX6_sizeOf, Cond.code yX6_sizeOf cX6_sizeOf 2 (some .int), Cond.methodLink RX6 77 yX6_byteOf, Cond.instanceMethod yX6_byteOf, Cond.selects RX6 yX6_byteOf yX6_byteOf, Cond.code yX6_byteOf cX6_byteOf 3 (some .int), Cond.methodLink RX6 91 yX6_join, Cond.instanceMethod yX6_join, Cond.selects RX6 yX6_join yX6_join]
def wsX6_learn_r3 : List Cond := [Cond.code yX6_join cX6_join 8 none]
def wsX6_learn : List Cond := .code yX6_learn cX6_learn 8 (some .int) :: ((wsX6_learn_r1 ++ (wsX6_learn_r2 ++ wsX6_learn_r3)) ++ wsX60)
def wsX6_isLearned : List Cond := .code yX6_isLearned cX6_isLearned 2 (some .boolean) :: ([.fieldLink RX6 70 "PairTokensModel" "learned" "I", .methodLink RX6 53 yX6_in, .static yX6_in, .initialized RX6, .code yX6_in cX6_in 3 (some .boolean)] ++ wsX60)
def wsX6_isToken : List Cond := .code yX6_isToken cX6_isToken 2 (some .boolean) :: ([.fieldLink RX6 70 "PairTokensModel" "learned" "I", .methodLink RX6 53 yX6_in, .static yX6_in, .initialized RX6, .code yX6_in cX6_in 3 (some .boolean)] ++ wsX60)
def wsX6_pair : List Cond := .code yX6_pair cX6_pair 3 (some .int) :: ([.fieldLink RX6 49 "PairTokensModel" "code" "I", .fieldLink RX6 13 "PairTokensModel" "first" "[I", .fieldLink RX6 16 "PairTokensModel" "second" "[I", .methodLink RX6 94 yX6_isLearned, .instanceMethod yX6_isLearned, .selects RX6 yX6_isLearned yX6_isLearned, .initialized RX6, .code yX6_isLearned cX6_isLearned 2 (some .boolean), .fieldLink RX6 70 "PairTokensModel" "learned" "I", .methodLink RX6 53 yX6_in, .static yX6_in, .code yX6_in cX6_in 3 (some .boolean)] ++ wsX60)
def wsX6_count : List Cond := .code yX6_count cX6_count 2 (some .int) :: ([.fieldLink RX6 49 "PairTokensModel" "code" "I", .fieldLink RX6 19 "PairTokensModel" "counted" "[I", .methodLink RX6 94 yX6_isLearned, .instanceMethod yX6_isLearned, .selects RX6 yX6_isLearned yX6_isLearned, .initialized RX6, .code yX6_isLearned cX6_isLearned 2 (some .boolean), .fieldLink RX6 70 "PairTokensModel" "learned" "I", .methodLink RX6 53 yX6_in, .static yX6_in, .code yX6_in cX6_in 3 (some .boolean)] ++ wsX60)
def wsX6_size : List Cond := .code yX6_size cX6_size 2 (some .int) :: ([.fieldLink RX6 49 "PairTokensModel" "code" "I", .methodLink RX6 97 yX6_isToken, .instanceMethod yX6_isToken, .selects RX6 yX6_isToken yX6_isToken, .initialized RX6, .code yX6_isToken cX6_isToken 2 (some .boolean), .fieldLink RX6 70 "PairTokensModel" "learned" "I", .methodLink RX6 53 yX6_in, .static yX6_in, .code yX6_in cX6_in 3 (some .boolean), .methodLink RX6 73 yX6_sizeOf, .instanceMethod yX6_sizeOf, .selects RX6 yX6_sizeOf yX6_sizeOf, .code yX6_sizeOf cX6_sizeOf 2 (some .int), .fieldLink RX6 22 "PairTokensModel" "length" "[I"] ++ wsX60)
def wsX6_decode : List Cond := .code yX6_decode cX6_decode 3 (some .int) :: ([.fieldLink RX6 49 "PairTokensModel" "code" "I", .methodLink RX6 97 yX6_isToken, .instanceMethod yX6_isToken, .selects RX6 yX6_isToken yX6_isToken, .initialized RX6, .code yX6_isToken cX6_isToken 2 (some .boolean), .fieldLink RX6 70 "PairTokensModel" "learned" "I", .methodLink RX6 53 yX6_in, .static yX6_in, .code yX6_in cX6_in 3 (some .boolean), .methodLink RX6 73 yX6_sizeOf, .instanceMethod yX6_sizeOf, .selects RX6 yX6_sizeOf yX6_sizeOf, .code yX6_sizeOf cX6_sizeOf 2 (some .int), .fieldLink RX6 22 "PairTokensModel" "length" "[I", .methodLink RX6 77 yX6_byteOf, .instanceMethod yX6_byteOf, .selects RX6 yX6_byteOf yX6_byteOf, .code yX6_byteOf cX6_byteOf 3 (some .int), .fieldLink RX6 25 "PairTokensModel" "spelled" "[I"] ++ wsX60)
def wsX6_tell_r1 : List Cond := [Cond.fieldLink RX6 70 "PairTokensModel" "learned" "I", Cond.fieldLink RX6 13 "PairTokensModel" "first" "[I", Cond.fieldLink RX6 16 "PairTokensModel" "second" "[I", Cond.methodLink RX6 81 yX6_layBytes, Cond.instanceMethod yX6_layBytes, Cond.selects RX6 yX6_layBytes yX6_layBytes, Cond.initialized RX6, Cond.code yX6_layBytes cX6_layBytes 2 none, Cond.fieldLink RX6 57 "PairTokensModel" "bytes" "I", Cond.fieldLink RX6 64 "PairTokensModel" "size" "I", Cond.fieldLink RX6 31 "PairTokensModel" "row" "[I", Cond.fieldLink RX6 7 "PairTokensModel" "text" "[I", Cond.fieldLink RX6 34 "PairTokensModel" "places" "[I", Cond.methodLink RX6 91 yX6_join, Cond.instanceMethod yX6_join, Cond.selects RX6 yX6_join yX6_join, Cond.code yX6_join cX6_join 8 none, Cond.methodLink RX6 67 yX6_isPair, Cond.instanceMethod yX6_isPair, Cond.selects RX6 yX6_isPair yX6_isPair, Cond.code yX6_isPair cX6_isPair 4 (some .boolean), Cond.methodLink RX6 60 yX6_beginsWord, Cond.instanceMethod yX6_beginsWord, Cond.selects RX6 yX6_beginsWord yX6_beginsWord]
def wsX6_tell_r2 : List Cond := [Cond.code yX6_beginsWord cX6_beginsWord 2 (some .boolean)]
def wsX6_tell : List Cond := .code yX6_tell cX6_tell 2 none :: ((wsX6_tell_r1 ++ wsX6_tell_r2) ++ wsX60)
def wsX6_tokens_r1 : List Cond := [Cond.fieldLink RX6 49 "PairTokensModel" "code" "I", Cond.fieldLink RX6 64 "PairTokensModel" "size" "I", Cond.methodLink RX6 100 yX6_tell, Cond.instanceMethod yX6_tell, Cond.selects RX6 yX6_tell yX6_tell, Cond.initialized RX6, Cond.code yX6_tell cX6_tell 2 none, Cond.fieldLink RX6 70 "PairTokensModel" "learned" "I", Cond.fieldLink RX6 13 "PairTokensModel" "first" "[I", Cond.fieldLink RX6 16 "PairTokensModel" "second" "[I", Cond.methodLink RX6 81 yX6_layBytes, Cond.instanceMethod yX6_layBytes, Cond.selects RX6 yX6_layBytes yX6_layBytes, Cond.code yX6_layBytes cX6_layBytes 2 none, Cond.fieldLink RX6 57 "PairTokensModel" "bytes" "I", Cond.fieldLink RX6 31 "PairTokensModel" "row" "[I", Cond.fieldLink RX6 7 "PairTokensModel" "text" "[I", Cond.fieldLink RX6 34 "PairTokensModel" "places" "[I", Cond.methodLink RX6 91 yX6_join, Cond.instanceMethod yX6_join, Cond.selects RX6 yX6_join yX6_join, Cond.code yX6_join cX6_join 8 none, Cond.methodLink RX6 67 yX6_isPair, Cond.instanceMethod yX6_isPair]
def wsX6_tokens_r2 : List Cond := [Cond.selects RX6 yX6_isPair yX6_isPair, Cond.code yX6_isPair cX6_isPair 4 (some .boolean), Cond.methodLink RX6 60 yX6_beginsWord, Cond.instanceMethod yX6_beginsWord, Cond.selects RX6 yX6_beginsWord yX6_beginsWord, Cond.code yX6_beginsWord cX6_beginsWord 2 (some .boolean)]
def wsX6_tokens : List Cond := .code yX6_tokens cX6_tokens 1 (some .int) :: ((wsX6_tokens_r1 ++ wsX6_tokens_r2) ++ wsX60)
def wsX6_at_r1 : List Cond := [Cond.fieldLink RX6 49 "PairTokensModel" "code" "I", Cond.fieldLink RX6 64 "PairTokensModel" "size" "I", Cond.fieldLink RX6 31 "PairTokensModel" "row" "[I", Cond.methodLink RX6 100 yX6_tell, Cond.instanceMethod yX6_tell, Cond.selects RX6 yX6_tell yX6_tell, Cond.initialized RX6, Cond.code yX6_tell cX6_tell 2 none, Cond.fieldLink RX6 70 "PairTokensModel" "learned" "I", Cond.fieldLink RX6 13 "PairTokensModel" "first" "[I", Cond.fieldLink RX6 16 "PairTokensModel" "second" "[I", Cond.methodLink RX6 81 yX6_layBytes, Cond.instanceMethod yX6_layBytes, Cond.selects RX6 yX6_layBytes yX6_layBytes, Cond.code yX6_layBytes cX6_layBytes 2 none, Cond.fieldLink RX6 57 "PairTokensModel" "bytes" "I", Cond.fieldLink RX6 7 "PairTokensModel" "text" "[I", Cond.fieldLink RX6 34 "PairTokensModel" "places" "[I", Cond.methodLink RX6 91 yX6_join, Cond.instanceMethod yX6_join, Cond.selects RX6 yX6_join yX6_join, Cond.code yX6_join cX6_join 8 none, Cond.methodLink RX6 67 yX6_isPair, Cond.instanceMethod yX6_isPair]
def wsX6_at_r2 : List Cond := [Cond.selects RX6 yX6_isPair yX6_isPair, Cond.code yX6_isPair cX6_isPair 4 (some .boolean), Cond.methodLink RX6 60 yX6_beginsWord, Cond.instanceMethod yX6_beginsWord, Cond.selects RX6 yX6_beginsWord yX6_beginsWord, Cond.code yX6_beginsWord cX6_beginsWord 2 (some .boolean), Cond.methodLink RX6 53 yX6_in, Cond.static yX6_in, Cond.code yX6_in cX6_in 3 (some .boolean)]
def wsX6_at : List Cond := .code yX6_at cX6_at 2 (some .int) :: ((wsX6_at_r1 ++ wsX6_at_r2) ++ wsX60)
def wsX6_from_r1 : List Cond := [Cond.fieldLink RX6 49 "PairTokensModel" "code" "I", Cond.fieldLink RX6 64 "PairTokensModel" "size" "I", Cond.fieldLink RX6 34 "PairTokensModel" "places" "[I", Cond.methodLink RX6 100 yX6_tell, Cond.instanceMethod yX6_tell, Cond.selects RX6 yX6_tell yX6_tell, Cond.initialized RX6, Cond.code yX6_tell cX6_tell 2 none, Cond.fieldLink RX6 70 "PairTokensModel" "learned" "I", Cond.fieldLink RX6 13 "PairTokensModel" "first" "[I", Cond.fieldLink RX6 16 "PairTokensModel" "second" "[I", Cond.methodLink RX6 81 yX6_layBytes, Cond.instanceMethod yX6_layBytes, Cond.selects RX6 yX6_layBytes yX6_layBytes, Cond.code yX6_layBytes cX6_layBytes 2 none, Cond.fieldLink RX6 57 "PairTokensModel" "bytes" "I", Cond.fieldLink RX6 31 "PairTokensModel" "row" "[I", Cond.fieldLink RX6 7 "PairTokensModel" "text" "[I", Cond.methodLink RX6 91 yX6_join, Cond.instanceMethod yX6_join, Cond.selects RX6 yX6_join yX6_join, Cond.code yX6_join cX6_join 8 none, Cond.methodLink RX6 67 yX6_isPair, Cond.instanceMethod yX6_isPair]
def wsX6_from_r2 : List Cond := [Cond.selects RX6 yX6_isPair yX6_isPair, Cond.code yX6_isPair cX6_isPair 4 (some .boolean), Cond.methodLink RX6 60 yX6_beginsWord, Cond.instanceMethod yX6_beginsWord, Cond.selects RX6 yX6_beginsWord yX6_beginsWord, Cond.code yX6_beginsWord cX6_beginsWord 2 (some .boolean), Cond.methodLink RX6 53 yX6_in, Cond.static yX6_in, Cond.code yX6_in cX6_in 3 (some .boolean)]
def wsX6_from : List Cond := .code yX6_from cX6_from 2 (some .int) :: ((wsX6_from_r1 ++ wsX6_from_r2) ++ wsX60)
def wsX6_points : List Cond := .code yX6_points cX6_points 3 (some .int) :: ([.fieldLink RX6 49 "PairTokensModel" "code" "I", .fieldLink RX6 28 "PairTokensModel" "points" "[I", .methodLink RX6 97 yX6_isToken, .instanceMethod yX6_isToken, .selects RX6 yX6_isToken yX6_isToken, .initialized RX6, .code yX6_isToken cX6_isToken 2 (some .boolean), .fieldLink RX6 70 "PairTokensModel" "learned" "I", .methodLink RX6 53 yX6_in, .static yX6_in, .code yX6_in cX6_in 3 (some .boolean)] ++ wsX60)
def wsX6_fits : List Cond := .code yX6_fits cX6_fits 5 (some .boolean) :: ([.fieldLink RX6 57 "PairTokensModel" "bytes" "I", .fieldLink RX6 7 "PairTokensModel" "text" "[I", .methodLink RX6 73 yX6_sizeOf, .instanceMethod yX6_sizeOf, .selects RX6 yX6_sizeOf yX6_sizeOf, .initialized RX6, .code yX6_sizeOf cX6_sizeOf 2 (some .int), .fieldLink RX6 22 "PairTokensModel" "length" "[I", .methodLink RX6 77 yX6_byteOf, .instanceMethod yX6_byteOf, .selects RX6 yX6_byteOf yX6_byteOf, .code yX6_byteOf cX6_byteOf 3 (some .int), .fieldLink RX6 25 "PairTokensModel" "spelled" "[I", .methodLink RX6 60 yX6_beginsWord, .instanceMethod yX6_beginsWord, .selects RX6 yX6_beginsWord yX6_beginsWord, .code yX6_beginsWord cX6_beginsWord 2 (some .boolean)] ++ wsX60)
def wsX6_isBefore : List Cond := .code yX6_isBefore cX6_isBefore 7 (some .boolean) :: ([.fieldLink RX6 40 "PairTokensModel" "bestSize" "[I", .fieldLink RX6 43 "PairTokensModel" "bestRow" "[I"] ++ wsX60)
def wsX6_come : List Cond := .code yX6_come cX6_come 8 none :: ([.fieldLink RX6 37 "PairTokensModel" "bestSum" "[I", .fieldLink RX6 28 "PairTokensModel" "points" "[I", .fieldLink RX6 40 "PairTokensModel" "bestSize" "[I", .fieldLink RX6 46 "PairTokensModel" "waysTo" "[I", .constant RX6 103 (1000000), .fieldLink RX6 43 "PairTokensModel" "bestRow" "[I", .methodLink RX6 73 yX6_sizeOf, .instanceMethod yX6_sizeOf, .selects RX6 yX6_sizeOf yX6_sizeOf, .initialized RX6, .code yX6_sizeOf cX6_sizeOf 2 (some .int), .fieldLink RX6 22 "PairTokensModel" "length" "[I", .methodLink RX6 104 yX6_isBefore, .instanceMethod yX6_isBefore, .selects RX6 yX6_isBefore yX6_isBefore, .code yX6_isBefore cX6_isBefore 7 (some .boolean)] ++ wsX60)
def wsX6_findBest_r1 : List Cond := [Cond.fieldLink RX6 57 "PairTokensModel" "bytes" "I", Cond.fieldLink RX6 37 "PairTokensModel" "bestSum" "[I", Cond.fieldLink RX6 40 "PairTokensModel" "bestSize" "[I", Cond.fieldLink RX6 46 "PairTokensModel" "waysTo" "[I", Cond.fieldLink RX6 7 "PairTokensModel" "text" "[I", Cond.fieldLink RX6 70 "PairTokensModel" "learned" "I", Cond.methodLink RX6 107 yX6_come, Cond.instanceMethod yX6_come, Cond.selects RX6 yX6_come yX6_come, Cond.initialized RX6, Cond.code yX6_come cX6_come 8 none, Cond.fieldLink RX6 28 "PairTokensModel" "points" "[I", Cond.constant RX6 103 (1000000), Cond.fieldLink RX6 43 "PairTokensModel" "bestRow" "[I", Cond.methodLink RX6 73 yX6_sizeOf, Cond.instanceMethod yX6_sizeOf, Cond.selects RX6 yX6_sizeOf yX6_sizeOf, Cond.code yX6_sizeOf cX6_sizeOf 2 (some .int), Cond.fieldLink RX6 22 "PairTokensModel" "length" "[I", Cond.methodLink RX6 104 yX6_isBefore, Cond.instanceMethod yX6_isBefore, Cond.selects RX6 yX6_isBefore yX6_isBefore, Cond.code yX6_isBefore cX6_isBefore 7 (some .boolean), Cond.methodLink RX6 111 yX6_fits]
def wsX6_findBest_r2 : List Cond := [Cond.instanceMethod yX6_fits, Cond.selects RX6 yX6_fits yX6_fits, Cond.code yX6_fits cX6_fits 5 (some .boolean), Cond.methodLink RX6 77 yX6_byteOf, Cond.instanceMethod yX6_byteOf, Cond.selects RX6 yX6_byteOf yX6_byteOf, Cond.code yX6_byteOf cX6_byteOf 3 (some .int), Cond.fieldLink RX6 25 "PairTokensModel" "spelled" "[I", Cond.methodLink RX6 60 yX6_beginsWord, Cond.instanceMethod yX6_beginsWord, Cond.selects RX6 yX6_beginsWord yX6_beginsWord, Cond.code yX6_beginsWord cX6_beginsWord 2 (some .boolean)]
def wsX6_findBest : List Cond := .code yX6_findBest cX6_findBest 3 none :: ((wsX6_findBest_r1 ++ wsX6_findBest_r2) ++ wsX60)
def wsX6_best_r1 : List Cond := [Cond.fieldLink RX6 49 "PairTokensModel" "code" "I", Cond.fieldLink RX6 40 "PairTokensModel" "bestSize" "[I", Cond.fieldLink RX6 57 "PairTokensModel" "bytes" "I", Cond.methodLink RX6 115 yX6_findBest, Cond.instanceMethod yX6_findBest, Cond.selects RX6 yX6_findBest yX6_findBest, Cond.initialized RX6, Cond.code yX6_findBest cX6_findBest 3 none, Cond.fieldLink RX6 37 "PairTokensModel" "bestSum" "[I", Cond.fieldLink RX6 46 "PairTokensModel" "waysTo" "[I", Cond.fieldLink RX6 7 "PairTokensModel" "text" "[I", Cond.fieldLink RX6 70 "PairTokensModel" "learned" "I", Cond.methodLink RX6 107 yX6_come, Cond.instanceMethod yX6_come, Cond.selects RX6 yX6_come yX6_come, Cond.code yX6_come cX6_come 8 none, Cond.fieldLink RX6 28 "PairTokensModel" "points" "[I", Cond.constant RX6 103 (1000000), Cond.fieldLink RX6 43 "PairTokensModel" "bestRow" "[I", Cond.methodLink RX6 73 yX6_sizeOf, Cond.instanceMethod yX6_sizeOf, Cond.selects RX6 yX6_sizeOf yX6_sizeOf, Cond.code yX6_sizeOf cX6_sizeOf 2 (some .int), Cond.fieldLink RX6 22 "PairTokensModel" "length" "[I"]
def wsX6_best_r2 : List Cond := [Cond.methodLink RX6 104 yX6_isBefore, Cond.instanceMethod yX6_isBefore, Cond.selects RX6 yX6_isBefore yX6_isBefore, Cond.code yX6_isBefore cX6_isBefore 7 (some .boolean), Cond.methodLink RX6 111 yX6_fits, Cond.instanceMethod yX6_fits, Cond.selects RX6 yX6_fits yX6_fits, Cond.code yX6_fits cX6_fits 5 (some .boolean), Cond.methodLink RX6 77 yX6_byteOf, Cond.instanceMethod yX6_byteOf, Cond.selects RX6 yX6_byteOf yX6_byteOf, Cond.code yX6_byteOf cX6_byteOf 3 (some .int), Cond.fieldLink RX6 25 "PairTokensModel" "spelled" "[I", Cond.methodLink RX6 60 yX6_beginsWord, Cond.instanceMethod yX6_beginsWord, Cond.selects RX6 yX6_beginsWord yX6_beginsWord, Cond.code yX6_beginsWord cX6_beginsWord 2 (some .boolean)]
def wsX6_best : List Cond := .code yX6_best cX6_best 1 (some .int) :: ((wsX6_best_r1 ++ wsX6_best_r2) ++ wsX60)
def wsX6_bestAt_r1 : List Cond := [Cond.fieldLink RX6 49 "PairTokensModel" "code" "I", Cond.fieldLink RX6 40 "PairTokensModel" "bestSize" "[I", Cond.fieldLink RX6 57 "PairTokensModel" "bytes" "I", Cond.fieldLink RX6 43 "PairTokensModel" "bestRow" "[I", Cond.methodLink RX6 115 yX6_findBest, Cond.instanceMethod yX6_findBest, Cond.selects RX6 yX6_findBest yX6_findBest, Cond.initialized RX6, Cond.code yX6_findBest cX6_findBest 3 none, Cond.fieldLink RX6 37 "PairTokensModel" "bestSum" "[I", Cond.fieldLink RX6 46 "PairTokensModel" "waysTo" "[I", Cond.fieldLink RX6 7 "PairTokensModel" "text" "[I", Cond.fieldLink RX6 70 "PairTokensModel" "learned" "I", Cond.methodLink RX6 107 yX6_come, Cond.instanceMethod yX6_come, Cond.selects RX6 yX6_come yX6_come, Cond.code yX6_come cX6_come 8 none, Cond.fieldLink RX6 28 "PairTokensModel" "points" "[I", Cond.constant RX6 103 (1000000), Cond.methodLink RX6 73 yX6_sizeOf, Cond.instanceMethod yX6_sizeOf, Cond.selects RX6 yX6_sizeOf yX6_sizeOf, Cond.code yX6_sizeOf cX6_sizeOf 2 (some .int), Cond.fieldLink RX6 22 "PairTokensModel" "length" "[I"]
def wsX6_bestAt_r2 : List Cond := [Cond.methodLink RX6 104 yX6_isBefore, Cond.instanceMethod yX6_isBefore, Cond.selects RX6 yX6_isBefore yX6_isBefore, Cond.code yX6_isBefore cX6_isBefore 7 (some .boolean), Cond.methodLink RX6 111 yX6_fits, Cond.instanceMethod yX6_fits, Cond.selects RX6 yX6_fits yX6_fits, Cond.code yX6_fits cX6_fits 5 (some .boolean), Cond.methodLink RX6 77 yX6_byteOf, Cond.instanceMethod yX6_byteOf, Cond.selects RX6 yX6_byteOf yX6_byteOf, Cond.code yX6_byteOf cX6_byteOf 3 (some .int), Cond.fieldLink RX6 25 "PairTokensModel" "spelled" "[I", Cond.methodLink RX6 60 yX6_beginsWord, Cond.instanceMethod yX6_beginsWord, Cond.selects RX6 yX6_beginsWord yX6_beginsWord, Cond.code yX6_beginsWord cX6_beginsWord 2 (some .boolean), Cond.methodLink RX6 53 yX6_in, Cond.static yX6_in, Cond.code yX6_in cX6_in 3 (some .boolean)]
def wsX6_bestAt : List Cond := .code yX6_bestAt cX6_bestAt 2 (some .int) :: ((wsX6_bestAt_r1 ++ wsX6_bestAt_r2) ++ wsX60)
def wsX6_sum_r1 : List Cond := [Cond.fieldLink RX6 49 "PairTokensModel" "code" "I", Cond.fieldLink RX6 37 "PairTokensModel" "bestSum" "[I", Cond.fieldLink RX6 57 "PairTokensModel" "bytes" "I", Cond.methodLink RX6 115 yX6_findBest, Cond.instanceMethod yX6_findBest, Cond.selects RX6 yX6_findBest yX6_findBest, Cond.initialized RX6, Cond.code yX6_findBest cX6_findBest 3 none, Cond.fieldLink RX6 40 "PairTokensModel" "bestSize" "[I", Cond.fieldLink RX6 46 "PairTokensModel" "waysTo" "[I", Cond.fieldLink RX6 7 "PairTokensModel" "text" "[I", Cond.fieldLink RX6 70 "PairTokensModel" "learned" "I", Cond.methodLink RX6 107 yX6_come, Cond.instanceMethod yX6_come, Cond.selects RX6 yX6_come yX6_come, Cond.code yX6_come cX6_come 8 none, Cond.fieldLink RX6 28 "PairTokensModel" "points" "[I", Cond.constant RX6 103 (1000000), Cond.fieldLink RX6 43 "PairTokensModel" "bestRow" "[I", Cond.methodLink RX6 73 yX6_sizeOf, Cond.instanceMethod yX6_sizeOf, Cond.selects RX6 yX6_sizeOf yX6_sizeOf, Cond.code yX6_sizeOf cX6_sizeOf 2 (some .int), Cond.fieldLink RX6 22 "PairTokensModel" "length" "[I"]
def wsX6_sum_r2 : List Cond := [Cond.methodLink RX6 104 yX6_isBefore, Cond.instanceMethod yX6_isBefore, Cond.selects RX6 yX6_isBefore yX6_isBefore, Cond.code yX6_isBefore cX6_isBefore 7 (some .boolean), Cond.methodLink RX6 111 yX6_fits, Cond.instanceMethod yX6_fits, Cond.selects RX6 yX6_fits yX6_fits, Cond.code yX6_fits cX6_fits 5 (some .boolean), Cond.methodLink RX6 77 yX6_byteOf, Cond.instanceMethod yX6_byteOf, Cond.selects RX6 yX6_byteOf yX6_byteOf, Cond.code yX6_byteOf cX6_byteOf 3 (some .int), Cond.fieldLink RX6 25 "PairTokensModel" "spelled" "[I", Cond.methodLink RX6 60 yX6_beginsWord, Cond.instanceMethod yX6_beginsWord, Cond.selects RX6 yX6_beginsWord yX6_beginsWord, Cond.code yX6_beginsWord cX6_beginsWord 2 (some .boolean)]
def wsX6_sum : List Cond := .code yX6_sum cX6_sum 1 (some .int) :: ((wsX6_sum_r1 ++ wsX6_sum_r2) ++ wsX60)
def wsX6_ways_r1 : List Cond := [Cond.fieldLink RX6 49 "PairTokensModel" "code" "I", Cond.fieldLink RX6 46 "PairTokensModel" "waysTo" "[I", Cond.fieldLink RX6 57 "PairTokensModel" "bytes" "I", Cond.methodLink RX6 115 yX6_findBest, Cond.instanceMethod yX6_findBest, Cond.selects RX6 yX6_findBest yX6_findBest, Cond.initialized RX6, Cond.code yX6_findBest cX6_findBest 3 none, Cond.fieldLink RX6 37 "PairTokensModel" "bestSum" "[I", Cond.fieldLink RX6 40 "PairTokensModel" "bestSize" "[I", Cond.fieldLink RX6 7 "PairTokensModel" "text" "[I", Cond.fieldLink RX6 70 "PairTokensModel" "learned" "I", Cond.methodLink RX6 107 yX6_come, Cond.instanceMethod yX6_come, Cond.selects RX6 yX6_come yX6_come, Cond.code yX6_come cX6_come 8 none, Cond.fieldLink RX6 28 "PairTokensModel" "points" "[I", Cond.constant RX6 103 (1000000), Cond.fieldLink RX6 43 "PairTokensModel" "bestRow" "[I", Cond.methodLink RX6 73 yX6_sizeOf, Cond.instanceMethod yX6_sizeOf, Cond.selects RX6 yX6_sizeOf yX6_sizeOf, Cond.code yX6_sizeOf cX6_sizeOf 2 (some .int), Cond.fieldLink RX6 22 "PairTokensModel" "length" "[I"]
def wsX6_ways_r2 : List Cond := [Cond.methodLink RX6 104 yX6_isBefore, Cond.instanceMethod yX6_isBefore, Cond.selects RX6 yX6_isBefore yX6_isBefore, Cond.code yX6_isBefore cX6_isBefore 7 (some .boolean), Cond.methodLink RX6 111 yX6_fits, Cond.instanceMethod yX6_fits, Cond.selects RX6 yX6_fits yX6_fits, Cond.code yX6_fits cX6_fits 5 (some .boolean), Cond.methodLink RX6 77 yX6_byteOf, Cond.instanceMethod yX6_byteOf, Cond.selects RX6 yX6_byteOf yX6_byteOf, Cond.code yX6_byteOf cX6_byteOf 3 (some .int), Cond.fieldLink RX6 25 "PairTokensModel" "spelled" "[I", Cond.methodLink RX6 60 yX6_beginsWord, Cond.instanceMethod yX6_beginsWord, Cond.selects RX6 yX6_beginsWord yX6_beginsWord, Cond.code yX6_beginsWord cX6_beginsWord 2 (some .boolean)]
def wsX6_ways : List Cond := .code yX6_ways cX6_ways 1 (some .int) :: ((wsX6_ways_r1 ++ wsX6_ways_r2) ++ wsX60)
def wsJx00060_init_a7421 : List Cond := .code yJx00060_init_a7421 cJx00060_init_a7421 2 none :: ([])
def wsJ9_min_7cf53 : List Cond := .code yJ9_min_7cf53 cJ9_min_7cf53 2 (some .int) :: ([])
def wsL_decode_r1 : List Cond := [Cond.methodLink RL 7 yX5_decode, Cond.instanceMethod yX5_decode, Cond.selects RX5 yX5_decode yX5_decode, Cond.initialized RX5, Cond.code yX5_decode cX5_decode 3 (some .int), Cond.fieldLink RX5 19 "PairTokens" "vocabulary" "LPairTokens$Vocabulary;", Cond.classLink RX5 93 RJx00060, Cond.instantiable RJx00060 6, Cond.initialized RJx00060, Cond.methodLink RX5 86 yX4_isToken, Cond.instanceMethod yX4_isToken, Cond.selects RX4 yX4_isToken yX4_isToken, Cond.initialized RX4, Cond.code yX4_isToken cX4_isToken 2 (some .boolean), Cond.fieldLink RX4 27 "PairTokens$Vocabulary" "learned" "I", Cond.methodLink RX5 89 yX4_sizeOf, Cond.instanceMethod yX4_sizeOf, Cond.selects RX4 yX4_sizeOf yX4_sizeOf, Cond.code yX4_sizeOf cX4_sizeOf 2 (some .int), Cond.fieldLink RX4 21 "PairTokens$Vocabulary" "sizes" "[I", Cond.methodLink RX4 58 yX4_isLearned, Cond.instanceMethod yX4_isLearned, Cond.selects RX4 yX4_isLearned yX4_isLearned, Cond.code yX4_isLearned cX4_isLearned 2 (some .boolean)]
def wsL_decode_r2 : List Cond := [Cond.methodLink RX5 100 yX4_byteOf, Cond.instanceMethod yX4_byteOf, Cond.selects RX4 yX4_byteOf yX4_byteOf, Cond.code yX4_byteOf cX4_byteOf 4 (some .int), Cond.fieldLink RX4 34 "PairTokens$Vocabulary" "places" "[I", Cond.fieldLink RX4 31 "PairTokens$Vocabulary" "source" "[I"]
def wsL_decode : List Cond := .codeWith yL_decode cL_decode 5 (some .int) [(0, 10, 13, 13)] :: ((wsL_decode_r1 ++ wsL_decode_r2) ++ wsX50 ++ wsJx000600 ++ wsX40)
def wsL_law_r1 : List Cond := [Cond.classLink RL 8 RX5, Cond.instantiable RX5 5, Cond.initialized RX5, Cond.classLink RL 16 RX6, Cond.instantiable RX6 17, Cond.initialized RX6, Cond.arrayClass .long, Cond.methodLink RL 15 yX5_init, Cond.instanceMethod yX5_init, Cond.code yX5_init cX5_init 1 none, Cond.methodLink RX5 1 objectInit, Cond.instanceMethod objectInit, Cond.code objectInit ⟨#[0xb1]⟩ 1 none, Cond.classLink RX5 7 RX3, Cond.instantiable RX3 2, Cond.initialized RX3, Cond.fieldLink RX5 10 "PairTokens" "text" "LPairTokens$Text;", Cond.classLink RX5 16 RX4, Cond.instantiable RX4 8, Cond.initialized RX4, Cond.fieldLink RX5 19 "PairTokens" "vocabulary" "LPairTokens$Vocabulary;", Cond.classLink RX5 23 RX2, Cond.instantiable RX2 4, Cond.initialized RX2]
def wsL_law_r2 : List Cond := [Cond.fieldLink RX5 26 "PairTokens" "row" "LPairTokens$Row;", Cond.classLink RX5 30 RX1, Cond.instantiable RX1 3, Cond.initialized RX1, Cond.fieldLink RX5 33 "PairTokens" "counter" "LPairTokens$PairCounter;", Cond.classLink RX5 37 RX0, Cond.instantiable RX0 4, Cond.initialized RX0, Cond.fieldLink RX5 40 "PairTokens" "choices" "LPairTokens$Choices;", Cond.methodLink RX5 9 yX3_init, Cond.instanceMethod yX3_init, Cond.code yX3_init cX3_init 1 none, Cond.methodLink RX3 3 objectInit, Cond.arrayClass .int, Cond.fieldLink RX3 9 "PairTokens$Text" "octets" "[I", Cond.fieldLink RX3 15 "PairTokens$Text" "length" "I", Cond.methodLink RX5 18 yX4_init, Cond.instanceMethod yX4_init, Cond.code yX4_init cX4_init 1 none, Cond.methodLink RX4 3 objectInit, Cond.fieldLink RX4 9 "PairTokens$Vocabulary" "firsts" "[I", Cond.fieldLink RX4 15 "PairTokens$Vocabulary" "seconds" "[I", Cond.fieldLink RX4 18 "PairTokens$Vocabulary" "counts" "[I", Cond.fieldLink RX4 21 "PairTokens$Vocabulary" "sizes" "[I"]
def wsL_law_r3 : List Cond := [Cond.fieldLink RX4 24 "PairTokens$Vocabulary" "worth" "[I", Cond.fieldLink RX4 27 "PairTokens$Vocabulary" "learned" "I", Cond.fieldLink RX4 31 "PairTokens$Vocabulary" "source" "[I", Cond.fieldLink RX4 34 "PairTokens$Vocabulary" "places" "[I", Cond.methodLink RX4 37 yJ7_fill_53178, Cond.static yJ7_fill_53178, Cond.initialized RJ7, Cond.code yJ7_fill_53178 cJ7_fill_53178 4 none, Cond.methodLink RX5 25 yX2_init, Cond.instanceMethod yX2_init, Cond.code yX2_init cX2_init 1 none, Cond.methodLink RX2 3 objectInit, Cond.fieldLink RX2 9 "PairTokens$Row" "cells" "[I", Cond.fieldLink RX2 15 "PairTokens$Row" "starts" "[I", Cond.fieldLink RX2 18 "PairTokens$Row" "length" "I", Cond.arrayClass .boolean, Cond.fieldLink RX2 22 "PairTokens$Row" "wordBegins" "[Z", Cond.methodLink RX5 32 yX1_init, Cond.instanceMethod yX1_init, Cond.code yX1_init cX1_init 1 none, Cond.methodLink RX1 3 objectInit, Cond.fieldLink RX1 9 "PairTokens$PairCounter" "keys" "[I", Cond.fieldLink RX1 15 "PairTokens$PairCounter" "counts" "[I", Cond.fieldLink RX1 18 "PairTokens$PairCounter" "places" "[I"]
def wsL_law_r4 : List Cond := [Cond.methodLink RX5 39 yX0_init, Cond.instanceMethod yX0_init, Cond.code yX0_init cX0_init 1 none, Cond.methodLink RX0 3 objectInit, Cond.fieldLink RX0 9 "PairTokens$Choices" "sums" "[I", Cond.fieldLink RX0 15 "PairTokens$Choices" "lengths" "[I", Cond.fieldLink RX0 18 "PairTokens$Choices" "manners" "[I", Cond.fieldLink RX0 21 "PairTokens$Choices" "chosen" "[I", Cond.methodLink RL 18 yX6_init, Cond.instanceMethod yX6_init, Cond.code yX6_init cX6_init 2 none, Cond.methodLink RX6 1 objectInit, Cond.fieldLink RX6 7 "PairTokensModel" "text" "[I", Cond.fieldLink RX6 13 "PairTokensModel" "first" "[I", Cond.fieldLink RX6 16 "PairTokensModel" "second" "[I", Cond.fieldLink RX6 19 "PairTokensModel" "counted" "[I", Cond.fieldLink RX6 22 "PairTokensModel" "length" "[I", Cond.fieldLink RX6 25 "PairTokensModel" "spelled" "[I", Cond.fieldLink RX6 28 "PairTokensModel" "points" "[I", Cond.fieldLink RX6 31 "PairTokensModel" "row" "[I", Cond.fieldLink RX6 34 "PairTokensModel" "places" "[I", Cond.fieldLink RX6 37 "PairTokensModel" "bestSum" "[I", Cond.fieldLink RX6 40 "PairTokensModel" "bestSize" "[I", Cond.fieldLink RX6 43 "PairTokensModel" "bestRow" "[I"]
def wsL_law_r5 : List Cond := [Cond.fieldLink RX6 46 "PairTokensModel" "waysTo" "[I", Cond.methodLink RL 19 yX5_octet, Cond.instanceMethod yX5_octet, Cond.selects RX5 yX5_octet yX5_octet, Cond.code yX5_octet cX5_octet 2 (some .int), Cond.fieldLink RX5 44 "PairTokens$Text" "length" "I", Cond.methodLink RX5 48 yX3_append, Cond.instanceMethod yX3_append, Cond.selects RX3 yX3_append yX3_append, Cond.code yX3_append cX3_append 2 none, Cond.methodLink RL 23 yX6_octet, Cond.instanceMethod yX6_octet, Cond.selects RX6 yX6_octet yX6_octet, Cond.code yX6_octet cX6_octet 2 (some .int), Cond.fieldLink RX6 49 "PairTokensModel" "code" "I", Cond.fieldLink RX6 57 "PairTokensModel" "bytes" "I", Cond.methodLink RX6 53 yX6_in, Cond.static yX6_in, Cond.code yX6_in cX6_in 3 (some .boolean), Cond.methodLink RL 24 yX5_cut, Cond.instanceMethod yX5_cut, Cond.selects RX5 yX5_cut yX5_cut, Cond.code yX5_cut cX5_cut 3 (some .int), Cond.methodLink RL 27 yX6_cut]
def wsL_law_r6 : List Cond := [Cond.instanceMethod yX6_cut, Cond.selects RX6 yX6_cut yX6_cut, Cond.code yX6_cut cX6_cut 3 (some .int), Cond.methodLink RL 28 yX5_byteAt, Cond.instanceMethod yX5_byteAt, Cond.selects RX5 yX5_byteAt yX5_byteAt, Cond.code yX5_byteAt cX5_byteAt 2 (some .int), Cond.fieldLink RX5 52 "PairTokens$Text" "octets" "[I", Cond.methodLink RL 31 yX6_byteAt, Cond.instanceMethod yX6_byteAt, Cond.selects RX6 yX6_byteAt yX6_byteAt, Cond.code yX6_byteAt cX6_byteAt 2 (some .int), Cond.methodLink RL 32 yX5_words, Cond.instanceMethod yX5_words, Cond.selects RX5 yX5_words yX5_words, Cond.code yX5_words cX5_words 3 (some .int), Cond.methodLink RX5 56 yX3_beginsWord, Cond.instanceMethod yX3_beginsWord, Cond.selects RX3 yX3_beginsWord yX3_beginsWord, Cond.code yX3_beginsWord cX3_beginsWord 2 (some .boolean), Cond.methodLink RL 36 yX6_words, Cond.instanceMethod yX6_words, Cond.selects RX6 yX6_words yX6_words, Cond.code yX6_words cX6_words 3 (some .int)]
def wsL_law_r7 : List Cond := [Cond.methodLink RX6 60 yX6_beginsWord, Cond.instanceMethod yX6_beginsWord, Cond.selects RX6 yX6_beginsWord yX6_beginsWord, Cond.code yX6_beginsWord cX6_beginsWord 2 (some .boolean), Cond.methodLink RL 37 yX5_learn, Cond.instanceMethod yX5_learn, Cond.selects RX5 yX5_learn yX5_learn, Cond.code yX5_learn cX5_learn 3 (some .int), Cond.fieldLink RX5 71 "PairTokens$Vocabulary" "learned" "I", Cond.methodLink RX5 60 yX4_startFrom, Cond.instanceMethod yX4_startFrom, Cond.selects RX4 yX4_startFrom yX4_startFrom, Cond.code yX4_startFrom cX4_startFrom 2 none, Cond.fieldLink RX4 43 "PairTokens$Text" "octets" "[I", Cond.methodLink RX4 48 arraycopyName, Cond.native arraycopyName, Cond.static arraycopyName, Cond.initialized "java/lang/System", Cond.methodLink RX5 64 yX2_spell, Cond.instanceMethod yX2_spell, Cond.selects RX2 yX2_spell yX2_spell, Cond.code yX2_spell cX2_spell 3 none, Cond.fieldLink RX2 26 "PairTokens$Text" "length" "I", Cond.fieldLink RX2 29 "PairTokens$Text" "octets" "[I"]
def wsL_law_r8 : List Cond := [Cond.methodLink RX2 32 yX3_beginsWord, Cond.methodLink RX5 67 yX5_learnNext, Cond.instanceMethod yX5_learnNext, Cond.selects RX5 yX5_learnNext yX5_learnNext, Cond.code yX5_learnNext cX5_learnNext 5 (some .boolean), Cond.fieldLink RX5 142 "PairTokens$PairCounter" "counts" "[I", Cond.fieldLink RX5 143 "PairTokens$PairCounter" "keys" "[I", Cond.fieldLink RX5 146 "PairTokens$PairCounter" "places" "[I", Cond.methodLink RX5 134 yX1_countPairs, Cond.instanceMethod yX1_countPairs, Cond.selects RX1 yX1_countPairs yX1_countPairs, Cond.code yX1_countPairs cX1_countPairs 3 none, Cond.fieldLink RX1 27 "PairTokens$Row" "length" "I", Cond.fieldLink RX1 37 "PairTokens$Row" "cells" "[I", Cond.fieldLink RX1 40 "PairTokens$Row" "starts" "[I", Cond.methodLink RX1 21 yJ7_fill_53178, Cond.methodLink RX1 33 yX2_hasNext, Cond.instanceMethod yX2_hasNext, Cond.selects RX2 yX2_hasNext yX2_hasNext, Cond.code yX2_hasNext cX2_hasNext 2 (some .boolean), Cond.methodLink RX1 43 yX1_add, Cond.instanceMethod yX1_add, Cond.selects RX1 yX1_add yX1_add, Cond.code yX1_add cX1_add 7 none]
def wsL_law_r9 : List Cond := [Cond.methodLink RX5 138 yX1_mostFrequent, Cond.instanceMethod yX1_mostFrequent, Cond.selects RX1 yX1_mostFrequent yX1_mostFrequent, Cond.code yX1_mostFrequent cX1_mostFrequent 3 (some .int), Cond.methodLink RX1 47 yX1_isAhead, Cond.instanceMethod yX1_isAhead, Cond.selects RX1 yX1_isAhead yX1_isAhead, Cond.code yX1_isAhead cX1_isAhead 3 (some .boolean), Cond.methodLink RX5 149 yX4_add, Cond.instanceMethod yX4_add, Cond.selects RX4 yX4_add yX4_add, Cond.code yX4_add cX4_add 5 none, Cond.methodLink RX4 54 yX4_sizeOf, Cond.instanceMethod yX4_sizeOf, Cond.selects RX4 yX4_sizeOf yX4_sizeOf, Cond.code yX4_sizeOf cX4_sizeOf 2 (some .int), Cond.methodLink RX4 58 yX4_isLearned, Cond.instanceMethod yX4_isLearned, Cond.selects RX4 yX4_isLearned yX4_isLearned, Cond.code yX4_isLearned cX4_isLearned 2 (some .boolean), Cond.methodLink RX5 153 yX2_merge, Cond.instanceMethod yX2_merge, Cond.selects RX2 yX2_merge yX2_merge, Cond.code yX2_merge cX2_merge 7 none]
def wsL_law_r10 : List Cond := [Cond.methodLink RX2 36 yX2_hasNext, Cond.methodLink RL 40 yX6_learn, Cond.instanceMethod yX6_learn, Cond.selects RX6 yX6_learn yX6_learn, Cond.code yX6_learn cX6_learn 8 (some .int), Cond.fieldLink RX6 70 "PairTokensModel" "learned" "I", Cond.fieldLink RX6 64 "PairTokensModel" "size" "I", Cond.methodLink RX6 81 yX6_layBytes, Cond.instanceMethod yX6_layBytes, Cond.selects RX6 yX6_layBytes yX6_layBytes, Cond.code yX6_layBytes cX6_layBytes 2 none, Cond.methodLink RX6 67 yX6_isPair, Cond.instanceMethod yX6_isPair, Cond.selects RX6 yX6_isPair yX6_isPair, Cond.code yX6_isPair cX6_isPair 4 (some .boolean), Cond.methodLink RX6 84 yX6_countOf, Cond.instanceMethod yX6_countOf, Cond.selects RX6 yX6_countOf yX6_countOf, Cond.code yX6_countOf cX6_countOf 5 (some .int), Cond.methodLink RX6 87 yX6_keep, Cond.instanceMethod yX6_keep, Cond.selects RX6 yX6_keep yX6_keep, Cond.code yX6_keep cX6_keep 7 none, Cond.methodLink RX6 73 yX6_sizeOf]
def wsL_law_r11 : List Cond := [Cond.instanceMethod yX6_sizeOf, Cond.selects RX6 yX6_sizeOf yX6_sizeOf, Cond.code yX6_sizeOf cX6_sizeOf 2 (some .int), Cond.methodLink RX6 77 yX6_byteOf, Cond.instanceMethod yX6_byteOf, Cond.selects RX6 yX6_byteOf yX6_byteOf, Cond.code yX6_byteOf cX6_byteOf 3 (some .int), Cond.methodLink RX6 91 yX6_join, Cond.instanceMethod yX6_join, Cond.selects RX6 yX6_join yX6_join, Cond.code yX6_join cX6_join 8 none, Cond.methodLink RL 41 yX5_pair, Cond.instanceMethod yX5_pair, Cond.selects RX5 yX5_pair yX5_pair, Cond.code yX5_pair cX5_pair 4 (some .int), Cond.fieldLink RX5 77 "PairTokens$Vocabulary" "firsts" "[I", Cond.fieldLink RX5 80 "PairTokens$Vocabulary" "seconds" "[I", Cond.methodLink RX5 74 yX4_isLearned, Cond.methodLink RL 44 yX6_pair, Cond.instanceMethod yX6_pair, Cond.selects RX6 yX6_pair yX6_pair, Cond.code yX6_pair cX6_pair 3 (some .int), Cond.methodLink RX6 94 yX6_isLearned, Cond.instanceMethod yX6_isLearned]
def wsL_law_r12 : List Cond := [Cond.selects RX6 yX6_isLearned yX6_isLearned, Cond.code yX6_isLearned cX6_isLearned 2 (some .boolean), Cond.methodLink RL 45 yX5_count, Cond.instanceMethod yX5_count, Cond.selects RX5 yX5_count yX5_count, Cond.code yX5_count cX5_count 2 (some .int), Cond.fieldLink RX5 83 "PairTokens$Vocabulary" "counts" "[I", Cond.methodLink RL 48 yX6_count, Cond.instanceMethod yX6_count, Cond.selects RX6 yX6_count yX6_count, Cond.code yX6_count cX6_count 2 (some .int), Cond.methodLink RL 49 yX5_size, Cond.instanceMethod yX5_size, Cond.selects RX5 yX5_size yX5_size, Cond.code yX5_size cX5_size 2 (some .int), Cond.methodLink RX5 86 yX4_isToken, Cond.instanceMethod yX4_isToken, Cond.selects RX4 yX4_isToken yX4_isToken, Cond.code yX4_isToken cX4_isToken 2 (some .boolean), Cond.methodLink RX5 89 yX4_sizeOf, Cond.methodLink RL 52 yX6_size, Cond.instanceMethod yX6_size, Cond.selects RX6 yX6_size yX6_size, Cond.code yX6_size cX6_size 2 (some .int)]
def wsL_law_r13 : List Cond := [Cond.methodLink RX6 97 yX6_isToken, Cond.instanceMethod yX6_isToken, Cond.selects RX6 yX6_isToken yX6_isToken, Cond.code yX6_isToken cX6_isToken 2 (some .boolean), Cond.methodLink RL 53 yL_decode, Cond.static yL_decode, Cond.initialized RL, Cond.codeWith yL_decode cL_decode 5 (some .int) [(0, 10, 13, 13)], Cond.methodLink RL 7 yX5_decode, Cond.instanceMethod yX5_decode, Cond.selects RX5 yX5_decode yX5_decode, Cond.code yX5_decode cX5_decode 3 (some .int), Cond.classLink RX5 93 RJx00060, Cond.instantiable RJx00060 6, Cond.initialized RJx00060, Cond.methodLink RX5 100 yX4_byteOf, Cond.instanceMethod yX4_byteOf, Cond.selects RX4 yX4_byteOf yX4_byteOf, Cond.code yX4_byteOf cX4_byteOf 4 (some .int), Cond.methodLink RL 58 yX6_decode, Cond.instanceMethod yX6_decode, Cond.selects RX6 yX6_decode yX6_decode, Cond.code yX6_decode cX6_decode 3 (some .int), Cond.methodLink RL 59 yX6_thrown]
def wsL_law_r14 : List Cond := [Cond.instanceMethod yX6_thrown, Cond.selects RX6 yX6_thrown yX6_thrown, Cond.code yX6_thrown cX6_thrown 1 (some .int), Cond.methodLink RL 62 yX5_tokens, Cond.instanceMethod yX5_tokens, Cond.selects RX5 yX5_tokens yX5_tokens, Cond.code yX5_tokens cX5_tokens 1 (some .int), Cond.fieldLink RX5 107 "PairTokens$Row" "length" "I", Cond.methodLink RX5 104 yX5_tellText, Cond.instanceMethod yX5_tellText, Cond.selects RX5 yX5_tellText yX5_tellText, Cond.code yX5_tellText cX5_tellText 2 none, Cond.methodLink RL 65 yX6_tokens, Cond.instanceMethod yX6_tokens, Cond.selects RX6 yX6_tokens yX6_tokens, Cond.code yX6_tokens cX6_tokens 1 (some .int), Cond.methodLink RX6 100 yX6_tell, Cond.instanceMethod yX6_tell, Cond.selects RX6 yX6_tell yX6_tell, Cond.code yX6_tell cX6_tell 2 none, Cond.methodLink RL 66 yX5_at, Cond.instanceMethod yX5_at, Cond.selects RX5 yX5_at yX5_at, Cond.code yX5_at cX5_at 2 (some .int)]
def wsL_law_r15 : List Cond := [Cond.fieldLink RX5 108 "PairTokens$Row" "cells" "[I", Cond.methodLink RL 69 yX6_at, Cond.instanceMethod yX6_at, Cond.selects RX6 yX6_at yX6_at, Cond.code yX6_at cX6_at 2 (some .int), Cond.methodLink RL 70 yX5_from, Cond.instanceMethod yX5_from, Cond.selects RX5 yX5_from yX5_from, Cond.code yX5_from cX5_from 2 (some .int), Cond.fieldLink RX5 111 "PairTokens$Row" "starts" "[I", Cond.methodLink RL 73 yX6_from, Cond.instanceMethod yX6_from, Cond.selects RX6 yX6_from yX6_from, Cond.code yX6_from cX6_from 2 (some .int), Cond.methodLink RL 74 yX5_points, Cond.instanceMethod yX5_points, Cond.selects RX5 yX5_points yX5_points, Cond.code yX5_points cX5_points 3 (some .int), Cond.fieldLink RX5 114 "PairTokens$Vocabulary" "worth" "[I", Cond.methodLink RL 77 yX6_points, Cond.instanceMethod yX6_points, Cond.selects RX6 yX6_points yX6_points, Cond.code yX6_points cX6_points 3 (some .int), Cond.methodLink RL 78 yX5_best]
def wsL_law_r16 : List Cond := [Cond.instanceMethod yX5_best, Cond.selects RX5 yX5_best yX5_best, Cond.code yX5_best cX5_best 1 (some .int), Cond.fieldLink RX5 121 "PairTokens$Choices" "lengths" "[I", Cond.methodLink RX5 117 yX0_weigh, Cond.instanceMethod yX0_weigh, Cond.selects RX0 yX0_weigh yX0_weigh, Cond.code yX0_weigh cX0_weigh 6 none, Cond.fieldLink RX0 24 "PairTokens$Text" "length" "I", Cond.fieldLink RX0 30 "PairTokens$Text" "octets" "[I", Cond.fieldLink RX0 37 "PairTokens$Vocabulary" "learned" "I", Cond.methodLink RX0 33 yX0_startWithByte, Cond.instanceMethod yX0_startWithByte, Cond.selects RX0 yX0_startWithByte yX0_startWithByte, Cond.code yX0_startWithByte cX0_startWithByte 4 none, Cond.fieldLink RX0 53 "PairTokens$Vocabulary" "worth" "[I", Cond.methodLink RX0 42 yX4_standsAt, Cond.instanceMethod yX4_standsAt, Cond.selects RX4 yX4_standsAt yX4_standsAt, Cond.code yX4_standsAt cX4_standsAt 6 (some .boolean), Cond.fieldLink RX4 62 "PairTokens$Text" "length" "I", Cond.methodLink RX4 65 yX4_byteOf, Cond.methodLink RX0 46 yX0_startWithLearned, Cond.instanceMethod yX0_startWithLearned]
def wsL_law_r17 : List Cond := [Cond.selects RX0 yX0_startWithLearned yX0_startWithLearned, Cond.code yX0_startWithLearned cX0_startWithLearned 7 none, Cond.constant RX0 56 (1000000), Cond.methodLink RX0 57 Lib.Math.min.name, Cond.static Lib.Math.min.name, Cond.initialized "java/lang/Math", Cond.code Lib.Math.min.name Lib.Math.min.code 2 (some .int), Cond.methodLink RX0 49 yX4_sizeOf, Cond.methodLink RL 81 yX6_best, Cond.instanceMethod yX6_best, Cond.selects RX6 yX6_best yX6_best, Cond.code yX6_best cX6_best 1 (some .int), Cond.methodLink RX6 115 yX6_findBest, Cond.instanceMethod yX6_findBest, Cond.selects RX6 yX6_findBest yX6_findBest, Cond.code yX6_findBest cX6_findBest 3 none, Cond.methodLink RX6 107 yX6_come, Cond.instanceMethod yX6_come, Cond.selects RX6 yX6_come yX6_come, Cond.code yX6_come cX6_come 8 none, Cond.constant RX6 103 (1000000), Cond.methodLink RX6 104 yX6_isBefore, Cond.instanceMethod yX6_isBefore, Cond.selects RX6 yX6_isBefore yX6_isBefore]
def wsL_law_r18 : List Cond := [Cond.code yX6_isBefore cX6_isBefore 7 (some .boolean), Cond.methodLink RX6 111 yX6_fits, Cond.instanceMethod yX6_fits, Cond.selects RX6 yX6_fits yX6_fits, Cond.code yX6_fits cX6_fits 5 (some .boolean), Cond.methodLink RL 82 yX5_bestAt, Cond.instanceMethod yX5_bestAt, Cond.selects RX5 yX5_bestAt yX5_bestAt, Cond.code yX5_bestAt cX5_bestAt 2 (some .int), Cond.methodLink RX5 124 yX0_chosenAfter, Cond.instanceMethod yX0_chosenAfter, Cond.selects RX0 yX0_chosenAfter yX0_chosenAfter, Cond.code yX0_chosenAfter cX0_chosenAfter 5 (some .int), Cond.methodLink RL 85 yX6_bestAt, Cond.instanceMethod yX6_bestAt, Cond.selects RX6 yX6_bestAt yX6_bestAt, Cond.code yX6_bestAt cX6_bestAt 2 (some .int), Cond.methodLink RL 86 yX5_sum, Cond.instanceMethod yX5_sum, Cond.selects RX5 yX5_sum yX5_sum, Cond.code yX5_sum cX5_sum 1 (some .int), Cond.fieldLink RX5 128 "PairTokens$Choices" "sums" "[I", Cond.methodLink RL 89 yX6_sum, Cond.instanceMethod yX6_sum]
def wsL_law_r19 : List Cond := [Cond.selects RX6 yX6_sum yX6_sum, Cond.code yX6_sum cX6_sum 1 (some .int), Cond.methodLink RL 90 yX5_ways, Cond.instanceMethod yX5_ways, Cond.selects RX5 yX5_ways yX5_ways, Cond.code yX5_ways cX5_ways 1 (some .int), Cond.fieldLink RX5 131 "PairTokens$Choices" "manners" "[I", Cond.methodLink RL 93 yX6_ways, Cond.instanceMethod yX6_ways, Cond.selects RX6 yX6_ways yX6_ways, Cond.code yX6_ways cX6_ways 1 (some .int)]
def wsL_law : List Cond := (wsL_law_r1 ++ (wsL_law_r2 ++ (wsL_law_r3 ++ (wsL_law_r4 ++ (wsL_law_r5 ++ (wsL_law_r6 ++ (wsL_law_r7 ++ (wsL_law_r8 ++ (wsL_law_r9 ++ (wsL_law_r10 ++ (wsL_law_r11 ++ (wsL_law_r12 ++ (wsL_law_r13 ++ (wsL_law_r14 ++ (wsL_law_r15 ++ (wsL_law_r16 ++ (wsL_law_r17 ++ (wsL_law_r18 ++ wsL_law_r19)))))))))))))))))) ++ wsX50 ++ wsX60 ++ wsX30 ++ wsX40 ++ wsX20 ++ wsX10 ++ wsX00 ++ wsJx000600 ++ ([] : List Cond)
abbrev vwCl : List vw_C := [(RJx00060, TJx00060, 6), (RX0, TX0, 4), (RX1, TX1, 3), (RX2, TX2, 4), (RX3, TX3, 2), (RX4, TX4, 8), (RX5, TX5, 5), (RX6, TX6, 17)]
end
section
/-! decode tables, one a method: (pc, instruction, next pc, target of a jump) -/
abbrev TB : Type := List (Nat × Instr × Nat × Nat)
/-- the lengths of the instructions that the walks use -/
def ilen : Instr → Nat
  | .bipush _ => 2
  | .iload _ => 2
  | .istore _ => 2
  | .aload _ => 2
  | .astore _ => 2
  | .ldc _ => 2
  | .newarray _ => 2
  | .sipush _ => 3
  | .iinc _ _ => 3
  | .goto _ => 3
  | .if_icmp _ _ => 3
  | .ifCond _ _ => 3
  | .getfield _ => 3
  | .putfield _ => 3
  | .invokevirtual _ => 3
  | .invokespecial _ => 3
  | .invokestatic _ => 3
  | .new _ => 3
  | _ => 1
def tchk (q : Nat × Instr × Nat × Nat) : Bool := decide (q.1 + ilen q.2.1 = q.2.2.1) && match q.2.1 with
  | .goto off => decide ((q.1 : Int) + off = (q.2.2.2 : Int))
  | .if_icmp _ off => decide ((q.1 : Int) + off = (q.2.2.2 : Int))
  | .ifCond _ off => decide ((q.1 : Int) + off = (q.2.2.2 : Int))
  | .bipush n => decide (-128 ≤ n) && decide (n ≤ 127)
  | .sipush n => decide (-32768 ≤ n) && decide (n ≤ 32767)
  | _ => true
abbrev tabOk (cc : ByteArray) (t : TB) : Prop := ∀ q ∈ t, decode cc q.1 = .ok (q.2.1, ilen q.2.1) ∧ tchk q = true
def tX0_init : TB := [(0, .aload_n 0, 1, 0), (1, .invokespecial 3, 4, 0), (4, .aload_n 0, 5, 0), (5, .bipush 121, 7, 0), (7, .newarray .int, 9, 0), (9, .putfield 9, 12, 0), (12, .aload_n 0, 13, 0), (13, .bipush 121, 15, 0), (15, .newarray .int, 17, 0), (17, .putfield 15, 20, 0), (20, .aload_n 0, 21, 0), (21, .bipush 121, 23, 0), (23, .newarray .int, 25, 0), (25, .putfield 18, 28, 0), (28, .aload_n 0, 29, 0), (29, .bipush 121, 31, 0), (31, .newarray .int, 33, 0), (33, .putfield 21, 36, 0), (36, .return_, 37, 0)]
theorem tX0_init_ok : tabOk cX0_init tX0_init := by decide +kernel
def tX0_weigh : TB := [(0, .aload_n 1, 1, 0), (1, .getfield 24, 4, 0), (4, .istore_n 3, 5, 0), (5, .aload_n 0, 6, 0), (6, .getfield 9, 9, 0), (9, .iload_n 3, 10, 0), (10, .iconst 0, 11, 0), (11, .iastore, 12, 0), (12, .aload_n 0, 13, 0), (13, .getfield 15, 16, 0), (16, .iload_n 3, 17, 0), (17, .iconst 0, 18, 0), (18, .iastore, 19, 0), (19, .aload_n 0, 20, 0), (20, .getfield 18, 23, 0), (23, .iload_n 3, 24, 0), (24, .iconst 1, 25, 0), (25, .iastore, 26, 0), (26, .iload_n 3, 27, 0), (27, .iconst 1, 28, 0), (28, .isub, 29, 0), (29, .istore 4, 31, 0), (31, .iload 4, 33, 0), (33, .ifCond .lt 68, 36, 101), (36, .aload_n 0, 37, 0), (37, .iload 4, 39, 0), (39, .aload_n 1, 40, 0), (40, .getfield 30, 43, 0), (43, .iload 4, 45, 0), (45, .iaload, 46, 0), (46, .aload_n 2, 47, 0), (47, .invokevirtual 33, 50, 0), (50, .sipush 256, 53, 0), (53, .istore 5, 55, 0), (55, .iload 5, 57, 0), (57, .sipush 256, 60, 0), (60, .aload_n 2, 61, 0), (61, .getfield 37, 64, 0), (64, .iadd, 65, 0), (65, .if_icmp .ge 30, 68, 95), (68, .aload_n 2, 69, 0), (69, .iload 5, 71, 0), (71, .aload_n 1, 72, 0), (72, .iload 4, 74, 0), (74, .invokevirtual 42, 77, 0), (77, .ifCond .eq 12, 80, 89), (80, .aload_n 0, 81, 0), (81, .iload 4, 83, 0), (83, .iload 5, 85, 0), (85, .aload_n 2, 86, 0), (86, .invokevirtual 46, 89, 0), (89, .iinc 5 1, 92, 0), (92, .goto (-37), 95, 55), (95, .iinc 4 (-1), 98, 0), (98, .goto (-67), 101, 31), (101, .return_, 102, 0)]
theorem tX0_weigh_ok : tabOk cX0_weigh tX0_weigh := by decide +kernel
def tX0_chosenAfter : TB := [(0, .iconst 0, 1, 0), (1, .istore_n 3, 2, 0), (2, .iconst 0, 3, 0), (3, .istore 4, 5, 0), (5, .iload 4, 7, 0), (7, .iload_n 1, 8, 0), (8, .if_icmp .ge 28, 11, 36), (11, .iload_n 3, 12, 0), (12, .bipush 120, 14, 0), (14, .if_icmp .ge 22, 17, 36), (17, .iload_n 3, 18, 0), (18, .aload_n 2, 19, 0), (19, .aload_n 0, 20, 0), (20, .getfield 21, 23, 0), (23, .iload_n 3, 24, 0), (24, .iaload, 25, 0), (25, .invokevirtual 49, 28, 0), (28, .iadd, 29, 0), (29, .istore_n 3, 30, 0), (30, .iinc 4 1, 33, 0), (33, .goto (-28), 36, 5), (36, .iload_n 3, 37, 0), (37, .ifCond .lt 18, 40, 55), (40, .iload_n 3, 41, 0), (41, .bipush 120, 43, 0), (43, .if_icmp .ge 12, 46, 55), (46, .aload_n 0, 47, 0), (47, .getfield 21, 50, 0), (50, .iload_n 3, 51, 0), (51, .iaload, 52, 0), (52, .goto 4, 55, 56), (55, .iconst (-1), 56, 0), (56, .ireturn, 57, 0)]
theorem tX0_chosenAfter_ok : tabOk cX0_chosenAfter tX0_chosenAfter := by decide +kernel
def tX0_startWithByte : TB := [(0, .aload_n 0, 1, 0), (1, .getfield 9, 4, 0), (4, .iload_n 1, 5, 0), (5, .aload_n 3, 6, 0), (6, .getfield 53, 9, 0), (9, .iload_n 2, 10, 0), (10, .iaload, 11, 0), (11, .aload_n 0, 12, 0), (12, .getfield 9, 15, 0), (15, .iload_n 1, 16, 0), (16, .iconst 1, 17, 0), (17, .iadd, 18, 0), (18, .iaload, 19, 0), (19, .iadd, 20, 0), (20, .iastore, 21, 0), (21, .aload_n 0, 22, 0), (22, .getfield 15, 25, 0), (25, .iload_n 1, 26, 0), (26, .iconst 1, 27, 0), (27, .aload_n 0, 28, 0), (28, .getfield 15, 31, 0), (31, .iload_n 1, 32, 0), (32, .iconst 1, 33, 0), (33, .iadd, 34, 0), (34, .iaload, 35, 0), (35, .iadd, 36, 0), (36, .iastore, 37, 0), (37, .aload_n 0, 38, 0), (38, .getfield 18, 41, 0), (41, .iload_n 1, 42, 0), (42, .aload_n 0, 43, 0), (43, .getfield 18, 46, 0), (46, .iload_n 1, 47, 0), (47, .iconst 1, 48, 0), (48, .iadd, 49, 0), (49, .iaload, 50, 0), (50, .iastore, 51, 0), (51, .aload_n 0, 52, 0), (52, .getfield 21, 55, 0), (55, .iload_n 1, 56, 0), (56, .iload_n 2, 57, 0), (57, .iastore, 58, 0), (58, .return_, 59, 0)]
theorem tX0_startWithByte_ok : tabOk cX0_startWithByte tX0_startWithByte := by decide +kernel
def tX0_startWithLearned_r0 : TB := [(0, .iload_n 1, 1, 0), (1, .aload_n 3, 2, 0), (2, .iload_n 2, 3, 0), (3, .invokevirtual 49, 6, 0), (6, .iadd, 7, 0), (7, .istore 4, 9, 0), (9, .aload_n 3, 10, 0), (10, .getfield 53, 13, 0), (13, .iload_n 2, 14, 0), (14, .iaload, 15, 0), (15, .aload_n 0, 16, 0), (16, .getfield 9, 19, 0), (19, .iload 4, 21, 0), (21, .iaload, 22, 0), (22, .iadd, 23, 0), (23, .istore 5, 25, 0), (25, .iconst 1, 26, 0), (26, .aload_n 0, 27, 0), (27, .getfield 15, 30, 0), (30, .iload 4, 32, 0), (32, .iaload, 33, 0), (33, .iadd, 34, 0), (34, .istore 6, 36, 0), (36, .aload_n 0, 37, 0), (37, .getfield 18, 40, 0), (40, .iload_n 1, 41, 0), (41, .ldc 56, 43, 0), (43, .aload_n 0, 44, 0), (44, .getfield 18, 47, 0), (47, .iload_n 1, 48, 0), (48, .iaload, 49, 0), (49, .aload_n 0, 50, 0), (50, .getfield 18, 53, 0), (53, .iload 4, 55, 0), (55, .iaload, 56, 0), (56, .iadd, 57, 0), (57, .invokestatic 57, 60, 0), (60, .iastore, 61, 0), (61, .iload 5, 63, 0), (63, .aload_n 0, 64, 0), (64, .getfield 9, 67, 0), (67, .iload_n 1, 68, 0), (68, .iaload, 69, 0), (69, .if_icmp .gt 25, 72, 94), (72, .iload 5, 74, 0), (74, .aload_n 0, 75, 0), (75, .getfield 9, 78, 0), (78, .iload_n 1, 79, 0), (79, .iaload, 80, 0), (80, .if_icmp .ne 37, 83, 117), (83, .iload 6, 85, 0), (85, .aload_n 0, 86, 0), (86, .getfield 15, 89, 0), (89, .iload_n 1, 90, 0), (90, .iaload, 91, 0), (91, .if_icmp .ge 26, 94, 117), (94, .aload_n 0, 95, 0), (95, .getfield 9, 98, 0), (98, .iload_n 1, 99, 0), (99, .iload 5, 101, 0)]
theorem tX0_startWithLearned_r0_ok : tabOk cX0_startWithLearned tX0_startWithLearned_r0 := by decide +kernel
def tX0_startWithLearned_r1 : TB := [(101, .iastore, 102, 0), (102, .aload_n 0, 103, 0), (103, .getfield 15, 106, 0), (106, .iload_n 1, 107, 0), (107, .iload 6, 109, 0), (109, .iastore, 110, 0), (110, .aload_n 0, 111, 0), (111, .getfield 21, 114, 0), (114, .iload_n 1, 115, 0), (115, .iload_n 2, 116, 0), (116, .iastore, 117, 0), (117, .return_, 118, 0)]
theorem tX0_startWithLearned_r1_ok : tabOk cX0_startWithLearned tX0_startWithLearned_r1 := by decide +kernel
def tX0_startWithLearned : TB := tX0_startWithLearned_r0 ++ (tX0_startWithLearned_r1)
theorem tX0_startWithLearned_ok : tabOk cX0_startWithLearned tX0_startWithLearned := List.forall_mem_append.mpr ⟨tX0_startWithLearned_r0_ok, tX0_startWithLearned_r1_ok⟩
def tX1_init : TB := [(0, .aload_n 0, 1, 0), (1, .invokespecial 3, 4, 0), (4, .aload_n 0, 5, 0), (5, .sipush 256, 8, 0), (8, .newarray .int, 10, 0), (10, .putfield 9, 13, 0), (13, .aload_n 0, 14, 0), (14, .sipush 256, 17, 0), (17, .newarray .int, 19, 0), (19, .putfield 15, 22, 0), (22, .aload_n 0, 23, 0), (23, .sipush 256, 26, 0), (26, .newarray .int, 28, 0), (28, .putfield 18, 31, 0), (31, .return_, 32, 0)]
theorem tX1_init_ok : tabOk cX1_init tX1_init := by decide +kernel
def tX1_countPairs : TB := [(0, .aload_n 0, 1, 0), (1, .getfield 15, 4, 0), (4, .iconst 0, 5, 0), (5, .invokestatic 21, 8, 0), (8, .iconst 0, 9, 0), (9, .istore_n 2, 10, 0), (10, .iload_n 2, 11, 0), (11, .aload_n 1, 12, 0), (12, .getfield 27, 15, 0), (15, .if_icmp .ge 41, 18, 56), (18, .aload_n 1, 19, 0), (19, .iload_n 2, 20, 0), (20, .invokevirtual 33, 23, 0), (23, .ifCond .eq 27, 26, 50), (26, .aload_n 0, 27, 0), (27, .aload_n 1, 28, 0), (28, .getfield 37, 31, 0), (31, .iload_n 2, 32, 0), (32, .iaload, 33, 0), (33, .aload_n 1, 34, 0), (34, .getfield 37, 37, 0), (37, .iload_n 2, 38, 0), (38, .iconst 1, 39, 0), (39, .iadd, 40, 0), (40, .iaload, 41, 0), (41, .aload_n 1, 42, 0), (42, .getfield 40, 45, 0), (45, .iload_n 2, 46, 0), (46, .iaload, 47, 0), (47, .invokevirtual 43, 50, 0), (50, .iinc 2 1, 53, 0), (53, .goto (-43), 56, 10), (56, .return_, 57, 0)]
theorem tX1_countPairs_ok : tabOk cX1_countPairs tX1_countPairs := by decide +kernel
def tX1_mostFrequent : TB := [(0, .iconst (-1), 1, 0), (1, .istore_n 1, 2, 0), (2, .iconst 0, 3, 0), (3, .istore_n 2, 4, 0), (4, .iload_n 2, 5, 0), (5, .sipush 256, 8, 0), (8, .if_icmp .ge 33, 11, 41), (11, .aload_n 0, 12, 0), (12, .getfield 15, 15, 0), (15, .iload_n 2, 16, 0), (16, .iaload, 17, 0), (17, .ifCond .le 18, 20, 35), (20, .iload_n 1, 21, 0), (21, .ifCond .lt 12, 24, 33), (24, .aload_n 0, 25, 0), (25, .iload_n 2, 26, 0), (26, .iload_n 1, 27, 0), (27, .invokevirtual 47, 30, 0), (30, .ifCond .eq 5, 33, 35), (33, .iload_n 2, 34, 0), (34, .istore_n 1, 35, 0), (35, .iinc 2 1, 38, 0), (38, .goto (-34), 41, 4), (41, .iload_n 1, 42, 0), (42, .ireturn, 43, 0)]
theorem tX1_mostFrequent_ok : tabOk cX1_mostFrequent tX1_mostFrequent := by decide +kernel
def tX1_isAhead : TB := [(0, .aload_n 0, 1, 0), (1, .getfield 15, 4, 0), (4, .iload_n 1, 5, 0), (5, .iaload, 6, 0), (6, .aload_n 0, 7, 0), (7, .getfield 15, 10, 0), (10, .iload_n 2, 11, 0), (11, .iaload, 12, 0), (12, .if_icmp .eq 24, 15, 36), (15, .aload_n 0, 16, 0), (16, .getfield 15, 19, 0), (19, .iload_n 1, 20, 0), (20, .iaload, 21, 0), (21, .aload_n 0, 22, 0), (22, .getfield 15, 25, 0), (25, .iload_n 2, 26, 0), (26, .iaload, 27, 0), (27, .if_icmp .le 7, 30, 34), (30, .iconst 1, 31, 0), (31, .goto 4, 34, 35), (34, .iconst 0, 35, 0), (35, .ireturn, 36, 0), (36, .aload_n 0, 37, 0), (37, .getfield 9, 40, 0), (40, .iload_n 1, 41, 0), (41, .iaload, 42, 0), (42, .aload_n 0, 43, 0), (43, .getfield 9, 46, 0), (46, .iload_n 2, 47, 0), (47, .iaload, 48, 0), (48, .if_icmp .ge 7, 51, 55), (51, .iconst 1, 52, 0), (52, .goto 4, 55, 56), (55, .iconst 0, 56, 0), (56, .ireturn, 57, 0)]
theorem tX1_isAhead_ok : tabOk cX1_isAhead tX1_isAhead := by decide +kernel
def tX1_add : TB := [(0, .iload_n 1, 1, 0), (1, .sipush 512, 4, 0), (4, .imul, 5, 0), (5, .iload_n 2, 6, 0), (6, .iadd, 7, 0), (7, .istore 4, 9, 0), (9, .iload_n 1, 10, 0), (10, .bipush 31, 12, 0), (12, .imul, 13, 0), (13, .iload_n 2, 14, 0), (14, .iadd, 15, 0), (15, .sipush 255, 18, 0), (18, .iand, 19, 0), (19, .istore 5, 21, 0), (21, .iconst 0, 22, 0), (22, .istore 6, 24, 0), (24, .iload 6, 26, 0), (26, .sipush 256, 29, 0), (29, .if_icmp .ge 70, 32, 99), (32, .aload_n 0, 33, 0), (33, .getfield 15, 36, 0), (36, .iload 5, 38, 0), (38, .iaload, 39, 0), (39, .ifCond .ne 20, 42, 59), (42, .aload_n 0, 43, 0), (43, .getfield 9, 46, 0), (46, .iload 5, 48, 0), (48, .iload 4, 50, 0), (50, .iastore, 51, 0), (51, .aload_n 0, 52, 0), (52, .getfield 18, 55, 0), (55, .iload 5, 57, 0), (57, .iload_n 3, 58, 0), (58, .iastore, 59, 0), (59, .aload_n 0, 60, 0), (60, .getfield 9, 63, 0), (63, .iload 5, 65, 0), (65, .iaload, 66, 0), (66, .iload 4, 68, 0), (68, .if_icmp .ne 15, 71, 83), (71, .aload_n 0, 72, 0), (72, .getfield 15, 75, 0), (75, .iload 5, 77, 0), (77, .dup2, 78, 0), (78, .iaload, 79, 0), (79, .iconst 1, 80, 0), (80, .iadd, 81, 0), (81, .iastore, 82, 0), (82, .return_, 83, 0), (83, .iload 5, 85, 0), (85, .iconst 1, 86, 0), (86, .iadd, 87, 0), (87, .sipush 255, 90, 0), (90, .iand, 91, 0), (91, .istore 5, 93, 0), (93, .iinc 6 1, 96, 0), (96, .goto (-72), 99, 24), (99, .return_, 100, 0)]
theorem tX1_add_ok : tabOk cX1_add tX1_add := by decide +kernel
def tX2_init : TB := [(0, .aload_n 0, 1, 0), (1, .invokespecial 3, 4, 0), (4, .aload_n 0, 5, 0), (5, .bipush 120, 7, 0), (7, .newarray .int, 9, 0), (9, .putfield 9, 12, 0), (12, .aload_n 0, 13, 0), (13, .bipush 120, 15, 0), (15, .newarray .int, 17, 0), (17, .putfield 15, 20, 0), (20, .aload_n 0, 21, 0), (21, .iconst 0, 22, 0), (22, .putfield 18, 25, 0), (25, .aload_n 0, 26, 0), (26, .bipush 120, 28, 0), (28, .newarray .boolean, 30, 0), (30, .putfield 22, 33, 0), (33, .return_, 34, 0)]
theorem tX2_init_ok : tabOk cX2_init tX2_init := by decide +kernel
def tX2_spell : TB := [(0, .aload_n 0, 1, 0), (1, .aload_n 1, 2, 0), (2, .getfield 26, 5, 0), (5, .putfield 18, 8, 0), (8, .iconst 0, 9, 0), (9, .istore_n 2, 10, 0), (10, .iload_n 2, 11, 0), (11, .aload_n 0, 12, 0), (12, .getfield 18, 15, 0), (15, .if_icmp .ge 39, 18, 54), (18, .aload_n 0, 19, 0), (19, .getfield 9, 22, 0), (22, .iload_n 2, 23, 0), (23, .aload_n 1, 24, 0), (24, .getfield 29, 27, 0), (27, .iload_n 2, 28, 0), (28, .iaload, 29, 0), (29, .iastore, 30, 0), (30, .aload_n 0, 31, 0), (31, .getfield 15, 34, 0), (34, .iload_n 2, 35, 0), (35, .iload_n 2, 36, 0), (36, .iastore, 37, 0), (37, .aload_n 0, 38, 0), (38, .getfield 22, 41, 0), (41, .iload_n 2, 42, 0), (42, .aload_n 1, 43, 0), (43, .iload_n 2, 44, 0), (44, .invokevirtual 32, 47, 0), (47, .bastore, 48, 0), (48, .iinc 2 1, 51, 0), (51, .goto (-41), 54, 10), (54, .return_, 55, 0)]
theorem tX2_spell_ok : tabOk cX2_spell tX2_spell := by decide +kernel
def tX2_hasNext : TB := [(0, .iload_n 1, 1, 0), (1, .ifCond .lt 28, 4, 29), (4, .iload_n 1, 5, 0), (5, .aload_n 0, 6, 0), (6, .getfield 18, 9, 0), (9, .iconst 1, 10, 0), (10, .isub, 11, 0), (11, .if_icmp .ge 18, 14, 29), (14, .aload_n 0, 15, 0), (15, .getfield 22, 18, 0), (18, .iload_n 1, 19, 0), (19, .iconst 1, 20, 0), (20, .iadd, 21, 0), (21, .baload, 22, 0), (22, .ifCond .ne 7, 25, 29), (25, .iconst 1, 26, 0), (26, .goto 4, 29, 30), (29, .iconst 0, 30, 0), (30, .ireturn, 31, 0)]
theorem tX2_hasNext_ok : tabOk cX2_hasNext tX2_hasNext := by decide +kernel
def tX2_merge_r0 : TB := [(0, .iconst 0, 1, 0), (1, .istore 4, 3, 0), (3, .iconst 0, 4, 0), (4, .istore 5, 6, 0), (6, .iload 5, 8, 0), (8, .aload_n 0, 9, 0), (9, .getfield 18, 12, 0), (12, .if_icmp .ge 111, 15, 123), (15, .aload_n 0, 16, 0), (16, .getfield 9, 19, 0), (19, .iload 5, 21, 0), (21, .iaload, 22, 0), (22, .iload_n 1, 23, 0), (23, .if_icmp .ne 29, 26, 52), (26, .aload_n 0, 27, 0), (27, .iload 5, 29, 0), (29, .invokevirtual 36, 32, 0), (32, .ifCond .eq 20, 35, 52), (35, .aload_n 0, 36, 0), (36, .getfield 9, 39, 0), (39, .iload 5, 41, 0), (41, .iconst 1, 42, 0), (42, .iadd, 43, 0), (43, .iaload, 44, 0), (44, .iload_n 2, 45, 0), (45, .if_icmp .ne 7, 48, 52), (48, .iconst 1, 49, 0), (49, .goto 4, 52, 53), (52, .iconst 0, 53, 0), (53, .istore 6, 55, 0), (55, .aload_n 0, 56, 0), (56, .getfield 9, 59, 0), (59, .iload 4, 61, 0), (61, .iload 6, 63, 0), (63, .ifCond .eq 7, 66, 70), (66, .iload_n 3, 67, 0), (67, .goto 10, 70, 77), (70, .aload_n 0, 71, 0), (71, .getfield 9, 74, 0), (74, .iload 5, 76, 0), (76, .iaload, 77, 0), (77, .iastore, 78, 0), (78, .aload_n 0, 79, 0), (79, .getfield 15, 82, 0), (82, .iload 4, 84, 0), (84, .aload_n 0, 85, 0), (85, .getfield 15, 88, 0), (88, .iload 5, 90, 0), (90, .iaload, 91, 0), (91, .iastore, 92, 0), (92, .aload_n 0, 93, 0), (93, .getfield 22, 96, 0), (96, .iload 4, 98, 0), (98, .aload_n 0, 99, 0), (99, .getfield 22, 102, 0), (102, .iload 5, 104, 0), (104, .baload, 105, 0), (105, .bastore, 106, 0), (106, .iinc 4 1, 109, 0), (109, .iload 6, 111, 0)]
theorem tX2_merge_r0_ok : tabOk cX2_merge tX2_merge_r0 := by decide +kernel
def tX2_merge_r1 : TB := [(111, .ifCond .eq 6, 114, 117), (114, .iinc 5 1, 117, 0), (117, .iinc 5 1, 120, 0), (120, .goto (-114), 123, 6), (123, .aload_n 0, 124, 0), (124, .iload 4, 126, 0), (126, .putfield 18, 129, 0), (129, .return_, 130, 0)]
theorem tX2_merge_r1_ok : tabOk cX2_merge tX2_merge_r1 := by decide +kernel
def tX2_merge : TB := tX2_merge_r0 ++ (tX2_merge_r1)
theorem tX2_merge_ok : tabOk cX2_merge tX2_merge := List.forall_mem_append.mpr ⟨tX2_merge_r0_ok, tX2_merge_r1_ok⟩
def tX3_init : TB := [(0, .aload_n 0, 1, 0), (1, .invokespecial 3, 4, 0), (4, .aload_n 0, 5, 0), (5, .bipush 120, 7, 0), (7, .newarray .int, 9, 0), (9, .putfield 9, 12, 0), (12, .aload_n 0, 13, 0), (13, .iconst 0, 14, 0), (14, .putfield 15, 17, 0), (17, .return_, 18, 0)]
theorem tX3_init_ok : tabOk cX3_init tX3_init := by decide +kernel
def tX3_append : TB := [(0, .aload_n 0, 1, 0), (1, .getfield 15, 4, 0), (4, .bipush 120, 6, 0), (6, .if_icmp .ge 23, 9, 29), (9, .aload_n 0, 10, 0), (10, .getfield 9, 13, 0), (13, .aload_n 0, 14, 0), (14, .getfield 15, 17, 0), (17, .iload_n 1, 18, 0), (18, .iastore, 19, 0), (19, .aload_n 0, 20, 0), (20, .dup, 21, 0), (21, .getfield 15, 24, 0), (24, .iconst 1, 25, 0), (25, .iadd, 26, 0), (26, .putfield 15, 29, 0), (29, .return_, 30, 0)]
theorem tX3_append_ok : tabOk cX3_append tX3_append := by decide +kernel
def tX3_beginsWord : TB := [(0, .iload_n 1, 1, 0), (1, .ifCond .lt 11, 4, 12), (4, .iload_n 1, 5, 0), (5, .aload_n 0, 6, 0), (6, .getfield 15, 9, 0), (9, .if_icmp .lt 5, 12, 14), (12, .iconst 0, 13, 0), (13, .ireturn, 14, 0), (14, .iload_n 1, 15, 0), (15, .ifCond .eq 27, 18, 42), (18, .aload_n 0, 19, 0), (19, .getfield 9, 22, 0), (22, .iload_n 1, 23, 0), (23, .iaload, 24, 0), (24, .bipush 32, 26, 0), (26, .if_icmp .ne 20, 29, 46), (29, .aload_n 0, 30, 0), (30, .getfield 9, 33, 0), (33, .iload_n 1, 34, 0), (34, .iconst 1, 35, 0), (35, .isub, 36, 0), (36, .iaload, 37, 0), (37, .bipush 32, 39, 0), (39, .if_icmp .eq 7, 42, 46), (42, .iconst 1, 43, 0), (43, .goto 4, 46, 47), (46, .iconst 0, 47, 0), (47, .ireturn, 48, 0)]
theorem tX3_beginsWord_ok : tabOk cX3_beginsWord tX3_beginsWord := by decide +kernel
def tX4_init : TB := [(0, .aload_n 0, 1, 0), (1, .invokespecial 3, 4, 0), (4, .aload_n 0, 5, 0), (5, .bipush 32, 7, 0), (7, .newarray .int, 9, 0), (9, .putfield 9, 12, 0), (12, .aload_n 0, 13, 0), (13, .bipush 32, 15, 0), (15, .newarray .int, 17, 0), (17, .putfield 15, 20, 0), (20, .aload_n 0, 21, 0), (21, .bipush 32, 23, 0), (23, .newarray .int, 25, 0), (25, .putfield 18, 28, 0), (28, .aload_n 0, 29, 0), (29, .bipush 32, 31, 0), (31, .newarray .int, 33, 0), (33, .putfield 21, 36, 0), (36, .aload_n 0, 37, 0), (37, .sipush 288, 40, 0), (40, .newarray .int, 42, 0), (42, .putfield 24, 45, 0), (45, .aload_n 0, 46, 0), (46, .iconst 0, 47, 0), (47, .putfield 27, 50, 0), (50, .aload_n 0, 51, 0), (51, .bipush 120, 53, 0), (53, .newarray .int, 55, 0), (55, .putfield 31, 58, 0), (58, .aload_n 0, 59, 0), (59, .bipush 32, 61, 0), (61, .newarray .int, 63, 0), (63, .putfield 34, 66, 0), (66, .aload_n 0, 67, 0), (67, .getfield 24, 70, 0), (70, .bipush (-10), 72, 0), (72, .invokestatic 37, 75, 0), (75, .return_, 76, 0)]
theorem tX4_init_ok : tabOk cX4_init tX4_init := by decide +kernel
def tX4_startFrom : TB := [(0, .aload_n 1, 1, 0), (1, .getfield 43, 4, 0), (4, .iconst 0, 5, 0), (5, .aload_n 0, 6, 0), (6, .getfield 31, 9, 0), (9, .iconst 0, 10, 0), (10, .bipush 120, 12, 0), (12, .invokestatic 48, 15, 0), (15, .aload_n 0, 16, 0), (16, .iconst 0, 17, 0), (17, .putfield 27, 20, 0), (20, .return_, 21, 0)]
theorem tX4_startFrom_ok : tabOk cX4_startFrom tX4_startFrom := by decide +kernel
def tX4_isToken : TB := [(0, .iload_n 1, 1, 0), (1, .ifCond .lt 19, 4, 20), (4, .iload_n 1, 5, 0), (5, .sipush 256, 8, 0), (8, .aload_n 0, 9, 0), (9, .getfield 27, 12, 0), (12, .iadd, 13, 0), (13, .if_icmp .ge 7, 16, 20), (16, .iconst 1, 17, 0), (17, .goto 4, 20, 21), (20, .iconst 0, 21, 0), (21, .ireturn, 22, 0)]
theorem tX4_isToken_ok : tabOk cX4_isToken tX4_isToken := by decide +kernel
def tX4_isLearned : TB := [(0, .iload_n 1, 1, 0), (1, .sipush 256, 4, 0), (4, .if_icmp .lt 19, 7, 23), (7, .iload_n 1, 8, 0), (8, .sipush 256, 11, 0), (11, .aload_n 0, 12, 0), (12, .getfield 27, 15, 0), (15, .iadd, 16, 0), (16, .if_icmp .ge 7, 19, 23), (19, .iconst 1, 20, 0), (20, .goto 4, 23, 24), (23, .iconst 0, 24, 0), (24, .ireturn, 25, 0)]
theorem tX4_isLearned_ok : tabOk cX4_isLearned tX4_isLearned := by decide +kernel
def tX4_add : TB := [(0, .aload_n 0, 1, 0), (1, .getfield 27, 4, 0), (4, .bipush 32, 6, 0), (6, .if_icmp .ge 96, 9, 102), (9, .aload_n 0, 10, 0), (10, .getfield 9, 13, 0), (13, .aload_n 0, 14, 0), (14, .getfield 27, 17, 0), (17, .iload_n 1, 18, 0), (18, .iastore, 19, 0), (19, .aload_n 0, 20, 0), (20, .getfield 15, 23, 0), (23, .aload_n 0, 24, 0), (24, .getfield 27, 27, 0), (27, .iload_n 2, 28, 0), (28, .iastore, 29, 0), (29, .aload_n 0, 30, 0), (30, .getfield 18, 33, 0), (33, .aload_n 0, 34, 0), (34, .getfield 27, 37, 0), (37, .iload_n 3, 38, 0), (38, .iastore, 39, 0), (39, .aload_n 0, 40, 0), (40, .getfield 21, 43, 0), (43, .aload_n 0, 44, 0), (44, .getfield 27, 47, 0), (47, .aload_n 0, 48, 0), (48, .iload_n 1, 49, 0), (49, .invokevirtual 54, 52, 0), (52, .aload_n 0, 53, 0), (53, .iload_n 2, 54, 0), (54, .invokevirtual 54, 57, 0), (57, .iadd, 58, 0), (58, .iastore, 59, 0), (59, .aload_n 0, 60, 0), (60, .getfield 34, 63, 0), (63, .aload_n 0, 64, 0), (64, .getfield 27, 67, 0), (67, .iload 4, 69, 0), (69, .iastore, 70, 0), (70, .aload_n 0, 71, 0), (71, .getfield 24, 74, 0), (74, .sipush 256, 77, 0), (77, .aload_n 0, 78, 0), (78, .getfield 27, 81, 0), (81, .iadd, 82, 0), (82, .aload_n 0, 83, 0), (83, .getfield 21, 86, 0), (86, .aload_n 0, 87, 0), (87, .getfield 27, 90, 0), (90, .iaload, 91, 0), (91, .iastore, 92, 0), (92, .aload_n 0, 93, 0), (93, .dup, 94, 0), (94, .getfield 27, 97, 0), (97, .iconst 1, 98, 0), (98, .iadd, 99, 0), (99, .putfield 27, 102, 0), (102, .return_, 103, 0)]
theorem tX4_add_ok : tabOk cX4_add tX4_add := by decide +kernel
def tX4_sizeOf : TB := [(0, .aload_n 0, 1, 0), (1, .iload_n 1, 2, 0), (2, .invokevirtual 58, 5, 0), (5, .ifCond .eq 16, 8, 21), (8, .aload_n 0, 9, 0), (9, .getfield 21, 12, 0), (12, .iload_n 1, 13, 0), (13, .sipush 256, 16, 0), (16, .isub, 17, 0), (17, .iaload, 18, 0), (18, .goto 4, 21, 22), (21, .iconst 1, 22, 0), (22, .ireturn, 23, 0)]
theorem tX4_sizeOf_ok : tabOk cX4_sizeOf tX4_sizeOf := by decide +kernel
def tX4_byteOf : TB := [(0, .aload_n 0, 1, 0), (1, .iload_n 1, 2, 0), (2, .invokevirtual 58, 5, 0), (5, .ifCond .ne 5, 8, 10), (8, .iload_n 1, 9, 0), (9, .ireturn, 10, 0), (10, .aload_n 0, 11, 0), (11, .getfield 34, 14, 0), (14, .iload_n 1, 15, 0), (15, .sipush 256, 18, 0), (18, .isub, 19, 0), (19, .iaload, 20, 0), (20, .iload_n 2, 21, 0), (21, .iadd, 22, 0), (22, .istore_n 3, 23, 0), (23, .iload_n 3, 24, 0), (24, .ifCond .lt 18, 27, 42), (27, .iload_n 3, 28, 0), (28, .bipush 120, 30, 0), (30, .if_icmp .ge 12, 33, 42), (33, .aload_n 0, 34, 0), (34, .getfield 31, 37, 0), (37, .iload_n 3, 38, 0), (38, .iaload, 39, 0), (39, .goto 4, 42, 43), (42, .iconst (-1), 43, 0), (43, .ireturn, 44, 0)]
theorem tX4_byteOf_ok : tabOk cX4_byteOf tX4_byteOf := by decide +kernel
def tX4_standsAt : TB := [(0, .aload_n 0, 1, 0), (1, .iload_n 1, 2, 0), (2, .invokevirtual 54, 5, 0), (5, .istore 4, 7, 0), (7, .iload_n 3, 8, 0), (8, .ifCond .lt 14, 11, 22), (11, .iload_n 3, 12, 0), (12, .aload_n 2, 13, 0), (13, .getfield 62, 16, 0), (16, .iload 4, 18, 0), (18, .isub, 19, 0), (19, .if_icmp .le 5, 22, 24), (22, .iconst 0, 23, 0), (23, .ireturn, 24, 0), (24, .iconst 0, 25, 0), (25, .istore 5, 27, 0), (27, .iload 5, 29, 0), (29, .iload 4, 31, 0), (31, .if_icmp .ge 30, 34, 61), (34, .aload_n 2, 35, 0), (35, .getfield 43, 38, 0), (38, .iload_n 3, 39, 0), (39, .iload 5, 41, 0), (41, .iadd, 42, 0), (42, .iaload, 43, 0), (43, .aload_n 0, 44, 0), (44, .iload_n 1, 45, 0), (45, .iload 5, 47, 0), (47, .invokevirtual 65, 50, 0), (50, .if_icmp .eq 5, 53, 55), (53, .iconst 0, 54, 0), (54, .ireturn, 55, 0), (55, .iinc 5 1, 58, 0), (58, .goto (-31), 61, 27), (61, .iconst 1, 62, 0), (62, .ireturn, 63, 0)]
theorem tX4_standsAt_ok : tabOk cX4_standsAt tX4_standsAt := by decide +kernel
def tX5_init : TB := [(0, .aload_n 0, 1, 0), (1, .invokespecial 1, 4, 0), (4, .aload_n 0, 5, 0), (5, .new 7, 8, 0), (8, .dup, 9, 0), (9, .invokespecial 9, 12, 0), (12, .putfield 10, 15, 0), (15, .aload_n 0, 16, 0), (16, .new 16, 19, 0), (19, .dup, 20, 0), (20, .invokespecial 18, 23, 0), (23, .putfield 19, 26, 0), (26, .aload_n 0, 27, 0), (27, .new 23, 30, 0), (30, .dup, 31, 0), (31, .invokespecial 25, 34, 0), (34, .putfield 26, 37, 0), (37, .aload_n 0, 38, 0), (38, .new 30, 41, 0), (41, .dup, 42, 0), (42, .invokespecial 32, 45, 0), (45, .putfield 33, 48, 0), (48, .aload_n 0, 49, 0), (49, .new 37, 52, 0), (52, .dup, 53, 0), (53, .invokespecial 39, 56, 0), (56, .putfield 40, 59, 0), (59, .return_, 60, 0)]
theorem tX5_init_ok : tabOk cX5_init tX5_init := by decide +kernel
def tX5_octet : TB := [(0, .iload_n 1, 1, 0), (1, .ifCond .lt 10, 4, 11), (4, .iload_n 1, 5, 0), (5, .sipush 256, 8, 0), (8, .if_icmp .lt 6, 11, 14), (11, .bipush (-2), 13, 0), (13, .ireturn, 14, 0), (14, .aload_n 0, 15, 0), (15, .getfield 10, 18, 0), (18, .getfield 44, 21, 0), (21, .bipush 120, 23, 0), (23, .if_icmp .lt 6, 26, 29), (26, .bipush (-4), 28, 0), (28, .ireturn, 29, 0), (29, .aload_n 0, 30, 0), (30, .getfield 10, 33, 0), (33, .iload_n 1, 34, 0), (34, .invokevirtual 48, 37, 0), (37, .aload_n 0, 38, 0), (38, .getfield 10, 41, 0), (41, .getfield 44, 44, 0), (44, .ireturn, 45, 0)]
theorem tX5_octet_ok : tabOk cX5_octet tX5_octet := by decide +kernel
def tX5_cut : TB := [(0, .iload_n 1, 1, 0), (1, .ifCond .lt 14, 4, 15), (4, .iload_n 1, 5, 0), (5, .aload_n 0, 6, 0), (6, .getfield 10, 9, 0), (9, .getfield 44, 12, 0), (12, .if_icmp .le 6, 15, 18), (15, .bipush (-2), 17, 0), (17, .ireturn, 18, 0), (18, .aload_n 0, 19, 0), (19, .getfield 10, 22, 0), (22, .getfield 44, 25, 0), (25, .istore_n 2, 26, 0), (26, .aload_n 0, 27, 0), (27, .getfield 10, 30, 0), (30, .iload_n 1, 31, 0), (31, .putfield 44, 34, 0), (34, .iload_n 2, 35, 0), (35, .ireturn, 36, 0)]
theorem tX5_cut_ok : tabOk cX5_cut tX5_cut := by decide +kernel
def tX5_byteAt : TB := [(0, .iload_n 1, 1, 0), (1, .ifCond .lt 14, 4, 15), (4, .iload_n 1, 5, 0), (5, .aload_n 0, 6, 0), (6, .getfield 10, 9, 0), (9, .getfield 44, 12, 0), (12, .if_icmp .lt 5, 15, 17), (15, .iconst (-1), 16, 0), (16, .ireturn, 17, 0), (17, .aload_n 0, 18, 0), (18, .getfield 10, 21, 0), (21, .getfield 52, 24, 0), (24, .iload_n 1, 25, 0), (25, .iaload, 26, 0), (26, .ireturn, 27, 0)]
theorem tX5_byteAt_ok : tabOk cX5_byteAt tX5_byteAt := by decide +kernel
def tX5_words : TB := [(0, .iconst 0, 1, 0), (1, .istore_n 1, 2, 0), (2, .iconst 0, 3, 0), (3, .istore_n 2, 4, 0), (4, .iload_n 2, 5, 0), (5, .aload_n 0, 6, 0), (6, .getfield 10, 9, 0), (9, .getfield 44, 12, 0), (12, .if_icmp .ge 23, 15, 35), (15, .aload_n 0, 16, 0), (16, .getfield 10, 19, 0), (19, .iload_n 2, 20, 0), (20, .invokevirtual 56, 23, 0), (23, .ifCond .eq 6, 26, 29), (26, .iinc 1 1, 29, 0), (29, .iinc 2 1, 32, 0), (32, .goto (-28), 35, 4), (35, .iload_n 1, 36, 0), (36, .ireturn, 37, 0)]
theorem tX5_words_ok : tabOk cX5_words tX5_words := by decide +kernel
def tX5_learn : TB := [(0, .iload_n 1, 1, 0), (1, .ifCond .lt 9, 4, 10), (4, .iload_n 1, 5, 0), (5, .bipush 32, 7, 0), (7, .if_icmp .le 6, 10, 13), (10, .bipush (-2), 12, 0), (12, .ireturn, 13, 0), (13, .aload_n 0, 14, 0), (14, .getfield 19, 17, 0), (17, .aload_n 0, 18, 0), (18, .getfield 10, 21, 0), (21, .invokevirtual 60, 24, 0), (24, .aload_n 0, 25, 0), (25, .getfield 26, 28, 0), (28, .aload_n 0, 29, 0), (29, .getfield 10, 32, 0), (32, .invokevirtual 64, 35, 0), (35, .iconst 0, 36, 0), (36, .istore_n 2, 37, 0), (37, .iload_n 2, 38, 0), (38, .iload_n 1, 39, 0), (39, .if_icmp .ge 19, 42, 58), (42, .aload_n 0, 43, 0), (43, .invokevirtual 67, 46, 0), (46, .ifCond .ne 6, 49, 52), (49, .goto 9, 52, 58), (52, .iinc 2 1, 55, 0), (55, .goto (-18), 58, 37), (58, .aload_n 0, 59, 0), (59, .getfield 19, 62, 0), (62, .getfield 71, 65, 0), (65, .ireturn, 66, 0)]
theorem tX5_learn_ok : tabOk cX5_learn tX5_learn := by decide +kernel
def tX5_pair : TB := [(0, .aload_n 0, 1, 0), (1, .getfield 19, 4, 0), (4, .iload_n 1, 5, 0), (5, .invokevirtual 74, 8, 0), (8, .ifCond .ne 5, 11, 13), (11, .iconst (-1), 12, 0), (12, .ireturn, 13, 0), (13, .iload_n 2, 14, 0), (14, .ifCond .eq 11, 17, 25), (17, .iload_n 2, 18, 0), (18, .iconst 1, 19, 0), (19, .if_icmp .eq 6, 22, 25), (22, .bipush (-2), 24, 0), (24, .ireturn, 25, 0), (25, .iload_n 1, 26, 0), (26, .sipush 256, 29, 0), (29, .isub, 30, 0), (30, .istore_n 3, 31, 0), (31, .iload_n 2, 32, 0), (32, .ifCond .ne 15, 35, 47), (35, .aload_n 0, 36, 0), (36, .getfield 19, 39, 0), (39, .getfield 77, 42, 0), (42, .iload_n 3, 43, 0), (43, .iaload, 44, 0), (44, .goto 12, 47, 56), (47, .aload_n 0, 48, 0), (48, .getfield 19, 51, 0), (51, .getfield 80, 54, 0), (54, .iload_n 3, 55, 0), (55, .iaload, 56, 0), (56, .ireturn, 57, 0)]
theorem tX5_pair_ok : tabOk cX5_pair tX5_pair := by decide +kernel
def tX5_count : TB := [(0, .aload_n 0, 1, 0), (1, .getfield 19, 4, 0), (4, .iload_n 1, 5, 0), (5, .invokevirtual 74, 8, 0), (8, .ifCond .ne 5, 11, 13), (11, .iconst (-1), 12, 0), (12, .ireturn, 13, 0), (13, .aload_n 0, 14, 0), (14, .getfield 19, 17, 0), (17, .getfield 83, 20, 0), (20, .iload_n 1, 21, 0), (21, .sipush 256, 24, 0), (24, .isub, 25, 0), (25, .iaload, 26, 0), (26, .ireturn, 27, 0)]
theorem tX5_count_ok : tabOk cX5_count tX5_count := by decide +kernel
def tX5_size : TB := [(0, .aload_n 0, 1, 0), (1, .getfield 19, 4, 0), (4, .iload_n 1, 5, 0), (5, .invokevirtual 86, 8, 0), (8, .ifCond .ne 5, 11, 13), (11, .iconst (-1), 12, 0), (12, .ireturn, 13, 0), (13, .aload_n 0, 14, 0), (14, .getfield 19, 17, 0), (17, .iload_n 1, 18, 0), (18, .invokevirtual 89, 21, 0), (21, .ireturn, 22, 0)]
theorem tX5_size_ok : tabOk cX5_size tX5_size := by decide +kernel
def tX5_decode : TB := [(0, .aload_n 0, 1, 0), (1, .getfield 19, 4, 0), (4, .iload_n 1, 5, 0), (5, .invokevirtual 86, 8, 0), (8, .ifCond .ne 5, 11, 13), (11, .iconst (-1), 12, 0), (12, .ireturn, 13, 0), (13, .iload_n 2, 14, 0), (14, .ifCond .lt 15, 17, 29), (17, .iload_n 2, 18, 0), (18, .aload_n 0, 19, 0), (19, .getfield 19, 22, 0), (22, .iload_n 1, 23, 0), (23, .invokevirtual 89, 26, 0), (26, .if_icmp .lt 13, 29, 39), (29, .new 93, 32, 0), (32, .dup, 33, 0), (33, .ldc 95, 35, 0), (35, .invokespecial 97, 38, 0), (38, .athrow, 39, 0), (39, .aload_n 0, 40, 0), (40, .getfield 19, 43, 0), (43, .iload_n 1, 44, 0), (44, .iload_n 2, 45, 0), (45, .invokevirtual 100, 48, 0), (48, .ireturn, 49, 0)]
theorem tX5_decode_ok : tabOk cX5_decode tX5_decode := by decide +kernel
def tX5_tokens : TB := [(0, .aload_n 0, 1, 0), (1, .invokevirtual 104, 4, 0), (4, .aload_n 0, 5, 0), (5, .getfield 26, 8, 0), (8, .getfield 107, 11, 0), (11, .ireturn, 12, 0)]
theorem tX5_tokens_ok : tabOk cX5_tokens tX5_tokens := by decide +kernel
def tX5_at : TB := [(0, .aload_n 0, 1, 0), (1, .invokevirtual 104, 4, 0), (4, .iload_n 1, 5, 0), (5, .ifCond .lt 14, 8, 19), (8, .iload_n 1, 9, 0), (9, .aload_n 0, 10, 0), (10, .getfield 26, 13, 0), (13, .getfield 107, 16, 0), (16, .if_icmp .lt 5, 19, 21), (19, .iconst (-1), 20, 0), (20, .ireturn, 21, 0), (21, .aload_n 0, 22, 0), (22, .getfield 26, 25, 0), (25, .getfield 108, 28, 0), (28, .iload_n 1, 29, 0), (29, .iaload, 30, 0), (30, .ireturn, 31, 0)]
theorem tX5_at_ok : tabOk cX5_at tX5_at := by decide +kernel
def tX5_from : TB := [(0, .aload_n 0, 1, 0), (1, .invokevirtual 104, 4, 0), (4, .iload_n 1, 5, 0), (5, .ifCond .lt 14, 8, 19), (8, .iload_n 1, 9, 0), (9, .aload_n 0, 10, 0), (10, .getfield 26, 13, 0), (13, .getfield 107, 16, 0), (16, .if_icmp .lt 5, 19, 21), (19, .iconst (-1), 20, 0), (20, .ireturn, 21, 0), (21, .aload_n 0, 22, 0), (22, .getfield 26, 25, 0), (25, .getfield 111, 28, 0), (28, .iload_n 1, 29, 0), (29, .iaload, 30, 0), (30, .ireturn, 31, 0)]
theorem tX5_from_ok : tabOk cX5_from tX5_from := by decide +kernel
def tX5_points : TB := [(0, .aload_n 0, 1, 0), (1, .getfield 19, 4, 0), (4, .iload_n 1, 5, 0), (5, .invokevirtual 86, 8, 0), (8, .ifCond .ne 5, 11, 13), (11, .iconst (-1), 12, 0), (12, .ireturn, 13, 0), (13, .iload_n 2, 14, 0), (14, .bipush (-100), 16, 0), (16, .if_icmp .lt 9, 19, 25), (19, .iload_n 2, 20, 0), (20, .bipush 100, 22, 0), (22, .if_icmp .le 6, 25, 28), (25, .bipush (-2), 27, 0), (27, .ireturn, 28, 0), (28, .aload_n 0, 29, 0), (29, .getfield 19, 32, 0), (32, .getfield 114, 35, 0), (35, .iload_n 1, 36, 0), (36, .iload_n 2, 37, 0), (37, .iastore, 38, 0), (38, .iconst 1, 39, 0), (39, .ireturn, 40, 0)]
theorem tX5_points_ok : tabOk cX5_points tX5_points := by decide +kernel
def tX5_best : TB := [(0, .aload_n 0, 1, 0), (1, .getfield 40, 4, 0), (4, .aload_n 0, 5, 0), (5, .getfield 10, 8, 0), (8, .aload_n 0, 9, 0), (9, .getfield 19, 12, 0), (12, .invokevirtual 117, 15, 0), (15, .aload_n 0, 16, 0), (16, .getfield 40, 19, 0), (19, .getfield 121, 22, 0), (22, .iconst 0, 23, 0), (23, .iaload, 24, 0), (24, .ireturn, 25, 0)]
theorem tX5_best_ok : tabOk cX5_best tX5_best := by decide +kernel
def tX5_bestAt : TB := [(0, .aload_n 0, 1, 0), (1, .getfield 40, 4, 0), (4, .aload_n 0, 5, 0), (5, .getfield 10, 8, 0), (8, .aload_n 0, 9, 0), (9, .getfield 19, 12, 0), (12, .invokevirtual 117, 15, 0), (15, .iload_n 1, 16, 0), (16, .ifCond .lt 16, 19, 32), (19, .iload_n 1, 20, 0), (20, .aload_n 0, 21, 0), (21, .getfield 40, 24, 0), (24, .getfield 121, 27, 0), (27, .iconst 0, 28, 0), (28, .iaload, 29, 0), (29, .if_icmp .lt 5, 32, 34), (32, .iconst (-1), 33, 0), (33, .ireturn, 34, 0), (34, .aload_n 0, 35, 0), (35, .getfield 40, 38, 0), (38, .iload_n 1, 39, 0), (39, .aload_n 0, 40, 0), (40, .getfield 19, 43, 0), (43, .invokevirtual 124, 46, 0), (46, .ireturn, 47, 0)]
theorem tX5_bestAt_ok : tabOk cX5_bestAt tX5_bestAt := by decide +kernel
def tX5_sum : TB := [(0, .aload_n 0, 1, 0), (1, .getfield 40, 4, 0), (4, .aload_n 0, 5, 0), (5, .getfield 10, 8, 0), (8, .aload_n 0, 9, 0), (9, .getfield 19, 12, 0), (12, .invokevirtual 117, 15, 0), (15, .aload_n 0, 16, 0), (16, .getfield 40, 19, 0), (19, .getfield 128, 22, 0), (22, .iconst 0, 23, 0), (23, .iaload, 24, 0), (24, .ireturn, 25, 0)]
theorem tX5_sum_ok : tabOk cX5_sum tX5_sum := by decide +kernel
def tX5_ways : TB := [(0, .aload_n 0, 1, 0), (1, .getfield 40, 4, 0), (4, .aload_n 0, 5, 0), (5, .getfield 10, 8, 0), (8, .aload_n 0, 9, 0), (9, .getfield 19, 12, 0), (12, .invokevirtual 117, 15, 0), (15, .aload_n 0, 16, 0), (16, .getfield 40, 19, 0), (19, .getfield 131, 22, 0), (22, .iconst 0, 23, 0), (23, .iaload, 24, 0), (24, .ireturn, 25, 0)]
theorem tX5_ways_ok : tabOk cX5_ways tX5_ways := by decide +kernel
def tX5_learnNext_r0 : TB := [(0, .aload_n 0, 1, 0), (1, .getfield 33, 4, 0), (4, .aload_n 0, 5, 0), (5, .getfield 26, 8, 0), (8, .invokevirtual 134, 11, 0), (11, .aload_n 0, 12, 0), (12, .getfield 33, 15, 0), (15, .invokevirtual 138, 18, 0), (18, .istore_n 1, 19, 0), (19, .iload_n 1, 20, 0), (20, .ifCond .lt 28, 23, 48), (23, .aload_n 0, 24, 0), (24, .getfield 33, 27, 0), (27, .getfield 142, 30, 0), (30, .iload_n 1, 31, 0), (31, .iaload, 32, 0), (32, .iconst 2, 33, 0), (33, .if_icmp .lt 15, 36, 48), (36, .aload_n 0, 37, 0), (37, .getfield 19, 40, 0), (40, .getfield 71, 43, 0), (43, .bipush 32, 45, 0), (45, .if_icmp .lt 5, 48, 50), (48, .iconst 0, 49, 0), (49, .ireturn, 50, 0), (50, .aload_n 0, 51, 0), (51, .getfield 33, 54, 0), (54, .getfield 143, 57, 0), (57, .iload_n 1, 58, 0), (58, .iaload, 59, 0), (59, .sipush 512, 62, 0), (62, .idiv, 63, 0), (63, .istore_n 2, 64, 0), (64, .aload_n 0, 65, 0), (65, .getfield 33, 68, 0), (68, .getfield 143, 71, 0), (71, .iload_n 1, 72, 0), (72, .iaload, 73, 0), (73, .sipush 512, 76, 0), (76, .irem, 77, 0), (77, .istore_n 3, 78, 0), (78, .sipush 256, 81, 0), (81, .aload_n 0, 82, 0), (82, .getfield 19, 85, 0), (85, .getfield 71, 88, 0), (88, .iadd, 89, 0), (89, .istore 4, 91, 0), (91, .aload_n 0, 92, 0), (92, .getfield 19, 95, 0), (95, .iload_n 2, 96, 0), (96, .iload_n 3, 97, 0), (97, .aload_n 0, 98, 0), (98, .getfield 33, 101, 0), (101, .getfield 142, 104, 0), (104, .iload_n 1, 105, 0), (105, .iaload, 106, 0), (106, .aload_n 0, 107, 0), (107, .getfield 33, 110, 0), (110, .getfield 146, 113, 0), (113, .iload_n 1, 114, 0)]
theorem tX5_learnNext_r0_ok : tabOk cX5_learnNext tX5_learnNext_r0 := by decide +kernel
def tX5_learnNext_r1 : TB := [(114, .iaload, 115, 0), (115, .invokevirtual 149, 118, 0), (118, .aload_n 0, 119, 0), (119, .getfield 26, 122, 0), (122, .iload_n 2, 123, 0), (123, .iload_n 3, 124, 0), (124, .iload 4, 126, 0), (126, .invokevirtual 153, 129, 0), (129, .iconst 1, 130, 0), (130, .ireturn, 131, 0)]
theorem tX5_learnNext_r1_ok : tabOk cX5_learnNext tX5_learnNext_r1 := by decide +kernel
def tX5_learnNext : TB := tX5_learnNext_r0 ++ (tX5_learnNext_r1)
theorem tX5_learnNext_ok : tabOk cX5_learnNext tX5_learnNext := List.forall_mem_append.mpr ⟨tX5_learnNext_r0_ok, tX5_learnNext_r1_ok⟩
def tX5_tellText : TB := [(0, .aload_n 0, 1, 0), (1, .getfield 26, 4, 0), (4, .aload_n 0, 5, 0), (5, .getfield 10, 8, 0), (8, .invokevirtual 64, 11, 0), (11, .iconst 0, 12, 0), (12, .istore_n 1, 13, 0), (13, .iload_n 1, 14, 0), (14, .aload_n 0, 15, 0), (15, .getfield 19, 18, 0), (18, .getfield 71, 21, 0), (21, .if_icmp .ge 39, 24, 60), (24, .aload_n 0, 25, 0), (25, .getfield 26, 28, 0), (28, .aload_n 0, 29, 0), (29, .getfield 19, 32, 0), (32, .getfield 77, 35, 0), (35, .iload_n 1, 36, 0), (36, .iaload, 37, 0), (37, .aload_n 0, 38, 0), (38, .getfield 19, 41, 0), (41, .getfield 80, 44, 0), (44, .iload_n 1, 45, 0), (45, .iaload, 46, 0), (46, .sipush 256, 49, 0), (49, .iload_n 1, 50, 0), (50, .iadd, 51, 0), (51, .invokevirtual 153, 54, 0), (54, .iinc 1 1, 57, 0), (57, .goto (-44), 60, 13), (60, .return_, 61, 0)]
theorem tX5_tellText_ok : tabOk cX5_tellText tX5_tellText := by decide +kernel
def tX6_init_r0 : TB := [(0, .aload_n 0, 1, 0), (1, .invokespecial 1, 4, 0), (4, .aload_n 0, 5, 0), (5, .bipush 120, 7, 0), (7, .newarray .int, 9, 0), (9, .putfield 7, 12, 0), (12, .aload_n 0, 13, 0), (13, .bipush 32, 15, 0), (15, .newarray .int, 17, 0), (17, .putfield 13, 20, 0), (20, .aload_n 0, 21, 0), (21, .bipush 32, 23, 0), (23, .newarray .int, 25, 0), (25, .putfield 16, 28, 0), (28, .aload_n 0, 29, 0), (29, .bipush 32, 31, 0), (31, .newarray .int, 33, 0), (33, .putfield 19, 36, 0), (36, .aload_n 0, 37, 0), (37, .bipush 32, 39, 0), (39, .newarray .int, 41, 0), (41, .putfield 22, 44, 0), (44, .aload_n 0, 45, 0), (45, .sipush 3840, 48, 0), (48, .newarray .int, 50, 0), (50, .putfield 25, 53, 0), (53, .aload_n 0, 54, 0), (54, .sipush 288, 57, 0), (57, .newarray .int, 59, 0), (59, .putfield 28, 62, 0), (62, .aload_n 0, 63, 0), (63, .bipush 120, 65, 0), (65, .newarray .int, 67, 0), (67, .putfield 31, 70, 0), (70, .aload_n 0, 71, 0), (71, .bipush 120, 73, 0), (73, .newarray .int, 75, 0), (75, .putfield 34, 78, 0), (78, .aload_n 0, 79, 0), (79, .bipush 121, 81, 0), (81, .newarray .int, 83, 0), (83, .putfield 37, 86, 0), (86, .aload_n 0, 87, 0), (87, .bipush 121, 89, 0), (89, .newarray .int, 91, 0), (91, .putfield 40, 94, 0), (94, .aload_n 0, 95, 0), (95, .sipush 14520, 98, 0), (98, .newarray .int, 100, 0), (100, .putfield 43, 103, 0), (103, .aload_n 0, 104, 0), (104, .bipush 121, 106, 0), (106, .newarray .int, 108, 0), (108, .putfield 46, 111, 0), (111, .iconst 0, 112, 0), (112, .istore_n 1, 113, 0), (113, .iload_n 1, 114, 0), (114, .sipush 256, 117, 0), (117, .if_icmp .ge 17, 120, 134), (120, .aload_n 0, 121, 0)]
theorem tX6_init_r0_ok : tabOk cX6_init tX6_init_r0 := by decide +kernel
def tX6_init_r1 : TB := [(121, .getfield 28, 124, 0), (124, .iload_n 1, 125, 0), (125, .bipush (-10), 127, 0), (127, .iastore, 128, 0), (128, .iinc 1 1, 131, 0), (131, .goto (-18), 134, 113), (134, .return_, 135, 0)]
theorem tX6_init_r1_ok : tabOk cX6_init tX6_init_r1 := by decide +kernel
def tX6_init : TB := tX6_init_r0 ++ (tX6_init_r1)
theorem tX6_init_ok : tabOk cX6_init tX6_init := List.forall_mem_append.mpr ⟨tX6_init_r0_ok, tX6_init_r1_ok⟩
def tX6_thrown : TB := [(0, .aload_n 0, 1, 0), (1, .getfield 49, 4, 0), (4, .ireturn, 5, 0)]
theorem tX6_thrown_ok : tabOk cX6_thrown tX6_thrown := by decide +kernel
def tX6_in : TB := [(0, .iload_n 0, 1, 0), (1, .iload_n 1, 2, 0), (2, .if_icmp .lt 12, 5, 14), (5, .iload_n 0, 6, 0), (6, .iload_n 2, 7, 0), (7, .if_icmp .gt 7, 10, 14), (10, .iconst 1, 11, 0), (11, .goto 4, 14, 15), (14, .iconst 0, 15, 0), (15, .ireturn, 16, 0)]
theorem tX6_in_ok : tabOk cX6_in tX6_in := by decide +kernel
def tX6_octet : TB := [(0, .aload_n 0, 1, 0), (1, .iconst 0, 2, 0), (2, .putfield 49, 5, 0), (5, .iload_n 1, 6, 0), (6, .iconst 0, 7, 0), (7, .sipush 255, 10, 0), (10, .invokestatic 53, 13, 0), (13, .ifCond .ne 6, 16, 19), (16, .bipush (-2), 18, 0), (18, .ireturn, 19, 0), (19, .aload_n 0, 20, 0), (20, .getfield 57, 23, 0), (23, .bipush 120, 25, 0), (25, .if_icmp .ne 6, 28, 31), (28, .bipush (-4), 30, 0), (30, .ireturn, 31, 0), (31, .aload_n 0, 32, 0), (32, .getfield 7, 35, 0), (35, .aload_n 0, 36, 0), (36, .getfield 57, 39, 0), (39, .iload_n 1, 40, 0), (40, .iastore, 41, 0), (41, .aload_n 0, 42, 0), (42, .dup, 43, 0), (43, .getfield 57, 46, 0), (46, .iconst 1, 47, 0), (47, .iadd, 48, 0), (48, .putfield 57, 51, 0), (51, .aload_n 0, 52, 0), (52, .getfield 57, 55, 0), (55, .ireturn, 56, 0)]
theorem tX6_octet_ok : tabOk cX6_octet tX6_octet := by decide +kernel
def tX6_cut : TB := [(0, .aload_n 0, 1, 0), (1, .iconst 0, 2, 0), (2, .putfield 49, 5, 0), (5, .iload_n 1, 6, 0), (6, .iconst 0, 7, 0), (7, .aload_n 0, 8, 0), (8, .getfield 57, 11, 0), (11, .invokestatic 53, 14, 0), (14, .ifCond .ne 6, 17, 20), (17, .bipush (-2), 19, 0), (19, .ireturn, 20, 0), (20, .aload_n 0, 21, 0), (21, .getfield 57, 24, 0), (24, .istore_n 2, 25, 0), (25, .aload_n 0, 26, 0), (26, .iload_n 1, 27, 0), (27, .putfield 57, 30, 0), (30, .iload_n 2, 31, 0), (31, .ireturn, 32, 0)]
theorem tX6_cut_ok : tabOk cX6_cut tX6_cut := by decide +kernel
def tX6_byteAt : TB := [(0, .aload_n 0, 1, 0), (1, .iconst 0, 2, 0), (2, .putfield 49, 5, 0), (5, .iload_n 1, 6, 0), (6, .iconst 0, 7, 0), (7, .aload_n 0, 8, 0), (8, .getfield 57, 11, 0), (11, .iconst 1, 12, 0), (12, .isub, 13, 0), (13, .invokestatic 53, 16, 0), (16, .ifCond .eq 12, 19, 28), (19, .aload_n 0, 20, 0), (20, .getfield 7, 23, 0), (23, .iload_n 1, 24, 0), (24, .iaload, 25, 0), (25, .goto 4, 28, 29), (28, .iconst (-1), 29, 0), (29, .ireturn, 30, 0)]
theorem tX6_byteAt_ok : tabOk cX6_byteAt tX6_byteAt := by decide +kernel
def tX6_beginsWord : TB := [(0, .iload_n 1, 1, 0), (1, .ifCond .eq 27, 4, 28), (4, .aload_n 0, 5, 0), (5, .getfield 7, 8, 0), (8, .iload_n 1, 9, 0), (9, .iaload, 10, 0), (10, .bipush 32, 12, 0), (12, .if_icmp .ne 20, 15, 32), (15, .aload_n 0, 16, 0), (16, .getfield 7, 19, 0), (19, .iload_n 1, 20, 0), (20, .iconst 1, 21, 0), (21, .isub, 22, 0), (22, .iaload, 23, 0), (23, .bipush 32, 25, 0), (25, .if_icmp .eq 7, 28, 32), (28, .iconst 1, 29, 0), (29, .goto 4, 32, 33), (32, .iconst 0, 33, 0), (33, .ireturn, 34, 0)]
theorem tX6_beginsWord_ok : tabOk cX6_beginsWord tX6_beginsWord := by decide +kernel
def tX6_words : TB := [(0, .aload_n 0, 1, 0), (1, .iconst 0, 2, 0), (2, .putfield 49, 5, 0), (5, .iconst 0, 6, 0), (6, .istore_n 1, 7, 0), (7, .iconst 0, 8, 0), (8, .istore_n 2, 9, 0), (9, .iload_n 2, 10, 0), (10, .aload_n 0, 11, 0), (11, .getfield 57, 14, 0), (14, .if_icmp .ge 25, 17, 39), (17, .iload_n 1, 18, 0), (18, .aload_n 0, 19, 0), (19, .iload_n 2, 20, 0), (20, .invokevirtual 60, 23, 0), (23, .ifCond .eq 7, 26, 30), (26, .iconst 1, 27, 0), (27, .goto 4, 30, 31), (30, .iconst 0, 31, 0), (31, .iadd, 32, 0), (32, .istore_n 1, 33, 0), (33, .iinc 2 1, 36, 0), (36, .goto (-27), 39, 9), (39, .iload_n 1, 40, 0), (40, .ireturn, 41, 0)]
theorem tX6_words_ok : tabOk cX6_words tX6_words := by decide +kernel
def tX6_layBytes : TB := [(0, .aload_n 0, 1, 0), (1, .aload_n 0, 2, 0), (2, .getfield 57, 5, 0), (5, .putfield 64, 8, 0), (8, .iconst 0, 9, 0), (9, .istore_n 1, 10, 0), (10, .iload_n 1, 11, 0), (11, .aload_n 0, 12, 0), (12, .getfield 57, 15, 0), (15, .if_icmp .ge 28, 18, 43), (18, .aload_n 0, 19, 0), (19, .getfield 31, 22, 0), (22, .iload_n 1, 23, 0), (23, .aload_n 0, 24, 0), (24, .getfield 7, 27, 0), (27, .iload_n 1, 28, 0), (28, .iaload, 29, 0), (29, .iastore, 30, 0), (30, .aload_n 0, 31, 0), (31, .getfield 34, 34, 0), (34, .iload_n 1, 35, 0), (35, .iload_n 1, 36, 0), (36, .iastore, 37, 0), (37, .iinc 1 1, 40, 0), (40, .goto (-30), 43, 10), (43, .return_, 44, 0)]
theorem tX6_layBytes_ok : tabOk cX6_layBytes tX6_layBytes := by decide +kernel
def tX6_isPair : TB := [(0, .iload_n 1, 1, 0), (1, .iconst 1, 2, 0), (2, .iadd, 3, 0), (3, .aload_n 0, 4, 0), (4, .getfield 64, 7, 0), (7, .if_icmp .ge 44, 10, 51), (10, .aload_n 0, 11, 0), (11, .getfield 31, 14, 0), (14, .iload_n 1, 15, 0), (15, .iaload, 16, 0), (16, .iload_n 2, 17, 0), (17, .if_icmp .ne 34, 20, 51), (20, .aload_n 0, 21, 0), (21, .getfield 31, 24, 0), (24, .iload_n 1, 25, 0), (25, .iconst 1, 26, 0), (26, .iadd, 27, 0), (27, .iaload, 28, 0), (28, .iload_n 3, 29, 0), (29, .if_icmp .ne 22, 32, 51), (32, .aload_n 0, 33, 0), (33, .aload_n 0, 34, 0), (34, .getfield 34, 37, 0), (37, .iload_n 1, 38, 0), (38, .iconst 1, 39, 0), (39, .iadd, 40, 0), (40, .iaload, 41, 0), (41, .invokevirtual 60, 44, 0), (44, .ifCond .ne 7, 47, 51), (47, .iconst 1, 48, 0), (48, .goto 4, 51, 52), (51, .iconst 0, 52, 0), (52, .ireturn, 53, 0)]
theorem tX6_isPair_ok : tabOk cX6_isPair tX6_isPair := by decide +kernel
def tX6_join : TB := [(0, .iconst 0, 1, 0), (1, .istore 4, 3, 0), (3, .iconst 0, 4, 0), (4, .istore 5, 6, 0), (6, .iload 5, 8, 0), (8, .aload_n 0, 9, 0), (9, .getfield 64, 12, 0), (12, .if_icmp .ge 75, 15, 87), (15, .aload_n 0, 16, 0), (16, .iload 5, 18, 0), (18, .iload_n 1, 19, 0), (19, .iload_n 2, 20, 0), (20, .invokevirtual 67, 23, 0), (23, .istore 6, 25, 0), (25, .aload_n 0, 26, 0), (26, .getfield 34, 29, 0), (29, .iload 5, 31, 0), (31, .iaload, 32, 0), (32, .istore 7, 34, 0), (34, .aload_n 0, 35, 0), (35, .getfield 31, 38, 0), (38, .iload 4, 40, 0), (40, .iload 6, 42, 0), (42, .ifCond .eq 7, 45, 49), (45, .iload_n 3, 46, 0), (46, .goto 10, 49, 56), (49, .aload_n 0, 50, 0), (50, .getfield 31, 53, 0), (53, .iload 5, 55, 0), (55, .iaload, 56, 0), (56, .iastore, 57, 0), (57, .aload_n 0, 58, 0), (58, .getfield 34, 61, 0), (61, .iload 4, 63, 0), (63, .iload 7, 65, 0), (65, .iastore, 66, 0), (66, .iinc 4 1, 69, 0), (69, .iload 5, 71, 0), (71, .iload 6, 73, 0), (73, .ifCond .eq 7, 76, 80), (76, .iconst 2, 77, 0), (77, .goto 4, 80, 81), (80, .iconst 1, 81, 0), (81, .iadd, 82, 0), (82, .istore 5, 84, 0), (84, .goto (-78), 87, 6), (87, .aload_n 0, 88, 0), (88, .iload 4, 90, 0), (90, .putfield 64, 93, 0), (93, .return_, 94, 0)]
theorem tX6_join_ok : tabOk cX6_join tX6_join := by decide +kernel
def tX6_sizeOf : TB := [(0, .iload_n 1, 1, 0), (1, .sipush 256, 4, 0), (4, .if_icmp .ge 7, 7, 11), (7, .iconst 1, 8, 0), (8, .goto 13, 11, 21), (11, .aload_n 0, 12, 0), (12, .getfield 22, 15, 0), (15, .iload_n 1, 16, 0), (16, .sipush 256, 19, 0), (19, .isub, 20, 0), (20, .iaload, 21, 0), (21, .ireturn, 22, 0)]
theorem tX6_sizeOf_ok : tabOk cX6_sizeOf tX6_sizeOf := by decide +kernel
def tX6_byteOf : TB := [(0, .iload_n 1, 1, 0), (1, .sipush 256, 4, 0), (4, .if_icmp .ge 7, 7, 11), (7, .iload_n 1, 8, 0), (8, .goto 18, 11, 26), (11, .aload_n 0, 12, 0), (12, .getfield 25, 15, 0), (15, .bipush 120, 17, 0), (17, .iload_n 1, 18, 0), (18, .sipush 256, 21, 0), (21, .isub, 22, 0), (22, .imul, 23, 0), (23, .iload_n 2, 24, 0), (24, .iadd, 25, 0), (25, .iaload, 26, 0), (26, .ireturn, 27, 0)]
theorem tX6_byteOf_ok : tabOk cX6_byteOf tX6_byteOf := by decide +kernel
def tX6_keep_r0 : TB := [(0, .aload_n 0, 1, 0), (1, .getfield 70, 4, 0), (4, .istore 4, 6, 0), (6, .aload_n 0, 7, 0), (7, .getfield 13, 10, 0), (10, .iload 4, 12, 0), (12, .iload_n 1, 13, 0), (13, .iastore, 14, 0), (14, .aload_n 0, 15, 0), (15, .getfield 16, 18, 0), (18, .iload 4, 20, 0), (20, .iload_n 2, 21, 0), (21, .iastore, 22, 0), (22, .aload_n 0, 23, 0), (23, .getfield 19, 26, 0), (26, .iload 4, 28, 0), (28, .iload_n 3, 29, 0), (29, .iastore, 30, 0), (30, .aload_n 0, 31, 0), (31, .iload_n 1, 32, 0), (32, .invokevirtual 73, 35, 0), (35, .istore 5, 37, 0), (37, .aload_n 0, 38, 0), (38, .getfield 22, 41, 0), (41, .iload 4, 43, 0), (43, .iload 5, 45, 0), (45, .aload_n 0, 46, 0), (46, .iload_n 2, 47, 0), (47, .invokevirtual 73, 50, 0), (50, .iadd, 51, 0), (51, .iastore, 52, 0), (52, .iconst 0, 53, 0), (53, .istore 6, 55, 0), (55, .iload 6, 57, 0), (57, .aload_n 0, 58, 0), (58, .getfield 22, 61, 0), (61, .iload 4, 63, 0), (63, .iaload, 64, 0), (64, .if_icmp .ge 49, 67, 113), (67, .aload_n 0, 68, 0), (68, .getfield 25, 71, 0), (71, .bipush 120, 73, 0), (73, .iload 4, 75, 0), (75, .imul, 76, 0), (76, .iload 6, 78, 0), (78, .iadd, 79, 0), (79, .iload 6, 81, 0), (81, .iload 5, 83, 0), (83, .if_icmp .ge 13, 86, 96), (86, .aload_n 0, 87, 0), (87, .iload_n 1, 88, 0), (88, .iload 6, 90, 0), (90, .invokevirtual 77, 93, 0), (93, .goto 13, 96, 106), (96, .aload_n 0, 97, 0), (97, .iload_n 2, 98, 0), (98, .iload 6, 100, 0), (100, .iload 5, 102, 0), (102, .isub, 103, 0), (103, .invokevirtual 77, 106, 0)]
theorem tX6_keep_r0_ok : tabOk cX6_keep tX6_keep_r0 := by decide +kernel
def tX6_keep_r1 : TB := [(106, .iastore, 107, 0), (107, .iinc 6 1, 110, 0), (110, .goto (-55), 113, 55), (113, .aload_n 0, 114, 0), (114, .getfield 28, 117, 0), (117, .sipush 256, 120, 0), (120, .iload 4, 122, 0), (122, .iadd, 123, 0), (123, .aload_n 0, 124, 0), (124, .getfield 22, 127, 0), (127, .iload 4, 129, 0), (129, .iaload, 130, 0), (130, .iastore, 131, 0), (131, .aload_n 0, 132, 0), (132, .dup, 133, 0), (133, .getfield 70, 136, 0), (136, .iconst 1, 137, 0), (137, .iadd, 138, 0), (138, .putfield 70, 141, 0), (141, .return_, 142, 0)]
theorem tX6_keep_r1_ok : tabOk cX6_keep tX6_keep_r1 := by decide +kernel
def tX6_keep : TB := tX6_keep_r0 ++ (tX6_keep_r1)
theorem tX6_keep_ok : tabOk cX6_keep tX6_keep := List.forall_mem_append.mpr ⟨tX6_keep_r0_ok, tX6_keep_r1_ok⟩
def tX6_countOf : TB := [(0, .iconst 0, 1, 0), (1, .istore_n 3, 2, 0), (2, .iconst 0, 3, 0), (3, .istore 4, 5, 0), (5, .iload 4, 7, 0), (7, .aload_n 0, 8, 0), (8, .getfield 64, 11, 0), (11, .if_icmp .ge 28, 14, 39), (14, .iload_n 3, 15, 0), (15, .aload_n 0, 16, 0), (16, .iload 4, 18, 0), (18, .iload_n 1, 19, 0), (19, .iload_n 2, 20, 0), (20, .invokevirtual 67, 23, 0), (23, .ifCond .eq 7, 26, 30), (26, .iconst 1, 27, 0), (27, .goto 4, 30, 31), (30, .iconst 0, 31, 0), (31, .iadd, 32, 0), (32, .istore_n 3, 33, 0), (33, .iinc 4 1, 36, 0), (36, .goto (-31), 39, 5), (39, .iload_n 3, 40, 0), (40, .ireturn, 41, 0)]
theorem tX6_countOf_ok : tabOk cX6_countOf tX6_countOf := by decide +kernel
def tX6_learn_r0 : TB := [(0, .aload_n 0, 1, 0), (1, .iconst 0, 2, 0), (2, .putfield 49, 5, 0), (5, .iload_n 1, 6, 0), (6, .iconst 0, 7, 0), (7, .bipush 32, 9, 0), (9, .invokestatic 53, 12, 0), (12, .ifCond .ne 6, 15, 18), (15, .bipush (-2), 17, 0), (17, .ireturn, 18, 0), (18, .aload_n 0, 19, 0), (19, .iconst 0, 20, 0), (20, .putfield 70, 23, 0), (23, .aload_n 0, 24, 0), (24, .invokevirtual 81, 27, 0), (27, .iconst 1, 28, 0), (28, .istore_n 2, 29, 0), (29, .iload_n 2, 30, 0), (30, .ifCond .eq 236, 33, 266), (33, .aload_n 0, 34, 0), (34, .getfield 70, 37, 0), (37, .iload_n 1, 38, 0), (38, .if_icmp .ge 228, 41, 266), (41, .iconst (-1), 42, 0), (42, .istore_n 3, 43, 0), (43, .iconst 1, 44, 0), (44, .istore 4, 46, 0), (46, .iconst 0, 47, 0), (47, .istore 5, 49, 0), (49, .iload 5, 51, 0), (51, .iconst 1, 52, 0), (52, .iadd, 53, 0), (53, .aload_n 0, 54, 0), (54, .getfield 64, 57, 0), (57, .if_icmp .ge 148, 60, 205), (60, .aload_n 0, 61, 0), (61, .iload 5, 63, 0), (63, .aload_n 0, 64, 0), (64, .getfield 31, 67, 0), (67, .iload 5, 69, 0), (69, .iaload, 70, 0), (70, .aload_n 0, 71, 0), (71, .getfield 31, 74, 0), (74, .iload 5, 76, 0), (76, .iconst 1, 77, 0), (77, .iadd, 78, 0), (78, .iaload, 79, 0), (79, .invokevirtual 67, 82, 0), (82, .ifCond .ne 6, 85, 88), (85, .goto 114, 88, 199), (88, .aload_n 0, 89, 0), (89, .aload_n 0, 90, 0), (90, .getfield 31, 93, 0), (93, .iload 5, 95, 0), (95, .iaload, 96, 0), (96, .aload_n 0, 97, 0), (97, .getfield 31, 100, 0), (100, .iload 5, 102, 0), (102, .iconst 1, 103, 0), (103, .iadd, 104, 0)]
theorem tX6_learn_r0_ok : tabOk cX6_learn tX6_learn_r0 := by decide +kernel
def tX6_learn_r1 : TB := [(104, .iaload, 105, 0), (105, .invokevirtual 84, 108, 0), (108, .istore 6, 110, 0), (110, .iload_n 3, 111, 0), (111, .ifCond .lt 59, 114, 170), (114, .aload_n 0, 115, 0), (115, .getfield 31, 118, 0), (118, .iload 5, 120, 0), (120, .iaload, 121, 0), (121, .aload_n 0, 122, 0), (122, .getfield 31, 125, 0), (125, .iload_n 3, 126, 0), (126, .iaload, 127, 0), (127, .if_icmp .lt 39, 130, 166), (130, .aload_n 0, 131, 0), (131, .getfield 31, 134, 0), (134, .iload 5, 136, 0), (136, .iaload, 137, 0), (137, .aload_n 0, 138, 0), (138, .getfield 31, 141, 0), (141, .iload_n 3, 142, 0), (142, .iaload, 143, 0), (143, .if_icmp .ne 27, 146, 170), (146, .aload_n 0, 147, 0), (147, .getfield 31, 150, 0), (150, .iload 5, 152, 0), (152, .iconst 1, 153, 0), (153, .iadd, 154, 0), (154, .iaload, 155, 0), (155, .aload_n 0, 156, 0), (156, .getfield 31, 159, 0), (159, .iload_n 3, 160, 0), (160, .iconst 1, 161, 0), (161, .iadd, 162, 0), (162, .iaload, 163, 0), (163, .if_icmp .ge 7, 166, 170), (166, .iconst 1, 167, 0), (167, .goto 4, 170, 171), (170, .iconst 0, 171, 0), (171, .istore 7, 173, 0), (173, .iload 6, 175, 0), (175, .iload 4, 177, 0), (177, .if_icmp .gt 15, 180, 192), (180, .iload 6, 182, 0), (182, .iload 4, 184, 0), (184, .if_icmp .ne 15, 187, 199), (187, .iload 7, 189, 0), (189, .ifCond .eq 10, 192, 199), (192, .iload 5, 194, 0), (194, .istore_n 3, 195, 0), (195, .iload 6, 197, 0), (197, .istore 4, 199, 0), (199, .iinc 5 1, 202, 0), (202, .goto (-153), 205, 49), (205, .iload_n 3, 206, 0), (206, .ifCond .lt 7, 209, 213), (209, .iconst 1, 210, 0), (210, .goto 4, 213, 214), (213, .iconst 0, 214, 0), (214, .istore_n 2, 215, 0)]
theorem tX6_learn_r1_ok : tabOk cX6_learn tX6_learn_r1 := by decide +kernel
def tX6_learn_r2 : TB := [(215, .iload_n 2, 216, 0), (216, .ifCond .eq 47, 219, 263), (219, .aload_n 0, 220, 0), (220, .getfield 31, 223, 0), (223, .iload_n 3, 224, 0), (224, .iaload, 225, 0), (225, .istore 5, 227, 0), (227, .aload_n 0, 228, 0), (228, .getfield 31, 231, 0), (231, .iload_n 3, 232, 0), (232, .iconst 1, 233, 0), (233, .iadd, 234, 0), (234, .iaload, 235, 0), (235, .istore 6, 237, 0), (237, .aload_n 0, 238, 0), (238, .iload 5, 240, 0), (240, .iload 6, 242, 0), (242, .iload 4, 244, 0), (244, .invokevirtual 87, 247, 0), (247, .aload_n 0, 248, 0), (248, .iload 5, 250, 0), (250, .iload 6, 252, 0), (252, .sipush 255, 255, 0), (255, .aload_n 0, 256, 0), (256, .getfield 70, 259, 0), (259, .iadd, 260, 0), (260, .invokevirtual 91, 263, 0), (263, .goto (-234), 266, 29), (266, .aload_n 0, 267, 0), (267, .getfield 70, 270, 0), (270, .ireturn, 271, 0)]
theorem tX6_learn_r2_ok : tabOk cX6_learn tX6_learn_r2 := by decide +kernel
def tX6_learn : TB := tX6_learn_r0 ++ (tX6_learn_r1 ++ (tX6_learn_r2))
theorem tX6_learn_ok : tabOk cX6_learn tX6_learn := List.forall_mem_append.mpr ⟨tX6_learn_r0_ok, List.forall_mem_append.mpr ⟨tX6_learn_r1_ok, tX6_learn_r2_ok⟩⟩
def tX6_isLearned : TB := [(0, .iload_n 1, 1, 0), (1, .sipush 256, 4, 0), (4, .sipush 255, 7, 0), (7, .aload_n 0, 8, 0), (8, .getfield 70, 11, 0), (11, .iadd, 12, 0), (12, .invokestatic 53, 15, 0), (15, .ireturn, 16, 0)]
theorem tX6_isLearned_ok : tabOk cX6_isLearned tX6_isLearned := by decide +kernel
def tX6_isToken : TB := [(0, .iload_n 1, 1, 0), (1, .iconst 0, 2, 0), (2, .sipush 255, 5, 0), (5, .aload_n 0, 6, 0), (6, .getfield 70, 9, 0), (9, .iadd, 10, 0), (10, .invokestatic 53, 13, 0), (13, .ireturn, 14, 0)]
theorem tX6_isToken_ok : tabOk cX6_isToken tX6_isToken := by decide +kernel
def tX6_pair : TB := [(0, .aload_n 0, 1, 0), (1, .iconst 0, 2, 0), (2, .putfield 49, 5, 0), (5, .aload_n 0, 6, 0), (6, .iload_n 1, 7, 0), (7, .invokevirtual 94, 10, 0), (10, .ifCond .ne 5, 13, 15), (13, .iconst (-1), 14, 0), (14, .ireturn, 15, 0), (15, .iload_n 2, 16, 0), (16, .ifCond .ne 16, 19, 32), (19, .aload_n 0, 20, 0), (20, .getfield 13, 23, 0), (23, .iload_n 1, 24, 0), (24, .sipush 256, 27, 0), (27, .isub, 28, 0), (28, .iaload, 29, 0), (29, .goto 23, 32, 52), (32, .iload_n 2, 33, 0), (33, .iconst 1, 34, 0), (34, .if_icmp .ne 16, 37, 50), (37, .aload_n 0, 38, 0), (38, .getfield 16, 41, 0), (41, .iload_n 1, 42, 0), (42, .sipush 256, 45, 0), (45, .isub, 46, 0), (46, .iaload, 47, 0), (47, .goto 5, 50, 52), (50, .bipush (-2), 52, 0), (52, .ireturn, 53, 0)]
theorem tX6_pair_ok : tabOk cX6_pair tX6_pair := by decide +kernel
def tX6_count : TB := [(0, .aload_n 0, 1, 0), (1, .iconst 0, 2, 0), (2, .putfield 49, 5, 0), (5, .aload_n 0, 6, 0), (6, .iload_n 1, 7, 0), (7, .invokevirtual 94, 10, 0), (10, .ifCond .eq 16, 13, 26), (13, .aload_n 0, 14, 0), (14, .getfield 19, 17, 0), (17, .iload_n 1, 18, 0), (18, .sipush 256, 21, 0), (21, .isub, 22, 0), (22, .iaload, 23, 0), (23, .goto 4, 26, 27), (26, .iconst (-1), 27, 0), (27, .ireturn, 28, 0)]
theorem tX6_count_ok : tabOk cX6_count tX6_count := by decide +kernel
def tX6_size : TB := [(0, .aload_n 0, 1, 0), (1, .iconst 0, 2, 0), (2, .putfield 49, 5, 0), (5, .aload_n 0, 6, 0), (6, .iload_n 1, 7, 0), (7, .invokevirtual 97, 10, 0), (10, .ifCond .eq 11, 13, 21), (13, .aload_n 0, 14, 0), (14, .iload_n 1, 15, 0), (15, .invokevirtual 73, 18, 0), (18, .goto 4, 21, 22), (21, .iconst (-1), 22, 0), (22, .ireturn, 23, 0)]
theorem tX6_size_ok : tabOk cX6_size tX6_size := by decide +kernel
def tX6_decode : TB := [(0, .aload_n 0, 1, 0), (1, .iconst 0, 2, 0), (2, .putfield 49, 5, 0), (5, .aload_n 0, 6, 0), (6, .iload_n 1, 7, 0), (7, .invokevirtual 97, 10, 0), (10, .ifCond .ne 5, 13, 15), (13, .iconst (-1), 14, 0), (14, .ireturn, 15, 0), (15, .iload_n 2, 16, 0), (16, .iconst 0, 17, 0), (17, .aload_n 0, 18, 0), (18, .iload_n 1, 19, 0), (19, .invokevirtual 73, 22, 0), (22, .iconst 1, 23, 0), (23, .isub, 24, 0), (24, .invokestatic 53, 27, 0), (27, .ifCond .ne 10, 30, 37), (30, .aload_n 0, 31, 0), (31, .iconst 1, 32, 0), (32, .putfield 49, 35, 0), (35, .iconst 0, 36, 0), (36, .ireturn, 37, 0), (37, .aload_n 0, 38, 0), (38, .iload_n 1, 39, 0), (39, .iload_n 2, 40, 0), (40, .invokevirtual 77, 43, 0), (43, .ireturn, 44, 0)]
theorem tX6_decode_ok : tabOk cX6_decode tX6_decode := by decide +kernel
def tX6_tell : TB := [(0, .aload_n 0, 1, 0), (1, .invokevirtual 81, 4, 0), (4, .iconst 0, 5, 0), (5, .istore_n 1, 6, 0), (6, .iload_n 1, 7, 0), (7, .aload_n 0, 8, 0), (8, .getfield 70, 11, 0), (11, .if_icmp .ge 30, 14, 41), (14, .aload_n 0, 15, 0), (15, .aload_n 0, 16, 0), (16, .getfield 13, 19, 0), (19, .iload_n 1, 20, 0), (20, .iaload, 21, 0), (21, .aload_n 0, 22, 0), (22, .getfield 16, 25, 0), (25, .iload_n 1, 26, 0), (26, .iaload, 27, 0), (27, .sipush 256, 30, 0), (30, .iload_n 1, 31, 0), (31, .iadd, 32, 0), (32, .invokevirtual 91, 35, 0), (35, .iinc 1 1, 38, 0), (38, .goto (-32), 41, 6), (41, .return_, 42, 0)]
theorem tX6_tell_ok : tabOk cX6_tell tX6_tell := by decide +kernel
def tX6_tokens : TB := [(0, .aload_n 0, 1, 0), (1, .iconst 0, 2, 0), (2, .putfield 49, 5, 0), (5, .aload_n 0, 6, 0), (6, .invokevirtual 100, 9, 0), (9, .aload_n 0, 10, 0), (10, .getfield 64, 13, 0), (13, .ireturn, 14, 0)]
theorem tX6_tokens_ok : tabOk cX6_tokens tX6_tokens := by decide +kernel
def tX6_at : TB := [(0, .aload_n 0, 1, 0), (1, .iconst 0, 2, 0), (2, .putfield 49, 5, 0), (5, .aload_n 0, 6, 0), (6, .invokevirtual 100, 9, 0), (9, .iload_n 1, 10, 0), (10, .iconst 0, 11, 0), (11, .aload_n 0, 12, 0), (12, .getfield 64, 15, 0), (15, .iconst 1, 16, 0), (16, .isub, 17, 0), (17, .invokestatic 53, 20, 0), (20, .ifCond .eq 12, 23, 32), (23, .aload_n 0, 24, 0), (24, .getfield 31, 27, 0), (27, .iload_n 1, 28, 0), (28, .iaload, 29, 0), (29, .goto 4, 32, 33), (32, .iconst (-1), 33, 0), (33, .ireturn, 34, 0)]
theorem tX6_at_ok : tabOk cX6_at tX6_at := by decide +kernel
def tX6_from : TB := [(0, .aload_n 0, 1, 0), (1, .iconst 0, 2, 0), (2, .putfield 49, 5, 0), (5, .aload_n 0, 6, 0), (6, .invokevirtual 100, 9, 0), (9, .iload_n 1, 10, 0), (10, .iconst 0, 11, 0), (11, .aload_n 0, 12, 0), (12, .getfield 64, 15, 0), (15, .iconst 1, 16, 0), (16, .isub, 17, 0), (17, .invokestatic 53, 20, 0), (20, .ifCond .eq 12, 23, 32), (23, .aload_n 0, 24, 0), (24, .getfield 34, 27, 0), (27, .iload_n 1, 28, 0), (28, .iaload, 29, 0), (29, .goto 4, 32, 33), (32, .iconst (-1), 33, 0), (33, .ireturn, 34, 0)]
theorem tX6_from_ok : tabOk cX6_from tX6_from := by decide +kernel
def tX6_points : TB := [(0, .aload_n 0, 1, 0), (1, .iconst 0, 2, 0), (2, .putfield 49, 5, 0), (5, .aload_n 0, 6, 0), (6, .iload_n 1, 7, 0), (7, .invokevirtual 97, 10, 0), (10, .ifCond .ne 5, 13, 15), (13, .iconst (-1), 14, 0), (14, .ireturn, 15, 0), (15, .iload_n 2, 16, 0), (16, .bipush (-100), 18, 0), (18, .bipush 100, 20, 0), (20, .invokestatic 53, 23, 0), (23, .ifCond .ne 6, 26, 29), (26, .bipush (-2), 28, 0), (28, .ireturn, 29, 0), (29, .aload_n 0, 30, 0), (30, .getfield 28, 33, 0), (33, .iload_n 1, 34, 0), (34, .iload_n 2, 35, 0), (35, .iastore, 36, 0), (36, .iconst 1, 37, 0), (37, .ireturn, 38, 0)]
theorem tX6_points_ok : tabOk cX6_points tX6_points := by decide +kernel
def tX6_fits : TB := [(0, .aload_n 0, 1, 0), (1, .iload_n 1, 2, 0), (2, .invokevirtual 73, 5, 0), (5, .istore_n 3, 6, 0), (6, .iload_n 2, 7, 0), (7, .iload_n 3, 8, 0), (8, .iadd, 9, 0), (9, .aload_n 0, 10, 0), (10, .getfield 57, 13, 0), (13, .if_icmp .le 5, 16, 18), (16, .iconst 0, 17, 0), (17, .ireturn, 18, 0), (18, .iconst 0, 19, 0), (19, .istore 4, 21, 0), (21, .iload 4, 23, 0), (23, .iload_n 3, 24, 0), (24, .if_icmp .ge 46, 27, 70), (27, .aload_n 0, 28, 0), (28, .getfield 7, 31, 0), (31, .iload_n 2, 32, 0), (32, .iload 4, 34, 0), (34, .iadd, 35, 0), (35, .iaload, 36, 0), (36, .aload_n 0, 37, 0), (37, .iload_n 1, 38, 0), (38, .iload 4, 40, 0), (40, .invokevirtual 77, 43, 0), (43, .if_icmp .ne 19, 46, 62), (46, .iload 4, 48, 0), (48, .ifCond .le 16, 51, 64), (51, .aload_n 0, 52, 0), (52, .iload_n 2, 53, 0), (53, .iload 4, 55, 0), (55, .iadd, 56, 0), (56, .invokevirtual 60, 59, 0), (59, .ifCond .eq 5, 62, 64), (62, .iconst 0, 63, 0), (63, .ireturn, 64, 0), (64, .iinc 4 1, 67, 0), (67, .goto (-46), 70, 21), (70, .iconst 1, 71, 0), (71, .ireturn, 72, 0)]
theorem tX6_fits_ok : tabOk cX6_fits tX6_fits := by decide +kernel
def tX6_isBefore : TB := [(0, .aload_n 0, 1, 0), (1, .getfield 40, 4, 0), (4, .iload_n 1, 5, 0), (5, .iaload, 6, 0), (6, .istore 4, 8, 0), (8, .iconst 0, 9, 0), (9, .istore 5, 11, 0), (11, .iload 5, 13, 0), (13, .iload 4, 15, 0), (15, .if_icmp .ge 52, 18, 67), (18, .aload_n 0, 19, 0), (19, .getfield 43, 22, 0), (22, .bipush 120, 24, 0), (24, .iload_n 1, 25, 0), (25, .imul, 26, 0), (26, .iload 5, 28, 0), (28, .iadd, 29, 0), (29, .iaload, 30, 0), (30, .aload_n 0, 31, 0), (31, .getfield 43, 34, 0), (34, .bipush 120, 36, 0), (36, .iload_n 3, 37, 0), (37, .imul, 38, 0), (38, .iload 5, 40, 0), (40, .iadd, 41, 0), (41, .iaload, 42, 0), (42, .isub, 43, 0), (43, .istore 6, 45, 0), (45, .iload 6, 47, 0), (47, .ifCond .eq 14, 50, 61), (50, .iload 6, 52, 0), (52, .ifCond .ge 7, 55, 59), (55, .iconst 1, 56, 0), (56, .goto 4, 59, 60), (59, .iconst 0, 60, 0), (60, .ireturn, 61, 0), (61, .iinc 5 1, 64, 0), (64, .goto (-53), 67, 11), (67, .iload_n 2, 68, 0), (68, .aload_n 0, 69, 0), (69, .getfield 43, 72, 0), (72, .bipush 120, 74, 0), (74, .iload_n 3, 75, 0), (75, .imul, 76, 0), (76, .iload 4, 78, 0), (78, .iadd, 79, 0), (79, .iaload, 80, 0), (80, .if_icmp .ge 7, 83, 87), (83, .iconst 1, 84, 0), (84, .goto 4, 87, 88), (87, .iconst 0, 88, 0), (88, .ireturn, 89, 0)]
theorem tX6_isBefore_ok : tabOk cX6_isBefore tX6_isBefore := by decide +kernel
def tX6_come_r0 : TB := [(0, .iload_n 1, 1, 0), (1, .aload_n 0, 2, 0), (2, .iload_n 2, 3, 0), (3, .invokevirtual 73, 6, 0), (6, .iadd, 7, 0), (7, .istore_n 3, 8, 0), (8, .aload_n 0, 9, 0), (9, .getfield 37, 12, 0), (12, .iload_n 1, 13, 0), (13, .iaload, 14, 0), (14, .aload_n 0, 15, 0), (15, .getfield 28, 18, 0), (18, .iload_n 2, 19, 0), (19, .iaload, 20, 0), (20, .iadd, 21, 0), (21, .istore 4, 23, 0), (23, .aload_n 0, 24, 0), (24, .getfield 40, 27, 0), (27, .iload_n 1, 28, 0), (28, .iaload, 29, 0), (29, .iconst 1, 30, 0), (30, .iadd, 31, 0), (31, .istore 5, 33, 0), (33, .aload_n 0, 34, 0), (34, .getfield 46, 37, 0), (37, .iload_n 3, 38, 0), (38, .dup2, 39, 0), (39, .iaload, 40, 0), (40, .aload_n 0, 41, 0), (41, .getfield 46, 44, 0), (44, .iload_n 1, 45, 0), (45, .iaload, 46, 0), (46, .iadd, 47, 0), (47, .iastore, 48, 0), (48, .aload_n 0, 49, 0), (49, .getfield 46, 52, 0), (52, .iload_n 3, 53, 0), (53, .aload_n 0, 54, 0), (54, .getfield 46, 57, 0), (57, .iload_n 3, 58, 0), (58, .iaload, 59, 0), (59, .ldc 103, 61, 0), (61, .if_icmp .le 8, 64, 69), (64, .ldc 103, 66, 0), (66, .goto 9, 69, 75), (69, .aload_n 0, 70, 0), (70, .getfield 46, 73, 0), (73, .iload_n 3, 74, 0), (74, .iaload, 75, 0), (75, .iastore, 76, 0), (76, .aload_n 0, 77, 0), (77, .getfield 40, 80, 0), (80, .iload_n 3, 81, 0), (81, .iaload, 82, 0), (82, .ifCond .lt 57, 85, 139), (85, .iload 4, 87, 0), (87, .aload_n 0, 88, 0), (88, .getfield 37, 91, 0), (91, .iload_n 3, 92, 0), (92, .iaload, 93, 0)]
theorem tX6_come_r0_ok : tabOk cX6_come tX6_come_r0 := by decide +kernel
def tX6_come_r1 : TB := [(93, .if_icmp .gt 46, 96, 139), (96, .iload 4, 98, 0), (98, .aload_n 0, 99, 0), (99, .getfield 37, 102, 0), (102, .iload_n 3, 103, 0), (103, .iaload, 104, 0), (104, .if_icmp .ne 39, 107, 143), (107, .iload 5, 109, 0), (109, .aload_n 0, 110, 0), (110, .getfield 40, 113, 0), (113, .iload_n 3, 114, 0), (114, .iaload, 115, 0), (115, .if_icmp .lt 24, 118, 139), (118, .iload 5, 120, 0), (120, .aload_n 0, 121, 0), (121, .getfield 40, 124, 0), (124, .iload_n 3, 125, 0), (125, .iaload, 126, 0), (126, .if_icmp .ne 17, 129, 143), (129, .aload_n 0, 130, 0), (130, .iload_n 1, 131, 0), (131, .iload_n 2, 132, 0), (132, .iload_n 3, 133, 0), (133, .invokevirtual 104, 136, 0), (136, .ifCond .eq 7, 139, 143), (139, .iconst 1, 140, 0), (140, .goto 4, 143, 144), (143, .iconst 0, 144, 0), (144, .istore 6, 146, 0), (146, .iload 6, 148, 0), (148, .ifCond .ne 4, 151, 152), (151, .return_, 152, 0), (152, .aload_n 0, 153, 0), (153, .getfield 37, 156, 0), (156, .iload_n 3, 157, 0), (157, .iload 4, 159, 0), (159, .iastore, 160, 0), (160, .aload_n 0, 161, 0), (161, .getfield 40, 164, 0), (164, .iload_n 3, 165, 0), (165, .iload 5, 167, 0), (167, .iastore, 168, 0), (168, .iconst 0, 169, 0), (169, .istore 7, 171, 0), (171, .iload 7, 173, 0), (173, .iconst 1, 174, 0), (174, .iadd, 175, 0), (175, .iload 5, 177, 0), (177, .if_icmp .ge 33, 180, 210), (180, .aload_n 0, 181, 0), (181, .getfield 43, 184, 0), (184, .bipush 120, 186, 0), (186, .iload_n 3, 187, 0), (187, .imul, 188, 0), (188, .iload 7, 190, 0), (190, .iadd, 191, 0), (191, .aload_n 0, 192, 0), (192, .getfield 43, 195, 0), (195, .bipush 120, 197, 0), (197, .iload_n 1, 198, 0)]
theorem tX6_come_r1_ok : tabOk cX6_come tX6_come_r1 := by decide +kernel
def tX6_come_r2 : TB := [(198, .imul, 199, 0), (199, .iload 7, 201, 0), (201, .iadd, 202, 0), (202, .iaload, 203, 0), (203, .iastore, 204, 0), (204, .iinc 7 1, 207, 0), (207, .goto (-36), 210, 171), (210, .aload_n 0, 211, 0), (211, .getfield 43, 214, 0), (214, .bipush 120, 216, 0), (216, .iload_n 3, 217, 0), (217, .imul, 218, 0), (218, .iload 5, 220, 0), (220, .iadd, 221, 0), (221, .iconst 1, 222, 0), (222, .isub, 223, 0), (223, .iload_n 2, 224, 0), (224, .iastore, 225, 0), (225, .return_, 226, 0)]
theorem tX6_come_r2_ok : tabOk cX6_come tX6_come_r2 := by decide +kernel
def tX6_come : TB := tX6_come_r0 ++ (tX6_come_r1 ++ (tX6_come_r2))
theorem tX6_come_ok : tabOk cX6_come tX6_come := List.forall_mem_append.mpr ⟨tX6_come_r0_ok, List.forall_mem_append.mpr ⟨tX6_come_r1_ok, tX6_come_r2_ok⟩⟩
def tX6_findBest_r0 : TB := [(0, .iconst 0, 1, 0), (1, .istore_n 1, 2, 0), (2, .iload_n 1, 3, 0), (3, .aload_n 0, 4, 0), (4, .getfield 57, 7, 0), (7, .if_icmp .gt 46, 10, 53), (10, .aload_n 0, 11, 0), (11, .getfield 37, 14, 0), (14, .iload_n 1, 15, 0), (15, .iconst 0, 16, 0), (16, .iastore, 17, 0), (17, .aload_n 0, 18, 0), (18, .getfield 40, 21, 0), (21, .iload_n 1, 22, 0), (22, .iload_n 1, 23, 0), (23, .ifCond .ne 7, 26, 30), (26, .iconst 0, 27, 0), (27, .goto 4, 30, 31), (30, .iconst (-1), 31, 0), (31, .iastore, 32, 0), (32, .aload_n 0, 33, 0), (33, .getfield 46, 36, 0), (36, .iload_n 1, 37, 0), (37, .iload_n 1, 38, 0), (38, .ifCond .ne 7, 41, 45), (41, .iconst 1, 42, 0), (42, .goto 4, 45, 46), (45, .iconst 0, 46, 0), (46, .iastore, 47, 0), (47, .iinc 1 1, 50, 0), (50, .goto (-48), 53, 2), (53, .iconst 0, 54, 0), (54, .istore_n 1, 55, 0), (55, .iload_n 1, 56, 0), (56, .aload_n 0, 57, 0), (57, .getfield 57, 60, 0), (60, .if_icmp .ge 59, 63, 119), (63, .aload_n 0, 64, 0), (64, .iload_n 1, 65, 0), (65, .aload_n 0, 66, 0), (66, .getfield 7, 69, 0), (69, .iload_n 1, 70, 0), (70, .iaload, 71, 0), (71, .invokevirtual 107, 74, 0), (74, .iconst 0, 75, 0), (75, .istore_n 2, 76, 0), (76, .iload_n 2, 77, 0), (77, .aload_n 0, 78, 0), (78, .getfield 70, 81, 0), (81, .if_icmp .ge 32, 84, 113), (84, .aload_n 0, 85, 0), (85, .sipush 256, 88, 0), (88, .iload_n 2, 89, 0), (89, .iadd, 90, 0), (90, .iload_n 1, 91, 0), (91, .invokevirtual 111, 94, 0), (94, .ifCond .eq 13, 97, 107), (97, .aload_n 0, 98, 0), (98, .iload_n 1, 99, 0), (99, .sipush 256, 102, 0)]
theorem tX6_findBest_r0_ok : tabOk cX6_findBest tX6_findBest_r0 := by decide +kernel
def tX6_findBest_r1 : TB := [(102, .iload_n 2, 103, 0), (103, .iadd, 104, 0), (104, .invokevirtual 107, 107, 0), (107, .iinc 2 1, 110, 0), (110, .goto (-34), 113, 76), (113, .iinc 1 1, 116, 0), (116, .goto (-61), 119, 55), (119, .return_, 120, 0)]
theorem tX6_findBest_r1_ok : tabOk cX6_findBest tX6_findBest_r1 := by decide +kernel
def tX6_findBest : TB := tX6_findBest_r0 ++ (tX6_findBest_r1)
theorem tX6_findBest_ok : tabOk cX6_findBest tX6_findBest := List.forall_mem_append.mpr ⟨tX6_findBest_r0_ok, tX6_findBest_r1_ok⟩
def tX6_best : TB := [(0, .aload_n 0, 1, 0), (1, .iconst 0, 2, 0), (2, .putfield 49, 5, 0), (5, .aload_n 0, 6, 0), (6, .invokevirtual 115, 9, 0), (9, .aload_n 0, 10, 0), (10, .getfield 40, 13, 0), (13, .aload_n 0, 14, 0), (14, .getfield 57, 17, 0), (17, .iaload, 18, 0), (18, .ireturn, 19, 0)]
theorem tX6_best_ok : tabOk cX6_best tX6_best := by decide +kernel
def tX6_bestAt : TB := [(0, .aload_n 0, 1, 0), (1, .iconst 0, 2, 0), (2, .putfield 49, 5, 0), (5, .aload_n 0, 6, 0), (6, .invokevirtual 115, 9, 0), (9, .iload_n 1, 10, 0), (10, .iconst 0, 11, 0), (11, .aload_n 0, 12, 0), (12, .getfield 40, 15, 0), (15, .aload_n 0, 16, 0), (16, .getfield 57, 19, 0), (19, .iaload, 20, 0), (20, .iconst 1, 21, 0), (21, .isub, 22, 0), (22, .invokestatic 53, 25, 0), (25, .ifCond .eq 20, 28, 45), (28, .aload_n 0, 29, 0), (29, .getfield 43, 32, 0), (32, .bipush 120, 34, 0), (34, .aload_n 0, 35, 0), (35, .getfield 57, 38, 0), (38, .imul, 39, 0), (39, .iload_n 1, 40, 0), (40, .iadd, 41, 0), (41, .iaload, 42, 0), (42, .goto 4, 45, 46), (45, .iconst (-1), 46, 0), (46, .ireturn, 47, 0)]
theorem tX6_bestAt_ok : tabOk cX6_bestAt tX6_bestAt := by decide +kernel
def tX6_sum : TB := [(0, .aload_n 0, 1, 0), (1, .iconst 0, 2, 0), (2, .putfield 49, 5, 0), (5, .aload_n 0, 6, 0), (6, .invokevirtual 115, 9, 0), (9, .aload_n 0, 10, 0), (10, .getfield 37, 13, 0), (13, .aload_n 0, 14, 0), (14, .getfield 57, 17, 0), (17, .iaload, 18, 0), (18, .ireturn, 19, 0)]
theorem tX6_sum_ok : tabOk cX6_sum tX6_sum := by decide +kernel
def tX6_ways : TB := [(0, .aload_n 0, 1, 0), (1, .iconst 0, 2, 0), (2, .putfield 49, 5, 0), (5, .aload_n 0, 6, 0), (6, .invokevirtual 115, 9, 0), (9, .aload_n 0, 10, 0), (10, .getfield 46, 13, 0), (13, .aload_n 0, 14, 0), (14, .getfield 57, 17, 0), (17, .iaload, 18, 0), (18, .ireturn, 19, 0)]
theorem tX6_ways_ok : tabOk cX6_ways tX6_ways := by decide +kernel
def tJx00060_init_a7421 : TB := [(0, .aload_n 0, 1, 0), (1, .aload_n 1, 2, 0), (2, .invokespecial 7, 5, 0), (5, .return_, 6, 0)]
theorem tJx00060_init_a7421_ok : tabOk cJx00060_init_a7421 tJx00060_init_a7421 := by decide +kernel
def tJ9_min_7cf53 : TB := [(0, .iload_n 0, 1, 0), (1, .iload_n 1, 2, 0), (2, .if_icmp .gt 7, 5, 9), (5, .iload_n 0, 6, 0), (6, .goto 4, 9, 10), (9, .iload_n 1, 10, 0), (10, .ireturn, 11, 0)]
theorem tJ9_min_7cf53_ok : tabOk cJ9_min_7cf53 tJ9_min_7cf53 := by decide +kernel
def tJ7_fill_53178 : TB := [(0, .iconst 0, 1, 0), (1, .istore_n 2, 2, 0), (2, .aload_n 0, 3, 0), (3, .arraylength, 4, 0), (4, .istore_n 3, 5, 0), (5, .iload_n 2, 6, 0), (6, .iload_n 3, 7, 0), (7, .if_icmp .ge 13, 10, 20), (10, .aload_n 0, 11, 0), (11, .iload_n 2, 12, 0), (12, .iload_n 1, 13, 0), (13, .iastore, 14, 0), (14, .iinc 2 1, 17, 0), (17, .goto (-12), 20, 5), (20, .return_, 21, 0)]
theorem tJ7_fill_53178_ok : tabOk cJ7_fill_53178 tJ7_fill_53178 := by decide +kernel
def tL_decode : TB := [(0, .aload_n 3, 1, 0), (1, .iconst 0, 2, 0), (2, .aload_n 0, 3, 0), (3, .iload_n 1, 4, 0), (4, .iload_n 2, 5, 0), (5, .invokevirtual 7, 8, 0), (8, .i2l, 9, 0), (9, .lastore, 10, 0), (10, .goto 7, 13, 17), (13, .astore 4, 15, 0), (15, .iconst 1, 16, 0), (16, .ireturn, 17, 0), (17, .iconst 0, 18, 0), (18, .ireturn, 19, 0)]
theorem tL_decode_ok : tabOk cL_decode tL_decode := by decide +kernel
theorem dL_law_0 : decode cL_law 0 = .ok (.new 8, 3) := by decide +kernel
theorem dL_law_3 : decode cL_law 3 = .ok (.dup, 1) := by decide +kernel
theorem dL_law_4 : decode cL_law 4 = .ok (.invokespecial 15, 3) := by decide +kernel
theorem dL_law_7 : decode cL_law 7 = .ok (.astore_n 1, 1) := by decide +kernel
theorem dL_law_8 : decode cL_law 8 = .ok (.new 16, 3) := by decide +kernel
theorem dL_law_11 : decode cL_law 11 = .ok (.dup, 1) := by decide +kernel
theorem dL_law_12 : decode cL_law 12 = .ok (.invokespecial 18, 3) := by decide +kernel
theorem dL_law_15 : decode cL_law 15 = .ok (.astore_n 2, 1) := by decide +kernel
theorem dL_law_16 : decode cL_law 16 = .ok (.iconst 1, 1) := by decide +kernel
theorem dL_law_17 : decode cL_law 17 = .ok (.newarray .long, 2) := by decide +kernel
theorem dL_law_19 : decode cL_law 19 = .ok (.astore_n 3, 1) := by decide +kernel
theorem dL_law_20 : decode cL_law 20 = .ok (.iconst 0, 1) := by decide +kernel
theorem dL_law_21 : decode cL_law 21 = .ok (.istore 4, 2) := by decide +kernel
theorem dL_law_23 : decode cL_law 23 = .ok (.iload 4, 2) := by decide +kernel
theorem dL_law_25 : decode cL_law 25 = .ok (.aload_n 0, 1) := by decide +kernel
theorem dL_law_26 : decode cL_law 26 = .ok (.arraylength, 1) := by decide +kernel
theorem dL_law_27 : decode cL_law 27 = .ok (.iconst 3, 1) := by decide +kernel
theorem dL_law_28 : decode cL_law 28 = .ok (.isub, 1) := by decide +kernel
theorem dL_law_29 : decode cL_law 29 = .ok (.if_icmp .gt 529, 3) := by decide +kernel
theorem dL_law_32 : decode cL_law 32 = .ok (.aload_n 0, 1) := by decide +kernel
theorem dL_law_33 : decode cL_law 33 = .ok (.iload 4, 2) := by decide +kernel
theorem dL_law_35 : decode cL_law 35 = .ok (.iaload, 1) := by decide +kernel
theorem dL_law_36 : decode cL_law 36 = .ok (.bipush 31, 2) := by decide +kernel
theorem dL_law_38 : decode cL_law 38 = .ok (.iand, 1) := by decide +kernel
theorem dL_law_39 : decode cL_law 39 = .ok (.tableswitch 513 0 16 #[81, 106, 131, 156, 169, 194, 231, 256, 281, 349, 362, 387, 412, 449, 462, 487, 500], 81) := by decide +kernel
theorem dL_law_120 : decode cL_law 120 = .ok (.aload_n 1, 1) := by decide +kernel
theorem dL_law_121 : decode cL_law 121 = .ok (.aload_n 0, 1) := by decide +kernel
theorem dL_law_122 : decode cL_law 122 = .ok (.iload 4, 2) := by decide +kernel
theorem dL_law_124 : decode cL_law 124 = .ok (.iconst 1, 1) := by decide +kernel
theorem dL_law_125 : decode cL_law 125 = .ok (.iadd, 1) := by decide +kernel
theorem dL_law_126 : decode cL_law 126 = .ok (.iaload, 1) := by decide +kernel
theorem dL_law_127 : decode cL_law 127 = .ok (.invokevirtual 19, 3) := by decide +kernel
theorem dL_law_130 : decode cL_law 130 = .ok (.aload_n 2, 1) := by decide +kernel
theorem dL_law_131 : decode cL_law 131 = .ok (.aload_n 0, 1) := by decide +kernel
theorem dL_law_132 : decode cL_law 132 = .ok (.iload 4, 2) := by decide +kernel
theorem dL_law_134 : decode cL_law 134 = .ok (.iconst 1, 1) := by decide +kernel
theorem dL_law_135 : decode cL_law 135 = .ok (.iadd, 1) := by decide +kernel
theorem dL_law_136 : decode cL_law 136 = .ok (.iaload, 1) := by decide +kernel
theorem dL_law_137 : decode cL_law 137 = .ok (.invokevirtual 23, 3) := by decide +kernel
theorem dL_law_140 : decode cL_law 140 = .ok (.if_icmp .eq 412, 3) := by decide +kernel
theorem dL_law_143 : decode cL_law 143 = .ok (.iconst 0, 1) := by decide +kernel
theorem dL_law_144 : decode cL_law 144 = .ok (.ireturn, 1) := by decide +kernel
theorem dL_law_145 : decode cL_law 145 = .ok (.aload_n 1, 1) := by decide +kernel
theorem dL_law_146 : decode cL_law 146 = .ok (.aload_n 0, 1) := by decide +kernel
theorem dL_law_147 : decode cL_law 147 = .ok (.iload 4, 2) := by decide +kernel
theorem dL_law_149 : decode cL_law 149 = .ok (.iconst 1, 1) := by decide +kernel
theorem dL_law_150 : decode cL_law 150 = .ok (.iadd, 1) := by decide +kernel
theorem dL_law_151 : decode cL_law 151 = .ok (.iaload, 1) := by decide +kernel
theorem dL_law_152 : decode cL_law 152 = .ok (.invokevirtual 24, 3) := by decide +kernel
theorem dL_law_155 : decode cL_law 155 = .ok (.aload_n 2, 1) := by decide +kernel
theorem dL_law_156 : decode cL_law 156 = .ok (.aload_n 0, 1) := by decide +kernel
theorem dL_law_157 : decode cL_law 157 = .ok (.iload 4, 2) := by decide +kernel
theorem dL_law_159 : decode cL_law 159 = .ok (.iconst 1, 1) := by decide +kernel
theorem dL_law_160 : decode cL_law 160 = .ok (.iadd, 1) := by decide +kernel
theorem dL_law_161 : decode cL_law 161 = .ok (.iaload, 1) := by decide +kernel
theorem dL_law_162 : decode cL_law 162 = .ok (.invokevirtual 27, 3) := by decide +kernel
theorem dL_law_165 : decode cL_law 165 = .ok (.if_icmp .eq 387, 3) := by decide +kernel
theorem dL_law_168 : decode cL_law 168 = .ok (.iconst 0, 1) := by decide +kernel
theorem dL_law_169 : decode cL_law 169 = .ok (.ireturn, 1) := by decide +kernel
theorem dL_law_170 : decode cL_law 170 = .ok (.aload_n 1, 1) := by decide +kernel
theorem dL_law_171 : decode cL_law 171 = .ok (.aload_n 0, 1) := by decide +kernel
theorem dL_law_172 : decode cL_law 172 = .ok (.iload 4, 2) := by decide +kernel
theorem dL_law_174 : decode cL_law 174 = .ok (.iconst 1, 1) := by decide +kernel
theorem dL_law_175 : decode cL_law 175 = .ok (.iadd, 1) := by decide +kernel
theorem dL_law_176 : decode cL_law 176 = .ok (.iaload, 1) := by decide +kernel
theorem dL_law_177 : decode cL_law 177 = .ok (.invokevirtual 28, 3) := by decide +kernel
theorem dL_law_180 : decode cL_law 180 = .ok (.aload_n 2, 1) := by decide +kernel
theorem dL_law_181 : decode cL_law 181 = .ok (.aload_n 0, 1) := by decide +kernel
theorem dL_law_182 : decode cL_law 182 = .ok (.iload 4, 2) := by decide +kernel
theorem dL_law_184 : decode cL_law 184 = .ok (.iconst 1, 1) := by decide +kernel
theorem dL_law_185 : decode cL_law 185 = .ok (.iadd, 1) := by decide +kernel
theorem dL_law_186 : decode cL_law 186 = .ok (.iaload, 1) := by decide +kernel
theorem dL_law_187 : decode cL_law 187 = .ok (.invokevirtual 31, 3) := by decide +kernel
theorem dL_law_190 : decode cL_law 190 = .ok (.if_icmp .eq 362, 3) := by decide +kernel
theorem dL_law_193 : decode cL_law 193 = .ok (.iconst 0, 1) := by decide +kernel
theorem dL_law_194 : decode cL_law 194 = .ok (.ireturn, 1) := by decide +kernel
theorem dL_law_195 : decode cL_law 195 = .ok (.aload_n 1, 1) := by decide +kernel
theorem dL_law_196 : decode cL_law 196 = .ok (.invokevirtual 32, 3) := by decide +kernel
theorem dL_law_199 : decode cL_law 199 = .ok (.aload_n 2, 1) := by decide +kernel
theorem dL_law_200 : decode cL_law 200 = .ok (.invokevirtual 36, 3) := by decide +kernel
theorem dL_law_203 : decode cL_law 203 = .ok (.if_icmp .eq 349, 3) := by decide +kernel
theorem dL_law_206 : decode cL_law 206 = .ok (.iconst 0, 1) := by decide +kernel
theorem dL_law_207 : decode cL_law 207 = .ok (.ireturn, 1) := by decide +kernel
theorem dL_law_208 : decode cL_law 208 = .ok (.aload_n 1, 1) := by decide +kernel
theorem dL_law_209 : decode cL_law 209 = .ok (.aload_n 0, 1) := by decide +kernel
theorem dL_law_210 : decode cL_law 210 = .ok (.iload 4, 2) := by decide +kernel
theorem dL_law_212 : decode cL_law 212 = .ok (.iconst 1, 1) := by decide +kernel
theorem dL_law_213 : decode cL_law 213 = .ok (.iadd, 1) := by decide +kernel
theorem dL_law_214 : decode cL_law 214 = .ok (.iaload, 1) := by decide +kernel
theorem dL_law_215 : decode cL_law 215 = .ok (.invokevirtual 37, 3) := by decide +kernel
theorem dL_law_218 : decode cL_law 218 = .ok (.aload_n 2, 1) := by decide +kernel
theorem dL_law_219 : decode cL_law 219 = .ok (.aload_n 0, 1) := by decide +kernel
theorem dL_law_220 : decode cL_law 220 = .ok (.iload 4, 2) := by decide +kernel
theorem dL_law_222 : decode cL_law 222 = .ok (.iconst 1, 1) := by decide +kernel
theorem dL_law_223 : decode cL_law 223 = .ok (.iadd, 1) := by decide +kernel
theorem dL_law_224 : decode cL_law 224 = .ok (.iaload, 1) := by decide +kernel
theorem dL_law_225 : decode cL_law 225 = .ok (.invokevirtual 40, 3) := by decide +kernel
theorem dL_law_228 : decode cL_law 228 = .ok (.if_icmp .eq 324, 3) := by decide +kernel
theorem dL_law_231 : decode cL_law 231 = .ok (.iconst 0, 1) := by decide +kernel
theorem dL_law_232 : decode cL_law 232 = .ok (.ireturn, 1) := by decide +kernel
theorem dL_law_233 : decode cL_law 233 = .ok (.aload_n 1, 1) := by decide +kernel
theorem dL_law_234 : decode cL_law 234 = .ok (.aload_n 0, 1) := by decide +kernel
theorem dL_law_235 : decode cL_law 235 = .ok (.iload 4, 2) := by decide +kernel
theorem dL_law_237 : decode cL_law 237 = .ok (.iconst 1, 1) := by decide +kernel
theorem dL_law_238 : decode cL_law 238 = .ok (.iadd, 1) := by decide +kernel
theorem dL_law_239 : decode cL_law 239 = .ok (.iaload, 1) := by decide +kernel
theorem dL_law_240 : decode cL_law 240 = .ok (.aload_n 0, 1) := by decide +kernel
theorem dL_law_241 : decode cL_law 241 = .ok (.iload 4, 2) := by decide +kernel
theorem dL_law_243 : decode cL_law 243 = .ok (.iconst 2, 1) := by decide +kernel
theorem dL_law_244 : decode cL_law 244 = .ok (.iadd, 1) := by decide +kernel
theorem dL_law_245 : decode cL_law 245 = .ok (.iaload, 1) := by decide +kernel
theorem dL_law_246 : decode cL_law 246 = .ok (.invokevirtual 41, 3) := by decide +kernel
theorem dL_law_249 : decode cL_law 249 = .ok (.aload_n 2, 1) := by decide +kernel
theorem dL_law_250 : decode cL_law 250 = .ok (.aload_n 0, 1) := by decide +kernel
theorem dL_law_251 : decode cL_law 251 = .ok (.iload 4, 2) := by decide +kernel
theorem dL_law_253 : decode cL_law 253 = .ok (.iconst 1, 1) := by decide +kernel
theorem dL_law_254 : decode cL_law 254 = .ok (.iadd, 1) := by decide +kernel
theorem dL_law_255 : decode cL_law 255 = .ok (.iaload, 1) := by decide +kernel
theorem dL_law_256 : decode cL_law 256 = .ok (.aload_n 0, 1) := by decide +kernel
theorem dL_law_257 : decode cL_law 257 = .ok (.iload 4, 2) := by decide +kernel
theorem dL_law_259 : decode cL_law 259 = .ok (.iconst 2, 1) := by decide +kernel
theorem dL_law_260 : decode cL_law 260 = .ok (.iadd, 1) := by decide +kernel
theorem dL_law_261 : decode cL_law 261 = .ok (.iaload, 1) := by decide +kernel
theorem dL_law_262 : decode cL_law 262 = .ok (.invokevirtual 44, 3) := by decide +kernel
theorem dL_law_265 : decode cL_law 265 = .ok (.if_icmp .eq 287, 3) := by decide +kernel
theorem dL_law_268 : decode cL_law 268 = .ok (.iconst 0, 1) := by decide +kernel
theorem dL_law_269 : decode cL_law 269 = .ok (.ireturn, 1) := by decide +kernel
theorem dL_law_270 : decode cL_law 270 = .ok (.aload_n 1, 1) := by decide +kernel
theorem dL_law_271 : decode cL_law 271 = .ok (.aload_n 0, 1) := by decide +kernel
theorem dL_law_272 : decode cL_law 272 = .ok (.iload 4, 2) := by decide +kernel
theorem dL_law_274 : decode cL_law 274 = .ok (.iconst 1, 1) := by decide +kernel
theorem dL_law_275 : decode cL_law 275 = .ok (.iadd, 1) := by decide +kernel
theorem dL_law_276 : decode cL_law 276 = .ok (.iaload, 1) := by decide +kernel
theorem dL_law_277 : decode cL_law 277 = .ok (.invokevirtual 45, 3) := by decide +kernel
theorem dL_law_280 : decode cL_law 280 = .ok (.aload_n 2, 1) := by decide +kernel
theorem dL_law_281 : decode cL_law 281 = .ok (.aload_n 0, 1) := by decide +kernel
theorem dL_law_282 : decode cL_law 282 = .ok (.iload 4, 2) := by decide +kernel
theorem dL_law_284 : decode cL_law 284 = .ok (.iconst 1, 1) := by decide +kernel
theorem dL_law_285 : decode cL_law 285 = .ok (.iadd, 1) := by decide +kernel
theorem dL_law_286 : decode cL_law 286 = .ok (.iaload, 1) := by decide +kernel
theorem dL_law_287 : decode cL_law 287 = .ok (.invokevirtual 48, 3) := by decide +kernel
theorem dL_law_290 : decode cL_law 290 = .ok (.if_icmp .eq 262, 3) := by decide +kernel
theorem dL_law_293 : decode cL_law 293 = .ok (.iconst 0, 1) := by decide +kernel
theorem dL_law_294 : decode cL_law 294 = .ok (.ireturn, 1) := by decide +kernel
theorem dL_law_295 : decode cL_law 295 = .ok (.aload_n 1, 1) := by decide +kernel
theorem dL_law_296 : decode cL_law 296 = .ok (.aload_n 0, 1) := by decide +kernel
theorem dL_law_297 : decode cL_law 297 = .ok (.iload 4, 2) := by decide +kernel
theorem dL_law_299 : decode cL_law 299 = .ok (.iconst 1, 1) := by decide +kernel
theorem dL_law_300 : decode cL_law 300 = .ok (.iadd, 1) := by decide +kernel
theorem dL_law_301 : decode cL_law 301 = .ok (.iaload, 1) := by decide +kernel
theorem dL_law_302 : decode cL_law 302 = .ok (.invokevirtual 49, 3) := by decide +kernel
theorem dL_law_305 : decode cL_law 305 = .ok (.aload_n 2, 1) := by decide +kernel
theorem dL_law_306 : decode cL_law 306 = .ok (.aload_n 0, 1) := by decide +kernel
theorem dL_law_307 : decode cL_law 307 = .ok (.iload 4, 2) := by decide +kernel
theorem dL_law_309 : decode cL_law 309 = .ok (.iconst 1, 1) := by decide +kernel
theorem dL_law_310 : decode cL_law 310 = .ok (.iadd, 1) := by decide +kernel
theorem dL_law_311 : decode cL_law 311 = .ok (.iaload, 1) := by decide +kernel
theorem dL_law_312 : decode cL_law 312 = .ok (.invokevirtual 52, 3) := by decide +kernel
theorem dL_law_315 : decode cL_law 315 = .ok (.if_icmp .eq 237, 3) := by decide +kernel
theorem dL_law_318 : decode cL_law 318 = .ok (.iconst 0, 1) := by decide +kernel
theorem dL_law_319 : decode cL_law 319 = .ok (.ireturn, 1) := by decide +kernel
theorem dL_law_320 : decode cL_law 320 = .ok (.aload_n 1, 1) := by decide +kernel
theorem dL_law_321 : decode cL_law 321 = .ok (.aload_n 0, 1) := by decide +kernel
theorem dL_law_322 : decode cL_law 322 = .ok (.iload 4, 2) := by decide +kernel
theorem dL_law_324 : decode cL_law 324 = .ok (.iconst 1, 1) := by decide +kernel
theorem dL_law_325 : decode cL_law 325 = .ok (.iadd, 1) := by decide +kernel
theorem dL_law_326 : decode cL_law 326 = .ok (.iaload, 1) := by decide +kernel
theorem dL_law_327 : decode cL_law 327 = .ok (.aload_n 0, 1) := by decide +kernel
theorem dL_law_328 : decode cL_law 328 = .ok (.iload 4, 2) := by decide +kernel
theorem dL_law_330 : decode cL_law 330 = .ok (.iconst 2, 1) := by decide +kernel
theorem dL_law_331 : decode cL_law 331 = .ok (.iadd, 1) := by decide +kernel
theorem dL_law_332 : decode cL_law 332 = .ok (.iaload, 1) := by decide +kernel
theorem dL_law_333 : decode cL_law 333 = .ok (.aload_n 3, 1) := by decide +kernel
theorem dL_law_334 : decode cL_law 334 = .ok (.invokestatic 53, 3) := by decide +kernel
theorem dL_law_337 : decode cL_law 337 = .ok (.istore 5, 2) := by decide +kernel
theorem dL_law_339 : decode cL_law 339 = .ok (.aload_n 2, 1) := by decide +kernel
theorem dL_law_340 : decode cL_law 340 = .ok (.aload_n 0, 1) := by decide +kernel
theorem dL_law_341 : decode cL_law 341 = .ok (.iload 4, 2) := by decide +kernel
theorem dL_law_343 : decode cL_law 343 = .ok (.iconst 1, 1) := by decide +kernel
theorem dL_law_344 : decode cL_law 344 = .ok (.iadd, 1) := by decide +kernel
theorem dL_law_345 : decode cL_law 345 = .ok (.iaload, 1) := by decide +kernel
theorem dL_law_346 : decode cL_law 346 = .ok (.aload_n 0, 1) := by decide +kernel
theorem dL_law_347 : decode cL_law 347 = .ok (.iload 4, 2) := by decide +kernel
theorem dL_law_349 : decode cL_law 349 = .ok (.iconst 2, 1) := by decide +kernel
theorem dL_law_350 : decode cL_law 350 = .ok (.iadd, 1) := by decide +kernel
theorem dL_law_351 : decode cL_law 351 = .ok (.iaload, 1) := by decide +kernel
theorem dL_law_352 : decode cL_law 352 = .ok (.invokevirtual 58, 3) := by decide +kernel
theorem dL_law_355 : decode cL_law 355 = .ok (.istore 6, 2) := by decide +kernel
theorem dL_law_357 : decode cL_law 357 = .ok (.aload_n 2, 1) := by decide +kernel
theorem dL_law_358 : decode cL_law 358 = .ok (.invokevirtual 59, 3) := by decide +kernel
theorem dL_law_361 : decode cL_law 361 = .ok (.iload 5, 2) := by decide +kernel
theorem dL_law_363 : decode cL_law 363 = .ok (.if_icmp .eq 5, 3) := by decide +kernel
theorem dL_law_366 : decode cL_law 366 = .ok (.iconst 0, 1) := by decide +kernel
theorem dL_law_367 : decode cL_law 367 = .ok (.ireturn, 1) := by decide +kernel
theorem dL_law_368 : decode cL_law 368 = .ok (.iload 5, 2) := by decide +kernel
theorem dL_law_370 : decode cL_law 370 = .ok (.ifCond .ne 15, 3) := by decide +kernel
theorem dL_law_373 : decode cL_law 373 = .ok (.aload_n 3, 1) := by decide +kernel
theorem dL_law_374 : decode cL_law 374 = .ok (.iconst 0, 1) := by decide +kernel
theorem dL_law_375 : decode cL_law 375 = .ok (.laload, 1) := by decide +kernel
theorem dL_law_376 : decode cL_law 376 = .ok (.iload 6, 2) := by decide +kernel
theorem dL_law_378 : decode cL_law 378 = .ok (.i2l, 1) := by decide +kernel
theorem dL_law_379 : decode cL_law 379 = .ok (.lcmp, 1) := by decide +kernel
theorem dL_law_380 : decode cL_law 380 = .ok (.ifCond .eq 5, 3) := by decide +kernel
theorem dL_law_383 : decode cL_law 383 = .ok (.iconst 0, 1) := by decide +kernel
theorem dL_law_384 : decode cL_law 384 = .ok (.ireturn, 1) := by decide +kernel
theorem dL_law_385 : decode cL_law 385 = .ok (.goto 167, 3) := by decide +kernel
theorem dL_law_388 : decode cL_law 388 = .ok (.aload_n 1, 1) := by decide +kernel
theorem dL_law_389 : decode cL_law 389 = .ok (.invokevirtual 62, 3) := by decide +kernel
theorem dL_law_392 : decode cL_law 392 = .ok (.aload_n 2, 1) := by decide +kernel
theorem dL_law_393 : decode cL_law 393 = .ok (.invokevirtual 65, 3) := by decide +kernel
theorem dL_law_396 : decode cL_law 396 = .ok (.if_icmp .eq 156, 3) := by decide +kernel
theorem dL_law_399 : decode cL_law 399 = .ok (.iconst 0, 1) := by decide +kernel
theorem dL_law_400 : decode cL_law 400 = .ok (.ireturn, 1) := by decide +kernel
theorem dL_law_401 : decode cL_law 401 = .ok (.aload_n 1, 1) := by decide +kernel
theorem dL_law_402 : decode cL_law 402 = .ok (.aload_n 0, 1) := by decide +kernel
theorem dL_law_403 : decode cL_law 403 = .ok (.iload 4, 2) := by decide +kernel
theorem dL_law_405 : decode cL_law 405 = .ok (.iconst 1, 1) := by decide +kernel
theorem dL_law_406 : decode cL_law 406 = .ok (.iadd, 1) := by decide +kernel
theorem dL_law_407 : decode cL_law 407 = .ok (.iaload, 1) := by decide +kernel
theorem dL_law_408 : decode cL_law 408 = .ok (.invokevirtual 66, 3) := by decide +kernel
theorem dL_law_411 : decode cL_law 411 = .ok (.aload_n 2, 1) := by decide +kernel
theorem dL_law_412 : decode cL_law 412 = .ok (.aload_n 0, 1) := by decide +kernel
theorem dL_law_413 : decode cL_law 413 = .ok (.iload 4, 2) := by decide +kernel
theorem dL_law_415 : decode cL_law 415 = .ok (.iconst 1, 1) := by decide +kernel
theorem dL_law_416 : decode cL_law 416 = .ok (.iadd, 1) := by decide +kernel
theorem dL_law_417 : decode cL_law 417 = .ok (.iaload, 1) := by decide +kernel
theorem dL_law_418 : decode cL_law 418 = .ok (.invokevirtual 69, 3) := by decide +kernel
theorem dL_law_421 : decode cL_law 421 = .ok (.if_icmp .eq 131, 3) := by decide +kernel
theorem dL_law_424 : decode cL_law 424 = .ok (.iconst 0, 1) := by decide +kernel
theorem dL_law_425 : decode cL_law 425 = .ok (.ireturn, 1) := by decide +kernel
theorem dL_law_426 : decode cL_law 426 = .ok (.aload_n 1, 1) := by decide +kernel
theorem dL_law_427 : decode cL_law 427 = .ok (.aload_n 0, 1) := by decide +kernel
theorem dL_law_428 : decode cL_law 428 = .ok (.iload 4, 2) := by decide +kernel
theorem dL_law_430 : decode cL_law 430 = .ok (.iconst 1, 1) := by decide +kernel
theorem dL_law_431 : decode cL_law 431 = .ok (.iadd, 1) := by decide +kernel
theorem dL_law_432 : decode cL_law 432 = .ok (.iaload, 1) := by decide +kernel
theorem dL_law_433 : decode cL_law 433 = .ok (.invokevirtual 70, 3) := by decide +kernel
theorem dL_law_436 : decode cL_law 436 = .ok (.aload_n 2, 1) := by decide +kernel
theorem dL_law_437 : decode cL_law 437 = .ok (.aload_n 0, 1) := by decide +kernel
theorem dL_law_438 : decode cL_law 438 = .ok (.iload 4, 2) := by decide +kernel
theorem dL_law_440 : decode cL_law 440 = .ok (.iconst 1, 1) := by decide +kernel
theorem dL_law_441 : decode cL_law 441 = .ok (.iadd, 1) := by decide +kernel
theorem dL_law_442 : decode cL_law 442 = .ok (.iaload, 1) := by decide +kernel
theorem dL_law_443 : decode cL_law 443 = .ok (.invokevirtual 73, 3) := by decide +kernel
theorem dL_law_446 : decode cL_law 446 = .ok (.if_icmp .eq 106, 3) := by decide +kernel
theorem dL_law_449 : decode cL_law 449 = .ok (.iconst 0, 1) := by decide +kernel
theorem dL_law_450 : decode cL_law 450 = .ok (.ireturn, 1) := by decide +kernel
theorem dL_law_451 : decode cL_law 451 = .ok (.aload_n 1, 1) := by decide +kernel
theorem dL_law_452 : decode cL_law 452 = .ok (.aload_n 0, 1) := by decide +kernel
theorem dL_law_453 : decode cL_law 453 = .ok (.iload 4, 2) := by decide +kernel
theorem dL_law_455 : decode cL_law 455 = .ok (.iconst 1, 1) := by decide +kernel
theorem dL_law_456 : decode cL_law 456 = .ok (.iadd, 1) := by decide +kernel
theorem dL_law_457 : decode cL_law 457 = .ok (.iaload, 1) := by decide +kernel
theorem dL_law_458 : decode cL_law 458 = .ok (.aload_n 0, 1) := by decide +kernel
theorem dL_law_459 : decode cL_law 459 = .ok (.iload 4, 2) := by decide +kernel
theorem dL_law_461 : decode cL_law 461 = .ok (.iconst 2, 1) := by decide +kernel
theorem dL_law_462 : decode cL_law 462 = .ok (.iadd, 1) := by decide +kernel
theorem dL_law_463 : decode cL_law 463 = .ok (.iaload, 1) := by decide +kernel
theorem dL_law_464 : decode cL_law 464 = .ok (.invokevirtual 74, 3) := by decide +kernel
theorem dL_law_467 : decode cL_law 467 = .ok (.aload_n 2, 1) := by decide +kernel
theorem dL_law_468 : decode cL_law 468 = .ok (.aload_n 0, 1) := by decide +kernel
theorem dL_law_469 : decode cL_law 469 = .ok (.iload 4, 2) := by decide +kernel
theorem dL_law_471 : decode cL_law 471 = .ok (.iconst 1, 1) := by decide +kernel
theorem dL_law_472 : decode cL_law 472 = .ok (.iadd, 1) := by decide +kernel
theorem dL_law_473 : decode cL_law 473 = .ok (.iaload, 1) := by decide +kernel
theorem dL_law_474 : decode cL_law 474 = .ok (.aload_n 0, 1) := by decide +kernel
theorem dL_law_475 : decode cL_law 475 = .ok (.iload 4, 2) := by decide +kernel
theorem dL_law_477 : decode cL_law 477 = .ok (.iconst 2, 1) := by decide +kernel
theorem dL_law_478 : decode cL_law 478 = .ok (.iadd, 1) := by decide +kernel
theorem dL_law_479 : decode cL_law 479 = .ok (.iaload, 1) := by decide +kernel
theorem dL_law_480 : decode cL_law 480 = .ok (.invokevirtual 77, 3) := by decide +kernel
theorem dL_law_483 : decode cL_law 483 = .ok (.if_icmp .eq 69, 3) := by decide +kernel
theorem dL_law_486 : decode cL_law 486 = .ok (.iconst 0, 1) := by decide +kernel
theorem dL_law_487 : decode cL_law 487 = .ok (.ireturn, 1) := by decide +kernel
theorem dL_law_488 : decode cL_law 488 = .ok (.aload_n 1, 1) := by decide +kernel
theorem dL_law_489 : decode cL_law 489 = .ok (.invokevirtual 78, 3) := by decide +kernel
theorem dL_law_492 : decode cL_law 492 = .ok (.aload_n 2, 1) := by decide +kernel
theorem dL_law_493 : decode cL_law 493 = .ok (.invokevirtual 81, 3) := by decide +kernel
theorem dL_law_496 : decode cL_law 496 = .ok (.if_icmp .eq 56, 3) := by decide +kernel
theorem dL_law_499 : decode cL_law 499 = .ok (.iconst 0, 1) := by decide +kernel
theorem dL_law_500 : decode cL_law 500 = .ok (.ireturn, 1) := by decide +kernel
theorem dL_law_501 : decode cL_law 501 = .ok (.aload_n 1, 1) := by decide +kernel
theorem dL_law_502 : decode cL_law 502 = .ok (.aload_n 0, 1) := by decide +kernel
theorem dL_law_503 : decode cL_law 503 = .ok (.iload 4, 2) := by decide +kernel
theorem dL_law_505 : decode cL_law 505 = .ok (.iconst 1, 1) := by decide +kernel
theorem dL_law_506 : decode cL_law 506 = .ok (.iadd, 1) := by decide +kernel
theorem dL_law_507 : decode cL_law 507 = .ok (.iaload, 1) := by decide +kernel
theorem dL_law_508 : decode cL_law 508 = .ok (.invokevirtual 82, 3) := by decide +kernel
theorem dL_law_511 : decode cL_law 511 = .ok (.aload_n 2, 1) := by decide +kernel
theorem dL_law_512 : decode cL_law 512 = .ok (.aload_n 0, 1) := by decide +kernel
theorem dL_law_513 : decode cL_law 513 = .ok (.iload 4, 2) := by decide +kernel
theorem dL_law_515 : decode cL_law 515 = .ok (.iconst 1, 1) := by decide +kernel
theorem dL_law_516 : decode cL_law 516 = .ok (.iadd, 1) := by decide +kernel
theorem dL_law_517 : decode cL_law 517 = .ok (.iaload, 1) := by decide +kernel
theorem dL_law_518 : decode cL_law 518 = .ok (.invokevirtual 85, 3) := by decide +kernel
theorem dL_law_521 : decode cL_law 521 = .ok (.if_icmp .eq 31, 3) := by decide +kernel
theorem dL_law_524 : decode cL_law 524 = .ok (.iconst 0, 1) := by decide +kernel
theorem dL_law_525 : decode cL_law 525 = .ok (.ireturn, 1) := by decide +kernel
theorem dL_law_526 : decode cL_law 526 = .ok (.aload_n 1, 1) := by decide +kernel
theorem dL_law_527 : decode cL_law 527 = .ok (.invokevirtual 86, 3) := by decide +kernel
theorem dL_law_530 : decode cL_law 530 = .ok (.aload_n 2, 1) := by decide +kernel
theorem dL_law_531 : decode cL_law 531 = .ok (.invokevirtual 89, 3) := by decide +kernel
theorem dL_law_534 : decode cL_law 534 = .ok (.if_icmp .eq 18, 3) := by decide +kernel
theorem dL_law_537 : decode cL_law 537 = .ok (.iconst 0, 1) := by decide +kernel
theorem dL_law_538 : decode cL_law 538 = .ok (.ireturn, 1) := by decide +kernel
theorem dL_law_539 : decode cL_law 539 = .ok (.aload_n 1, 1) := by decide +kernel
theorem dL_law_540 : decode cL_law 540 = .ok (.invokevirtual 90, 3) := by decide +kernel
theorem dL_law_543 : decode cL_law 543 = .ok (.aload_n 2, 1) := by decide +kernel
theorem dL_law_544 : decode cL_law 544 = .ok (.invokevirtual 93, 3) := by decide +kernel
theorem dL_law_547 : decode cL_law 547 = .ok (.if_icmp .eq 5, 3) := by decide +kernel
theorem dL_law_550 : decode cL_law 550 = .ok (.iconst 0, 1) := by decide +kernel
theorem dL_law_551 : decode cL_law 551 = .ok (.ireturn, 1) := by decide +kernel
theorem dL_law_552 : decode cL_law 552 = .ok (.iinc 4 3, 3) := by decide +kernel
theorem dL_law_555 : decode cL_law 555 = .ok (.goto (-532), 3) := by decide +kernel
theorem dL_law_558 : decode cL_law 558 = .ok (.iconst 1, 1) := by decide +kernel
theorem dL_law_559 : decode cL_law 559 = .ok (.ireturn, 1) := by decide +kernel
end
section
set_option maxRecDepth 20000 in
theorem ggX0_weigh_X0_startWithByte : GoodIn wsX0_weigh wsX0_startWithByte := goodIn_r _ [11, 2, 12, 3, 4, 13, 49, 50, 51, 52, 53, 54, 55, 56, 57, 58, 59, 60] (by decide +kernel) (by decide +kernel)
set_option maxRecDepth 20000 in
theorem gX0_weigh_X0_startWithByte : GoodIn wsX0_weigh (wsV RX0 33 RX0 yX0_startWithByte wsX0_startWithByte) := goodIn_app (goodIn_of _ (by decide +kernel)) ggX0_weigh_X0_startWithByte
set_option maxRecDepth 20000 in
theorem ggX0_weigh_X4_standsAt : GoodIn wsX0_weigh wsX4_standsAt := goodIn_r _ [18, 19, 20, 21, 22, 23, 17, 24, 25, 26, 27, 28, 29, 30, 31, 32, 33, 34, 35, 36, 47, 48, 53, 54, 55, 56, 57, 58, 59, 60] (by decide +kernel) (by decide +kernel)
set_option maxRecDepth 20000 in
theorem gX0_weigh_X4_standsAt : GoodIn wsX0_weigh (wsV RX0 42 RX4 yX4_standsAt wsX4_standsAt) := goodIn_app (goodIn_of _ (by decide +kernel)) ggX0_weigh_X4_standsAt
set_option maxRecDepth 20000 in
theorem ggX0_weigh_X0_startWithLearned : GoodIn wsX0_weigh wsX0_startWithLearned := goodIn_r _ [40, 12, 2, 3, 4, 41, 42, 43, 44, 45, 13, 46, 22, 23, 17, 24, 25, 26, 27, 28, 29, 30, 53, 54, 55, 56, 57, 58, 59, 60, 49, 50, 51, 52] (by decide +kernel) (by decide +kernel)
set_option maxRecDepth 20000 in
theorem gX0_weigh_X0_startWithLearned : GoodIn wsX0_weigh (wsV RX0 46 RX0 yX0_startWithLearned wsX0_startWithLearned) := goodIn_app (goodIn_of _ (by decide +kernel)) ggX0_weigh_X0_startWithLearned
set_option maxRecDepth 20000 in
theorem ggX0_chosenAfter_X4_sizeOf : GoodIn wsX0_chosenAfter wsX4_sizeOf := goodIn_r _ [6, 7, 8, 9, 10, 5, 11, 12, 17, 18, 19, 20, 21, 22, 23, 24] (by decide +kernel) (by decide +kernel)
set_option maxRecDepth 20000 in
theorem gX0_chosenAfter_X4_sizeOf : GoodIn wsX0_chosenAfter (wsV RX0 49 RX4 yX4_sizeOf wsX4_sizeOf) := goodIn_app (goodIn_of _ (by decide +kernel)) ggX0_chosenAfter_X4_sizeOf
set_option maxRecDepth 20000 in
theorem ggX0_startWithLearned_X4_sizeOf : GoodIn wsX0_startWithLearned wsX4_sizeOf := goodIn_r _ [15, 16, 17, 18, 19, 14, 20, 21, 22, 23, 24, 25, 26, 27, 28, 29] (by decide +kernel) (by decide +kernel)
set_option maxRecDepth 20000 in
theorem gX0_startWithLearned_X4_sizeOf : GoodIn wsX0_startWithLearned (wsV RX0 49 RX4 yX4_sizeOf wsX4_sizeOf) := goodIn_app (goodIn_of _ (by decide +kernel)) ggX0_startWithLearned_X4_sizeOf
set_option maxRecDepth 20000 in
theorem ggX1_countPairs_J7_fill_53178 : GoodIn wsX1_countPairs wsJ7_fill_53178 := goodIn_r _ [8] (by decide +kernel) (by decide +kernel)
set_option maxRecDepth 20000 in
theorem gX1_countPairs_J7_fill_53178 : GoodIn wsX1_countPairs (va_wsS RX1 21 yJ7_fill_53178 wsJ7_fill_53178) := goodIn_app (goodIn_of _ (by decide +kernel)) ggX1_countPairs_J7_fill_53178
set_option maxRecDepth 20000 in
theorem ggX1_countPairs_X2_hasNext : GoodIn wsX1_countPairs wsX2_hasNext := goodIn_r _ [13, 14, 15, 26, 27, 28, 29] (by decide +kernel) (by decide +kernel)
set_option maxRecDepth 20000 in
theorem gX1_countPairs_X2_hasNext : GoodIn wsX1_countPairs (wsV RX1 33 RX2 yX2_hasNext wsX2_hasNext) := goodIn_app (goodIn_of _ (by decide +kernel)) ggX1_countPairs_X2_hasNext
set_option maxRecDepth 20000 in
theorem ggX1_countPairs_X1_add : GoodIn wsX1_countPairs wsX1_add := goodIn_r _ [20, 1, 21, 22, 23, 24, 25] (by decide +kernel) (by decide +kernel)
set_option maxRecDepth 20000 in
theorem gX1_countPairs_X1_add : GoodIn wsX1_countPairs (wsV RX1 43 RX1 yX1_add wsX1_add) := goodIn_app (goodIn_of _ (by decide +kernel)) ggX1_countPairs_X1_add
set_option maxRecDepth 20000 in
theorem ggX1_mostFrequent_X1_isAhead : GoodIn wsX1_mostFrequent wsX1_isAhead := goodIn_r _ [6, 1, 7, 8, 9, 10] (by decide +kernel) (by decide +kernel)
set_option maxRecDepth 20000 in
theorem gX1_mostFrequent_X1_isAhead : GoodIn wsX1_mostFrequent (wsV RX1 47 RX1 yX1_isAhead wsX1_isAhead) := goodIn_app (goodIn_of _ (by decide +kernel)) ggX1_mostFrequent_X1_isAhead
set_option maxRecDepth 20000 in
theorem ggX2_spell_X3_beginsWord : GoodIn wsX2_spell wsX3_beginsWord := goodIn_r _ [11, 12, 13, 14, 15] (by decide +kernel) (by decide +kernel)
set_option maxRecDepth 20000 in
theorem gX2_spell_X3_beginsWord : GoodIn wsX2_spell (wsV RX2 32 RX3 yX3_beginsWord wsX3_beginsWord) := goodIn_app (goodIn_of _ (by decide +kernel)) ggX2_spell_X3_beginsWord
set_option maxRecDepth 20000 in
theorem ggX2_merge_X2_hasNext : GoodIn wsX2_merge wsX2_hasNext := goodIn_r _ [9, 1, 4, 10, 11, 12, 13] (by decide +kernel) (by decide +kernel)
set_option maxRecDepth 20000 in
theorem gX2_merge_X2_hasNext : GoodIn wsX2_merge (wsV RX2 36 RX2 yX2_hasNext wsX2_hasNext) := goodIn_app (goodIn_of _ (by decide +kernel)) ggX2_merge_X2_hasNext
set_option maxRecDepth 20000 in
theorem ggX4_init_J7_fill_53178 : GoodIn wsX4_init wsJ7_fill_53178 := goodIn_r _ [16] (by decide +kernel) (by decide +kernel)
set_option maxRecDepth 20000 in
theorem gX4_init_J7_fill_53178 : GoodIn wsX4_init (va_wsS RX4 37 yJ7_fill_53178 wsJ7_fill_53178) := goodIn_app (goodIn_of _ (by decide +kernel)) ggX4_init_J7_fill_53178
set_option maxRecDepth 20000 in
theorem ggX4_add_X4_sizeOf : GoodIn wsX4_add wsX4_sizeOf := goodIn_r _ [12, 5, 13, 14, 15, 11, 16, 1, 17, 18, 19, 20, 21, 22, 23, 24] (by decide +kernel) (by decide +kernel)
set_option maxRecDepth 20000 in
theorem gX4_add_X4_sizeOf : GoodIn wsX4_add (wsV RX4 54 RX4 yX4_sizeOf wsX4_sizeOf) := goodIn_app (goodIn_of _ (by decide +kernel)) ggX4_add_X4_sizeOf
set_option maxRecDepth 20000 in
theorem ggX4_sizeOf_X4_isLearned : GoodIn wsX4_sizeOf wsX4_isLearned := goodIn_r _ [6, 7, 8, 9, 10, 11, 12, 13, 14, 15] (by decide +kernel) (by decide +kernel)
set_option maxRecDepth 20000 in
theorem gX4_sizeOf_X4_isLearned : GoodIn wsX4_sizeOf (wsV RX4 58 RX4 yX4_isLearned wsX4_isLearned) := goodIn_app (goodIn_of _ (by decide +kernel)) ggX4_sizeOf_X4_isLearned
set_option maxRecDepth 20000 in
theorem ggX4_byteOf_X4_isLearned : GoodIn wsX4_byteOf wsX4_isLearned := goodIn_r _ [7, 8, 9, 10, 11, 12, 13, 14, 15, 16] (by decide +kernel) (by decide +kernel)
set_option maxRecDepth 20000 in
theorem gX4_byteOf_X4_isLearned : GoodIn wsX4_byteOf (wsV RX4 58 RX4 yX4_isLearned wsX4_isLearned) := goodIn_app (goodIn_of _ (by decide +kernel)) ggX4_byteOf_X4_isLearned
set_option maxRecDepth 20000 in
theorem ggX4_standsAt_X4_sizeOf : GoodIn wsX4_standsAt wsX4_sizeOf := goodIn_r _ [7, 8, 9, 10, 11, 6, 12, 13, 22, 23, 24, 25, 26, 27, 28, 29] (by decide +kernel) (by decide +kernel)
set_option maxRecDepth 20000 in
theorem gX4_standsAt_X4_sizeOf : GoodIn wsX4_standsAt (wsV RX4 54 RX4 yX4_sizeOf wsX4_sizeOf) := goodIn_app (goodIn_of _ (by decide +kernel)) ggX4_standsAt_X4_sizeOf
set_option maxRecDepth 20000 in
theorem ggX4_standsAt_X4_byteOf : GoodIn wsX4_standsAt wsX4_byteOf := goodIn_r _ [17, 18, 19, 9, 10, 11, 6, 12, 13, 22, 23, 24, 25, 26, 27, 28, 29] (by decide +kernel) (by decide +kernel)
set_option maxRecDepth 20000 in
theorem gX4_standsAt_X4_byteOf : GoodIn wsX4_standsAt (wsV RX4 65 RX4 yX4_byteOf wsX4_byteOf) := goodIn_app (goodIn_of _ (by decide +kernel)) ggX4_standsAt_X4_byteOf
set_option maxRecDepth 20000 in
theorem ggX5_init_X3_init : GoodIn wsX5_init wsX3_init := goodIn_r _ [26, 27, 2, 3, 28, 29, 30, 71, 72] (by decide +kernel) (by decide +kernel)
set_option maxRecDepth 20000 in
theorem gX5_init_X3_init : GoodIn wsX5_init (wsX3_init) := ggX5_init_X3_init
set_option maxRecDepth 20000 in
theorem ggX5_init_X4_init : GoodIn wsX5_init wsX4_init := goodIn_r _ [33, 34, 2, 3, 28, 35, 36, 37, 38, 39, 40, 41, 42, 43, 44, 45, 46, 78, 79, 80, 81, 82, 83, 84, 85] (by decide +kernel) (by decide +kernel)
set_option maxRecDepth 20000 in
theorem gX5_init_X4_init : GoodIn wsX5_init (wsX4_init) := ggX5_init_X4_init
set_option maxRecDepth 20000 in
theorem ggX5_init_X2_init : GoodIn wsX5_init wsX2_init := goodIn_r _ [49, 50, 2, 3, 28, 51, 52, 53, 54, 55, 86, 87, 88, 89] (by decide +kernel) (by decide +kernel)
set_option maxRecDepth 20000 in
theorem gX5_init_X2_init : GoodIn wsX5_init (wsX2_init) := ggX5_init_X2_init
set_option maxRecDepth 20000 in
theorem ggX5_init_X1_init : GoodIn wsX5_init wsX1_init := goodIn_r _ [58, 59, 2, 3, 28, 60, 61, 62, 90, 91, 92] (by decide +kernel) (by decide +kernel)
set_option maxRecDepth 20000 in
theorem gX5_init_X1_init : GoodIn wsX5_init (wsX1_init) := ggX5_init_X1_init
set_option maxRecDepth 20000 in
theorem ggX5_init_X0_init : GoodIn wsX5_init wsX0_init := goodIn_r _ [65, 66, 2, 3, 28, 67, 68, 69, 70, 93, 94, 95, 96] (by decide +kernel) (by decide +kernel)
set_option maxRecDepth 20000 in
theorem gX5_init_X0_init : GoodIn wsX5_init (wsX0_init) := ggX5_init_X0_init
set_option maxRecDepth 20000 in
theorem ggX5_octet_X3_append : GoodIn wsX5_octet wsX3_append := goodIn_r _ [7, 8, 9, 15, 16] (by decide +kernel) (by decide +kernel)
set_option maxRecDepth 20000 in
theorem gX5_octet_X3_append : GoodIn wsX5_octet (wsV RX5 48 RX3 yX3_append wsX3_append) := goodIn_app (goodIn_of _ (by decide +kernel)) ggX5_octet_X3_append
set_option maxRecDepth 20000 in
theorem ggX5_words_X3_beginsWord : GoodIn wsX5_words wsX3_beginsWord := goodIn_r _ [7, 8, 9, 15, 16] (by decide +kernel) (by decide +kernel)
set_option maxRecDepth 20000 in
theorem gX5_words_X3_beginsWord : GoodIn wsX5_words (wsV RX5 56 RX3 yX3_beginsWord wsX3_beginsWord) := goodIn_app (goodIn_of _ (by decide +kernel)) ggX5_words_X3_beginsWord
set_option maxRecDepth 20000 in
theorem ggX5_learn_X4_startFrom : GoodIn wsX5_learn wsX4_startFrom := goodIn_r _ [9, 10, 11, 12, 13, 14, 15, 16, 111, 112, 103, 104, 105, 106, 107, 108, 109, 110] (by decide +kernel) (by decide +kernel)
set_option maxRecDepth 20000 in
theorem gX5_learn_X4_startFrom : GoodIn wsX5_learn (wsV RX5 60 RX4 yX4_startFrom wsX4_startFrom) := goodIn_app (goodIn_of _ (by decide +kernel)) ggX5_learn_X4_startFrom
set_option maxRecDepth 20000 in
theorem ggX5_learn_X2_spell : GoodIn wsX5_learn wsX2_spell := goodIn_r _ [21, 22, 23, 24, 25, 26, 27, 28, 29, 30, 31, 32, 33, 34, 111, 112, 113, 114, 115, 116] (by decide +kernel) (by decide +kernel)
set_option maxRecDepth 20000 in
theorem gX5_learn_X2_spell : GoodIn wsX5_learn (wsV RX5 64 RX2 yX2_spell wsX2_spell) := goodIn_app (goodIn_of _ (by decide +kernel)) ggX5_learn_X2_spell
set_option maxRecDepth 20000 in
theorem ggX5_learn_X5_learnNext : GoodIn wsX5_learn wsX5_learnNext := goodIn_r _ [39, 40, 3, 41, 1, 4, 42, 43, 44, 45, 46, 47, 48, 49, 50, 51, 52, 53, 54, 55, 56, 57, 58, 59, 20, 60, 23, 27, 61, 62, 63, 64, 65, 66, 67, 68, 69, 70, 71, 72, 73, 74, 75, 76, 77, 8, 78, 16, 79, 80, 81, 82, 83, 84, 85, 86, 87, 88, 89, 90, 91, 92, 93, 94, 95, 96, 24, 26, 97, 98, 99, 100, 101, 102, 117, 118, 119, 103, 104, 105, 106, 107, 108, 109, 110, 113, 114, 115, 116] (by decide +kernel) (by decide +kernel)
set_option maxRecDepth 20000 in
theorem gX5_learn_X5_learnNext : GoodIn wsX5_learn (wsV RX5 67 RX5 yX5_learnNext wsX5_learnNext) := goodIn_app (goodIn_of _ (by decide +kernel)) ggX5_learn_X5_learnNext
set_option maxRecDepth 20000 in
theorem ggX5_pair_X4_isLearned : GoodIn wsX5_pair wsX4_isLearned := goodIn_r _ [8, 9, 15, 16, 17, 18, 19, 20, 21, 22] (by decide +kernel) (by decide +kernel)
set_option maxRecDepth 20000 in
theorem gX5_pair_X4_isLearned : GoodIn wsX5_pair (wsV RX5 74 RX4 yX4_isLearned wsX4_isLearned) := goodIn_app (goodIn_of _ (by decide +kernel)) ggX5_pair_X4_isLearned
set_option maxRecDepth 20000 in
theorem ggX5_count_X4_isLearned : GoodIn wsX5_count wsX4_isLearned := goodIn_r _ [7, 8, 14, 15, 16, 17, 18, 19, 20, 21] (by decide +kernel) (by decide +kernel)
set_option maxRecDepth 20000 in
theorem gX5_count_X4_isLearned : GoodIn wsX5_count (wsV RX5 74 RX4 yX4_isLearned wsX4_isLearned) := goodIn_app (goodIn_of _ (by decide +kernel)) ggX5_count_X4_isLearned
set_option maxRecDepth 20000 in
theorem ggX5_size_X4_isToken : GoodIn wsX5_size wsX4_isToken := goodIn_r _ [6, 7, 22, 23, 24, 25, 26, 27, 28, 29] (by decide +kernel) (by decide +kernel)
set_option maxRecDepth 20000 in
theorem gX5_size_X4_isToken : GoodIn wsX5_size (wsV RX5 86 RX4 yX4_isToken wsX4_isToken) := goodIn_app (goodIn_of _ (by decide +kernel)) ggX5_size_X4_isToken
set_option maxRecDepth 20000 in
theorem ggX5_size_X4_sizeOf : GoodIn wsX5_size wsX4_sizeOf := goodIn_r _ [11, 12, 13, 14, 15, 5, 16, 7, 22, 23, 24, 25, 26, 27, 28, 29] (by decide +kernel) (by decide +kernel)
set_option maxRecDepth 20000 in
theorem gX5_size_X4_sizeOf : GoodIn wsX5_size (wsV RX5 89 RX4 yX4_sizeOf wsX4_sizeOf) := goodIn_app (goodIn_of _ (by decide +kernel)) ggX5_size_X4_sizeOf
set_option maxRecDepth 20000 in
theorem ggX5_decode_X4_isToken : GoodIn wsX5_decode wsX4_isToken := goodIn_r _ [9, 10, 37, 38, 39, 40, 41, 42, 43, 44] (by decide +kernel) (by decide +kernel)
set_option maxRecDepth 20000 in
theorem gX5_decode_X4_isToken : GoodIn wsX5_decode (wsV RX5 86 RX4 yX4_isToken wsX4_isToken) := goodIn_app (goodIn_of _ (by decide +kernel)) ggX5_decode_X4_isToken
set_option maxRecDepth 20000 in
theorem ggX5_decode_X4_sizeOf : GoodIn wsX5_decode wsX4_sizeOf := goodIn_r _ [14, 15, 16, 17, 18, 8, 19, 10, 37, 38, 39, 40, 41, 42, 43, 44] (by decide +kernel) (by decide +kernel)
set_option maxRecDepth 20000 in
theorem gX5_decode_X4_sizeOf : GoodIn wsX5_decode (wsV RX5 89 RX4 yX4_sizeOf wsX4_sizeOf) := goodIn_app (goodIn_of _ (by decide +kernel)) ggX5_decode_X4_sizeOf
set_option maxRecDepth 20000 in
theorem ggX5_decode_X4_byteOf : GoodIn wsX5_decode wsX4_byteOf := goodIn_r _ [23, 24, 25, 16, 17, 18, 8, 19, 10, 37, 38, 39, 40, 41, 42, 43, 44] (by decide +kernel) (by decide +kernel)
set_option maxRecDepth 20000 in
theorem gX5_decode_X4_byteOf : GoodIn wsX5_decode (wsV RX5 100 RX4 yX4_byteOf wsX4_byteOf) := goodIn_app (goodIn_of _ (by decide +kernel)) ggX5_decode_X4_byteOf
set_option maxRecDepth 20000 in
theorem ggX5_tokens_X5_tellText : GoodIn wsX5_tokens wsX5_tellText := goodIn_r _ [7, 1, 8, 9, 10, 11, 12, 13, 14, 15, 16, 17, 18, 19, 20, 21, 22, 23, 24, 25, 26, 27, 28, 29, 30, 31, 32, 33, 34, 35, 36, 37, 38, 39, 40, 41, 42, 43, 48, 49, 50, 51, 52, 53, 54, 55, 56, 57, 44, 45, 46, 47] (by decide +kernel) (by decide +kernel)
set_option maxRecDepth 20000 in
theorem gX5_tokens_X5_tellText : GoodIn wsX5_tokens (wsV RX5 104 RX5 yX5_tellText wsX5_tellText) := goodIn_app (goodIn_of _ (by decide +kernel)) ggX5_tokens_X5_tellText
set_option maxRecDepth 20000 in
theorem ggX5_at_X5_tellText : GoodIn wsX5_at wsX5_tellText := goodIn_r _ [8, 1, 9, 10, 11, 12, 13, 14, 15, 16, 17, 18, 19, 20, 21, 22, 23, 24, 25, 26, 27, 28, 29, 30, 31, 32, 33, 34, 35, 36, 37, 38, 39, 40, 41, 42, 43, 44, 49, 50, 51, 52, 53, 54, 55, 56, 57, 58, 45, 46, 47, 48] (by decide +kernel) (by decide +kernel)
set_option maxRecDepth 20000 in
theorem gX5_at_X5_tellText : GoodIn wsX5_at (wsV RX5 104 RX5 yX5_tellText wsX5_tellText) := goodIn_app (goodIn_of _ (by decide +kernel)) ggX5_at_X5_tellText
set_option maxRecDepth 20000 in
theorem ggX5_from_X5_tellText : GoodIn wsX5_from wsX5_tellText := goodIn_r _ [8, 1, 9, 10, 11, 12, 13, 14, 15, 16, 17, 18, 19, 20, 21, 22, 23, 24, 25, 26, 27, 28, 29, 30, 31, 32, 33, 34, 35, 36, 37, 38, 39, 40, 41, 42, 43, 44, 49, 50, 51, 52, 53, 54, 55, 56, 57, 58, 45, 46, 47, 48] (by decide +kernel) (by decide +kernel)
set_option maxRecDepth 20000 in
theorem gX5_from_X5_tellText : GoodIn wsX5_from (wsV RX5 104 RX5 yX5_tellText wsX5_tellText) := goodIn_app (goodIn_of _ (by decide +kernel)) ggX5_from_X5_tellText
set_option maxRecDepth 20000 in
theorem ggX5_points_X4_isToken : GoodIn wsX5_points wsX4_isToken := goodIn_r _ [7, 8, 14, 15, 16, 17, 18, 19, 20, 21] (by decide +kernel) (by decide +kernel)
set_option maxRecDepth 20000 in
theorem gX5_points_X4_isToken : GoodIn wsX5_points (wsV RX5 86 RX4 yX4_isToken wsX4_isToken) := goodIn_app (goodIn_of _ (by decide +kernel)) ggX5_points_X4_isToken
set_option maxRecDepth 20000 in
theorem ggX5_best_X0_weigh : GoodIn wsX5_best wsX0_weigh := goodIn_r _ [9, 10, 11, 12, 13, 14, 15, 16, 17, 18, 8, 19, 20, 21, 22, 23, 24, 25, 26, 27, 28, 29, 30, 31, 32, 33, 34, 35, 36, 37, 38, 39, 40, 41, 42, 43, 44, 45, 46, 47, 48, 49, 50, 51, 52, 53, 54, 64, 65, 60, 61, 62, 63, 66, 67, 68, 69, 70, 71, 72, 73] (by decide +kernel) (by decide +kernel)
set_option maxRecDepth 20000 in
theorem gX5_best_X0_weigh : GoodIn wsX5_best (wsV RX5 117 RX0 yX0_weigh wsX0_weigh) := goodIn_app (goodIn_of _ (by decide +kernel)) ggX5_best_X0_weigh
set_option maxRecDepth 20000 in
theorem ggX5_bestAt_X0_weigh : GoodIn wsX5_bestAt wsX0_weigh := goodIn_r _ [9, 10, 11, 12, 13, 14, 15, 16, 17, 18, 8, 19, 20, 21, 22, 23, 24, 25, 26, 27, 28, 29, 30, 31, 32, 33, 34, 35, 36, 37, 38, 39, 40, 41, 42, 43, 44, 45, 46, 47, 48, 49, 50, 51, 52, 53, 54, 68, 69, 64, 65, 66, 67, 70, 71, 72, 73, 74, 75, 76, 77] (by decide +kernel) (by decide +kernel)
set_option maxRecDepth 20000 in
theorem gX5_bestAt_X0_weigh : GoodIn wsX5_bestAt (wsV RX5 117 RX0 yX0_weigh wsX0_weigh) := goodIn_app (goodIn_of _ (by decide +kernel)) ggX5_bestAt_X0_weigh
set_option maxRecDepth 20000 in
theorem ggX5_bestAt_X0_chosenAfter : GoodIn wsX5_bestAt wsX0_chosenAfter := goodIn_r _ [58, 21, 54, 30, 31, 25, 32, 33, 34, 35, 36, 37, 38, 64, 65, 66, 67, 70, 71, 72, 73, 74, 75, 76, 77] (by decide +kernel) (by decide +kernel)
set_option maxRecDepth 20000 in
theorem gX5_bestAt_X0_chosenAfter : GoodIn wsX5_bestAt (wsV RX5 124 RX0 yX0_chosenAfter wsX0_chosenAfter) := goodIn_app (goodIn_of _ (by decide +kernel)) ggX5_bestAt_X0_chosenAfter
set_option maxRecDepth 20000 in
theorem ggX5_sum_X0_weigh : GoodIn wsX5_sum wsX0_weigh := goodIn_r _ [9, 10, 11, 12, 13, 14, 15, 16, 17, 18, 8, 19, 20, 21, 22, 23, 24, 25, 26, 27, 28, 29, 30, 31, 32, 33, 34, 35, 36, 37, 38, 39, 40, 41, 42, 43, 44, 45, 46, 47, 48, 49, 50, 51, 52, 53, 54, 64, 65, 60, 61, 62, 63, 66, 67, 68, 69, 70, 71, 72, 73] (by decide +kernel) (by decide +kernel)
set_option maxRecDepth 20000 in
theorem gX5_sum_X0_weigh : GoodIn wsX5_sum (wsV RX5 117 RX0 yX0_weigh wsX0_weigh) := goodIn_app (goodIn_of _ (by decide +kernel)) ggX5_sum_X0_weigh
set_option maxRecDepth 20000 in
theorem ggX5_ways_X0_weigh : GoodIn wsX5_ways wsX0_weigh := goodIn_r _ [9, 10, 11, 12, 13, 14, 15, 16, 17, 18, 8, 19, 20, 21, 22, 23, 24, 25, 26, 27, 28, 29, 30, 31, 32, 33, 34, 35, 36, 37, 38, 39, 40, 41, 42, 43, 44, 45, 46, 47, 48, 49, 50, 51, 52, 53, 54, 64, 65, 60, 61, 62, 63, 66, 67, 68, 69, 70, 71, 72, 73] (by decide +kernel) (by decide +kernel)
set_option maxRecDepth 20000 in
theorem gX5_ways_X0_weigh : GoodIn wsX5_ways (wsV RX5 117 RX0 yX0_weigh wsX0_weigh) := goodIn_app (goodIn_of _ (by decide +kernel)) ggX5_ways_X0_weigh
set_option maxRecDepth 20000 in
theorem ggX5_learnNext_X1_countPairs : GoodIn wsX5_learnNext wsX1_countPairs := goodIn_r _ [12, 13, 14, 15, 16, 17, 18, 19, 20, 21, 22, 23, 24, 25, 26, 27, 28, 29, 30, 11, 31, 32, 33, 74, 75, 76, 85, 86, 87, 88] (by decide +kernel) (by decide +kernel)
set_option maxRecDepth 20000 in
theorem gX5_learnNext_X1_countPairs : GoodIn wsX5_learnNext (wsV RX5 134 RX1 yX1_countPairs wsX1_countPairs) := goodIn_app (goodIn_of _ (by decide +kernel)) ggX5_learnNext_X1_countPairs
set_option maxRecDepth 20000 in
theorem ggX5_learnNext_X1_mostFrequent : GoodIn wsX5_learnNext wsX1_mostFrequent := goodIn_r _ [37, 13, 38, 39, 40, 11, 41, 32, 74, 75, 76] (by decide +kernel) (by decide +kernel)
set_option maxRecDepth 20000 in
theorem gX5_learnNext_X1_mostFrequent : GoodIn wsX5_learnNext (wsV RX5 138 RX1 yX1_mostFrequent wsX1_mostFrequent) := goodIn_app (goodIn_of _ (by decide +kernel)) ggX5_learnNext_X1_mostFrequent
set_option maxRecDepth 20000 in
theorem ggX5_learnNext_X4_add : GoodIn wsX5_learnNext wsX4_add := goodIn_r _ [46, 47, 48, 49, 50, 51, 52, 53, 54, 55, 56, 45, 57, 58, 59, 60, 61, 77, 78, 79, 80, 81, 82, 83, 84] (by decide +kernel) (by decide +kernel)
set_option maxRecDepth 20000 in
theorem gX5_learnNext_X4_add : GoodIn wsX5_learnNext (wsV RX5 149 RX4 yX4_add wsX4_add) := goodIn_app (goodIn_of _ (by decide +kernel)) ggX5_learnNext_X4_add
set_option maxRecDepth 20000 in
theorem ggX5_learnNext_X2_merge : GoodIn wsX5_learnNext wsX2_merge := goodIn_r _ [65, 26, 66, 67, 27, 68, 22, 23, 24, 25, 85, 86, 87, 88] (by decide +kernel) (by decide +kernel)
set_option maxRecDepth 20000 in
theorem gX5_learnNext_X2_merge : GoodIn wsX5_learnNext (wsV RX5 153 RX2 yX2_merge wsX2_merge) := goodIn_app (goodIn_of _ (by decide +kernel)) ggX5_learnNext_X2_merge
set_option maxRecDepth 20000 in
theorem ggX5_tellText_X2_spell : GoodIn wsX5_tellText wsX2_spell := goodIn_r _ [11, 12, 13, 14, 15, 16, 17, 18, 19, 20, 21, 22, 23, 24, 46, 47, 48, 49, 50, 51] (by decide +kernel) (by decide +kernel)
set_option maxRecDepth 20000 in
theorem gX5_tellText_X2_spell : GoodIn wsX5_tellText (wsV RX5 64 RX2 yX2_spell wsX2_spell) := goodIn_app (goodIn_of _ (by decide +kernel)) ggX5_tellText_X2_spell
set_option maxRecDepth 20000 in
theorem ggX5_tellText_X2_merge : GoodIn wsX5_tellText wsX2_merge := goodIn_r _ [28, 13, 14, 16, 17, 29, 30, 31, 10, 32, 48, 49, 50, 51] (by decide +kernel) (by decide +kernel)
set_option maxRecDepth 20000 in
theorem gX5_tellText_X2_merge : GoodIn wsX5_tellText (wsV RX5 153 RX2 yX2_merge wsX2_merge) := goodIn_app (goodIn_of _ (by decide +kernel)) ggX5_tellText_X2_merge
set_option maxRecDepth 20000 in
theorem ggX6_octet_X6_in : GoodIn wsX6_octet wsX6_in := goodIn_r _ [7] (by decide +kernel) (by decide +kernel)
set_option maxRecDepth 20000 in
theorem gX6_octet_X6_in : GoodIn wsX6_octet (va_wsS RX6 53 yX6_in wsX6_in) := goodIn_app (goodIn_of _ (by decide +kernel)) ggX6_octet_X6_in
set_option maxRecDepth 20000 in
theorem ggX6_cut_X6_in : GoodIn wsX6_cut wsX6_in := goodIn_r _ [6] (by decide +kernel) (by decide +kernel)
set_option maxRecDepth 20000 in
theorem gX6_cut_X6_in : GoodIn wsX6_cut (va_wsS RX6 53 yX6_in wsX6_in) := goodIn_app (goodIn_of _ (by decide +kernel)) ggX6_cut_X6_in
set_option maxRecDepth 20000 in
theorem ggX6_byteAt_X6_in : GoodIn wsX6_byteAt wsX6_in := goodIn_r _ [7] (by decide +kernel) (by decide +kernel)
set_option maxRecDepth 20000 in
theorem gX6_byteAt_X6_in : GoodIn wsX6_byteAt (va_wsS RX6 53 yX6_in wsX6_in) := goodIn_app (goodIn_of _ (by decide +kernel)) ggX6_byteAt_X6_in
set_option maxRecDepth 20000 in
theorem ggX6_words_X6_beginsWord : GoodIn wsX6_words wsX6_beginsWord := goodIn_r _ [7, 8, 9, 10, 11, 12, 13, 14, 15, 16, 17, 18, 19, 20, 21, 22, 23, 24, 25] (by decide +kernel) (by decide +kernel)
set_option maxRecDepth 20000 in
theorem gX6_words_X6_beginsWord : GoodIn wsX6_words (wsV RX6 60 RX6 yX6_beginsWord wsX6_beginsWord) := goodIn_app (goodIn_of _ (by decide +kernel)) ggX6_words_X6_beginsWord
set_option maxRecDepth 20000 in
theorem ggX6_isPair_X6_beginsWord : GoodIn wsX6_isPair wsX6_beginsWord := goodIn_r _ [8, 9, 10, 11, 12, 13, 14, 15, 16, 17, 18, 19, 20, 21, 22, 23, 24, 25, 26] (by decide +kernel) (by decide +kernel)
set_option maxRecDepth 20000 in
theorem gX6_isPair_X6_beginsWord : GoodIn wsX6_isPair (wsV RX6 60 RX6 yX6_beginsWord wsX6_beginsWord) := goodIn_app (goodIn_of _ (by decide +kernel)) ggX6_isPair_X6_beginsWord
set_option maxRecDepth 20000 in
theorem ggX6_join_X6_isPair : GoodIn wsX6_join wsX6_isPair := goodIn_r _ [8, 1, 3, 2, 9, 10, 11, 7, 12, 13, 14, 15, 16, 17, 18, 19, 20, 21, 22, 23, 24, 25, 26, 27, 28, 29, 30] (by decide +kernel) (by decide +kernel)
set_option maxRecDepth 20000 in
theorem gX6_join_X6_isPair : GoodIn wsX6_join (wsV RX6 67 RX6 yX6_isPair wsX6_isPair) := goodIn_app (goodIn_of _ (by decide +kernel)) ggX6_join_X6_isPair
set_option maxRecDepth 20000 in
theorem ggX6_keep_X6_sizeOf : GoodIn wsX6_keep wsX6_sizeOf := goodIn_r _ [12, 5, 17, 18, 19, 20, 21, 22, 23, 24, 25, 26, 27, 28, 29, 30, 31, 32, 33] (by decide +kernel) (by decide +kernel)
set_option maxRecDepth 20000 in
theorem gX6_keep_X6_sizeOf : GoodIn wsX6_keep (wsV RX6 73 RX6 yX6_sizeOf wsX6_sizeOf) := goodIn_app (goodIn_of _ (by decide +kernel)) ggX6_keep_X6_sizeOf
set_option maxRecDepth 20000 in
theorem ggX6_keep_X6_byteOf : GoodIn wsX6_keep wsX6_byteOf := goodIn_r _ [16, 6, 17, 18, 19, 20, 21, 22, 23, 24, 25, 26, 27, 28, 29, 30, 31, 32, 33] (by decide +kernel) (by decide +kernel)
set_option maxRecDepth 20000 in
theorem gX6_keep_X6_byteOf : GoodIn wsX6_keep (wsV RX6 77 RX6 yX6_byteOf wsX6_byteOf) := goodIn_app (goodIn_of _ (by decide +kernel)) ggX6_keep_X6_byteOf
set_option maxRecDepth 20000 in
theorem ggX6_countOf_X6_isPair : GoodIn wsX6_countOf wsX6_isPair := goodIn_r _ [6, 1, 7, 8, 9, 10, 11, 5, 12, 13, 14, 15, 16, 17, 18, 19, 20, 21, 22, 23, 24, 25, 26, 27, 28, 29, 30] (by decide +kernel) (by decide +kernel)
set_option maxRecDepth 20000 in
theorem gX6_countOf_X6_isPair : GoodIn wsX6_countOf (wsV RX6 67 RX6 yX6_isPair wsX6_isPair) := goodIn_app (goodIn_of _ (by decide +kernel)) ggX6_countOf_X6_isPair
set_option maxRecDepth 20000 in
theorem ggX6_learn_X6_in : GoodIn wsX6_learn wsX6_in := goodIn_r _ [8] (by decide +kernel) (by decide +kernel)
set_option maxRecDepth 20000 in
theorem gX6_learn_X6_in : GoodIn wsX6_learn (va_wsS RX6 53 yX6_in wsX6_in) := goodIn_app (goodIn_of _ (by decide +kernel)) ggX6_learn_X6_in
set_option maxRecDepth 20000 in
theorem ggX6_learn_X6_layBytes : GoodIn wsX6_learn wsX6_layBytes := goodIn_r _ [12, 13, 3, 4, 14, 15, 50, 51, 52, 53, 54, 55, 56, 57, 58, 59, 60, 61, 62, 63, 64, 65, 66] (by decide +kernel) (by decide +kernel)
set_option maxRecDepth 20000 in
theorem gX6_learn_X6_layBytes : GoodIn wsX6_learn (wsV RX6 81 RX6 yX6_layBytes wsX6_layBytes) := goodIn_app (goodIn_of _ (by decide +kernel)) ggX6_learn_X6_layBytes
set_option maxRecDepth 20000 in
theorem ggX6_learn_X6_isPair : GoodIn wsX6_learn wsX6_isPair := goodIn_r _ [19, 3, 4, 15, 20, 21, 22, 7, 23, 14, 50, 51, 52, 53, 54, 55, 56, 57, 58, 59, 60, 61, 62, 63, 64, 65, 66] (by decide +kernel) (by decide +kernel)
set_option maxRecDepth 20000 in
theorem gX6_learn_X6_isPair : GoodIn wsX6_learn (wsV RX6 67 RX6 yX6_isPair wsX6_isPair) := goodIn_app (goodIn_of _ (by decide +kernel)) ggX6_learn_X6_isPair
set_option maxRecDepth 20000 in
theorem ggX6_learn_X6_countOf : GoodIn wsX6_learn wsX6_countOf := goodIn_r _ [27, 3, 16, 17, 18, 7, 19, 4, 15, 20, 21, 22, 23, 14, 50, 51, 52, 53, 54, 55, 56, 57, 58, 59, 60, 61, 62, 63, 64, 65, 66] (by decide +kernel) (by decide +kernel)
set_option maxRecDepth 20000 in
theorem gX6_learn_X6_countOf : GoodIn wsX6_learn (wsV RX6 84 RX6 yX6_countOf wsX6_countOf) := goodIn_app (goodIn_of _ (by decide +kernel)) ggX6_learn_X6_countOf
set_option maxRecDepth 20000 in
theorem ggX6_learn_X6_keep : GoodIn wsX6_learn wsX6_keep := goodIn_r _ [31, 2, 32, 33, 34, 35, 36, 37, 38, 39, 40, 7, 41, 42, 43, 44, 45, 50, 51, 52, 53, 54, 55, 56, 57, 58, 59, 60, 61, 62, 63, 64, 65, 66] (by decide +kernel) (by decide +kernel)
set_option maxRecDepth 20000 in
theorem gX6_learn_X6_keep : GoodIn wsX6_learn (wsV RX6 87 RX6 yX6_keep wsX6_keep) := goodIn_app (goodIn_of _ (by decide +kernel)) ggX6_learn_X6_keep
set_option maxRecDepth 20000 in
theorem ggX6_learn_X6_join : GoodIn wsX6_learn wsX6_join := goodIn_r _ [49, 3, 15, 4, 16, 17, 18, 7, 19, 20, 21, 22, 23, 14, 50, 51, 52, 53, 54, 55, 56, 57, 58, 59, 60, 61, 62, 63, 64, 65, 66] (by decide +kernel) (by decide +kernel)
set_option maxRecDepth 20000 in
theorem gX6_learn_X6_join : GoodIn wsX6_learn (wsV RX6 91 RX6 yX6_join wsX6_join) := goodIn_app (goodIn_of _ (by decide +kernel)) ggX6_learn_X6_join
set_option maxRecDepth 20000 in
theorem ggX6_isLearned_X6_in : GoodIn wsX6_isLearned wsX6_in := goodIn_r _ [5] (by decide +kernel) (by decide +kernel)
set_option maxRecDepth 20000 in
theorem gX6_isLearned_X6_in : GoodIn wsX6_isLearned (va_wsS RX6 53 yX6_in wsX6_in) := goodIn_app (goodIn_of _ (by decide +kernel)) ggX6_isLearned_X6_in
set_option maxRecDepth 20000 in
theorem ggX6_isToken_X6_in : GoodIn wsX6_isToken wsX6_in := goodIn_r _ [5] (by decide +kernel) (by decide +kernel)
set_option maxRecDepth 20000 in
theorem gX6_isToken_X6_in : GoodIn wsX6_isToken (va_wsS RX6 53 yX6_in wsX6_in) := goodIn_app (goodIn_of _ (by decide +kernel)) ggX6_isToken_X6_in
set_option maxRecDepth 20000 in
theorem ggX6_pair_X6_isLearned : GoodIn wsX6_pair wsX6_isLearned := goodIn_r _ [8, 9, 10, 11, 7, 12, 13, 14, 15, 16, 17, 18, 19, 20, 21, 22, 23, 24, 25, 26, 27, 28, 29] (by decide +kernel) (by decide +kernel)
set_option maxRecDepth 20000 in
theorem gX6_pair_X6_isLearned : GoodIn wsX6_pair (wsV RX6 94 RX6 yX6_isLearned wsX6_isLearned) := goodIn_app (goodIn_of _ (by decide +kernel)) ggX6_pair_X6_isLearned
set_option maxRecDepth 20000 in
theorem ggX6_count_X6_isLearned : GoodIn wsX6_count wsX6_isLearned := goodIn_r _ [7, 8, 9, 10, 6, 11, 12, 13, 14, 15, 16, 17, 18, 19, 20, 21, 22, 23, 24, 25, 26, 27, 28] (by decide +kernel) (by decide +kernel)
set_option maxRecDepth 20000 in
theorem gX6_count_X6_isLearned : GoodIn wsX6_count (wsV RX6 94 RX6 yX6_isLearned wsX6_isLearned) := goodIn_app (goodIn_of _ (by decide +kernel)) ggX6_count_X6_isLearned
set_option maxRecDepth 20000 in
theorem ggX6_size_X6_isToken : GoodIn wsX6_size wsX6_isToken := goodIn_r _ [6, 7, 8, 9, 5, 10, 16, 17, 18, 19, 20, 21, 22, 23, 24, 25, 26, 27, 28, 29, 30, 31, 32] (by decide +kernel) (by decide +kernel)
set_option maxRecDepth 20000 in
theorem gX6_size_X6_isToken : GoodIn wsX6_size (wsV RX6 97 RX6 yX6_isToken wsX6_isToken) := goodIn_app (goodIn_of _ (by decide +kernel)) ggX6_size_X6_isToken
set_option maxRecDepth 20000 in
theorem ggX6_size_X6_sizeOf : GoodIn wsX6_size wsX6_sizeOf := goodIn_r _ [14, 15, 16, 17, 18, 19, 20, 21, 22, 23, 24, 25, 26, 27, 28, 29, 30, 31, 32] (by decide +kernel) (by decide +kernel)
set_option maxRecDepth 20000 in
theorem gX6_size_X6_sizeOf : GoodIn wsX6_size (wsV RX6 73 RX6 yX6_sizeOf wsX6_sizeOf) := goodIn_app (goodIn_of _ (by decide +kernel)) ggX6_size_X6_sizeOf
set_option maxRecDepth 20000 in
theorem ggX6_decode_X6_isToken : GoodIn wsX6_decode wsX6_isToken := goodIn_r _ [6, 7, 8, 9, 5, 10, 21, 22, 23, 24, 25, 26, 27, 28, 29, 30, 31, 32, 33, 34, 35, 36, 37] (by decide +kernel) (by decide +kernel)
set_option maxRecDepth 20000 in
theorem gX6_decode_X6_isToken : GoodIn wsX6_decode (wsV RX6 97 RX6 yX6_isToken wsX6_isToken) := goodIn_app (goodIn_of _ (by decide +kernel)) ggX6_decode_X6_isToken
set_option maxRecDepth 20000 in
theorem ggX6_decode_X6_sizeOf : GoodIn wsX6_decode wsX6_sizeOf := goodIn_r _ [14, 15, 21, 22, 23, 24, 25, 26, 27, 28, 29, 30, 31, 32, 33, 34, 35, 36, 37] (by decide +kernel) (by decide +kernel)
set_option maxRecDepth 20000 in
theorem gX6_decode_X6_sizeOf : GoodIn wsX6_decode (wsV RX6 73 RX6 yX6_sizeOf wsX6_sizeOf) := goodIn_app (goodIn_of _ (by decide +kernel)) ggX6_decode_X6_sizeOf
set_option maxRecDepth 20000 in
theorem ggX6_decode_X6_in : GoodIn wsX6_decode wsX6_in := goodIn_r _ [10] (by decide +kernel) (by decide +kernel)
set_option maxRecDepth 20000 in
theorem gX6_decode_X6_in : GoodIn wsX6_decode (va_wsS RX6 53 yX6_in wsX6_in) := goodIn_app (goodIn_of _ (by decide +kernel)) ggX6_decode_X6_in
set_option maxRecDepth 20000 in
theorem ggX6_decode_X6_byteOf : GoodIn wsX6_decode wsX6_byteOf := goodIn_r _ [19, 20, 21, 22, 23, 24, 25, 26, 27, 28, 29, 30, 31, 32, 33, 34, 35, 36, 37] (by decide +kernel) (by decide +kernel)
set_option maxRecDepth 20000 in
theorem gX6_decode_X6_byteOf : GoodIn wsX6_decode (wsV RX6 77 RX6 yX6_byteOf wsX6_byteOf) := goodIn_app (goodIn_of _ (by decide +kernel)) ggX6_decode_X6_byteOf
set_option maxRecDepth 20000 in
theorem ggX6_tell_X6_layBytes : GoodIn wsX6_tell wsX6_layBytes := goodIn_r _ [8, 9, 10, 11, 12, 13, 26, 27, 28, 29, 30, 31, 32, 33, 34, 35, 36, 37, 38, 39, 40, 41, 42] (by decide +kernel) (by decide +kernel)
set_option maxRecDepth 20000 in
theorem gX6_tell_X6_layBytes : GoodIn wsX6_tell (wsV RX6 81 RX6 yX6_layBytes wsX6_layBytes) := goodIn_app (goodIn_of _ (by decide +kernel)) ggX6_tell_X6_layBytes
set_option maxRecDepth 20000 in
theorem ggX6_tell_X6_join : GoodIn wsX6_tell wsX6_join := goodIn_r _ [17, 10, 13, 11, 18, 19, 20, 7, 21, 22, 23, 24, 25, 12, 26, 27, 28, 29, 30, 31, 32, 33, 34, 35, 36, 37, 38, 39, 40, 41, 42] (by decide +kernel) (by decide +kernel)
set_option maxRecDepth 20000 in
theorem gX6_tell_X6_join : GoodIn wsX6_tell (wsV RX6 91 RX6 yX6_join wsX6_join) := goodIn_app (goodIn_of _ (by decide +kernel)) ggX6_tell_X6_join
set_option maxRecDepth 20000 in
theorem ggX6_tokens_X6_tell : GoodIn wsX6_tokens wsX6_tell := goodIn_r _ [7, 8, 9, 10, 11, 12, 13, 6, 14, 15, 2, 16, 17, 18, 19, 20, 21, 22, 23, 24, 25, 26, 27, 28, 29, 30, 31, 32, 33, 34, 35, 36, 37, 38, 39, 40, 41, 42, 43, 44, 45, 46, 47] (by decide +kernel) (by decide +kernel)
set_option maxRecDepth 20000 in
theorem gX6_tokens_X6_tell : GoodIn wsX6_tokens (wsV RX6 100 RX6 yX6_tell wsX6_tell) := goodIn_app (goodIn_of _ (by decide +kernel)) ggX6_tokens_X6_tell
set_option maxRecDepth 20000 in
theorem ggX6_at_X6_tell : GoodIn wsX6_at wsX6_tell := goodIn_r _ [8, 9, 10, 11, 12, 13, 14, 7, 15, 16, 2, 3, 17, 18, 19, 20, 21, 22, 23, 24, 25, 26, 27, 28, 29, 30, 34, 35, 36, 37, 38, 39, 40, 41, 42, 43, 44, 45, 46, 47, 48, 49, 50] (by decide +kernel) (by decide +kernel)
set_option maxRecDepth 20000 in
theorem gX6_at_X6_tell : GoodIn wsX6_at (wsV RX6 100 RX6 yX6_tell wsX6_tell) := goodIn_app (goodIn_of _ (by decide +kernel)) ggX6_at_X6_tell
set_option maxRecDepth 20000 in
theorem ggX6_at_X6_in : GoodIn wsX6_at wsX6_in := goodIn_r _ [33] (by decide +kernel) (by decide +kernel)
set_option maxRecDepth 20000 in
theorem gX6_at_X6_in : GoodIn wsX6_at (va_wsS RX6 53 yX6_in wsX6_in) := goodIn_app (goodIn_of _ (by decide +kernel)) ggX6_at_X6_in
set_option maxRecDepth 20000 in
theorem ggX6_from_X6_tell : GoodIn wsX6_from wsX6_tell := goodIn_r _ [8, 9, 10, 11, 12, 13, 14, 7, 15, 16, 2, 17, 18, 3, 19, 20, 21, 22, 23, 24, 25, 26, 27, 28, 29, 30, 34, 35, 36, 37, 38, 39, 40, 41, 42, 43, 44, 45, 46, 47, 48, 49, 50] (by decide +kernel) (by decide +kernel)
set_option maxRecDepth 20000 in
theorem gX6_from_X6_tell : GoodIn wsX6_from (wsV RX6 100 RX6 yX6_tell wsX6_tell) := goodIn_app (goodIn_of _ (by decide +kernel)) ggX6_from_X6_tell
set_option maxRecDepth 20000 in
theorem ggX6_from_X6_in : GoodIn wsX6_from wsX6_in := goodIn_r _ [33] (by decide +kernel) (by decide +kernel)
set_option maxRecDepth 20000 in
theorem gX6_from_X6_in : GoodIn wsX6_from (va_wsS RX6 53 yX6_in wsX6_in) := goodIn_app (goodIn_of _ (by decide +kernel)) ggX6_from_X6_in
set_option maxRecDepth 20000 in
theorem ggX6_points_X6_isToken : GoodIn wsX6_points wsX6_isToken := goodIn_r _ [7, 8, 9, 10, 6, 11, 12, 13, 14, 15, 16, 17, 18, 19, 20, 21, 22, 23, 24, 25, 26, 27, 28] (by decide +kernel) (by decide +kernel)
set_option maxRecDepth 20000 in
theorem gX6_points_X6_isToken : GoodIn wsX6_points (wsV RX6 97 RX6 yX6_isToken wsX6_isToken) := goodIn_app (goodIn_of _ (by decide +kernel)) ggX6_points_X6_isToken
set_option maxRecDepth 20000 in
theorem ggX6_points_X6_in : GoodIn wsX6_points wsX6_in := goodIn_r _ [11] (by decide +kernel) (by decide +kernel)
set_option maxRecDepth 20000 in
theorem gX6_points_X6_in : GoodIn wsX6_points (va_wsS RX6 53 yX6_in wsX6_in) := goodIn_app (goodIn_of _ (by decide +kernel)) ggX6_points_X6_in
set_option maxRecDepth 20000 in
theorem ggX6_fits_X6_sizeOf : GoodIn wsX6_fits wsX6_sizeOf := goodIn_r _ [7, 8, 18, 19, 20, 21, 22, 23, 24, 25, 26, 27, 28, 29, 30, 31, 32, 33, 34] (by decide +kernel) (by decide +kernel)
set_option maxRecDepth 20000 in
theorem gX6_fits_X6_sizeOf : GoodIn wsX6_fits (wsV RX6 73 RX6 yX6_sizeOf wsX6_sizeOf) := goodIn_app (goodIn_of _ (by decide +kernel)) ggX6_fits_X6_sizeOf
set_option maxRecDepth 20000 in
theorem ggX6_fits_X6_byteOf : GoodIn wsX6_fits wsX6_byteOf := goodIn_r _ [12, 13, 18, 19, 20, 21, 22, 23, 24, 25, 26, 27, 28, 29, 30, 31, 32, 33, 34] (by decide +kernel) (by decide +kernel)
set_option maxRecDepth 20000 in
theorem gX6_fits_X6_byteOf : GoodIn wsX6_fits (wsV RX6 77 RX6 yX6_byteOf wsX6_byteOf) := goodIn_app (goodIn_of _ (by decide +kernel)) ggX6_fits_X6_byteOf
set_option maxRecDepth 20000 in
theorem ggX6_fits_X6_beginsWord : GoodIn wsX6_fits wsX6_beginsWord := goodIn_r _ [17, 2, 18, 19, 20, 21, 22, 23, 24, 25, 26, 27, 28, 29, 30, 31, 32, 33, 34] (by decide +kernel) (by decide +kernel)
set_option maxRecDepth 20000 in
theorem gX6_fits_X6_beginsWord : GoodIn wsX6_fits (wsV RX6 60 RX6 yX6_beginsWord wsX6_beginsWord) := goodIn_app (goodIn_of _ (by decide +kernel)) ggX6_fits_X6_beginsWord
set_option maxRecDepth 20000 in
theorem ggX6_come_X6_sizeOf : GoodIn wsX6_come wsX6_sizeOf := goodIn_r _ [11, 12, 17, 18, 19, 20, 21, 22, 23, 24, 25, 26, 27, 28, 29, 30, 31, 32, 33] (by decide +kernel) (by decide +kernel)
set_option maxRecDepth 20000 in
theorem gX6_come_X6_sizeOf : GoodIn wsX6_come (wsV RX6 73 RX6 yX6_sizeOf wsX6_sizeOf) := goodIn_app (goodIn_of _ (by decide +kernel)) ggX6_come_X6_sizeOf
set_option maxRecDepth 20000 in
theorem ggX6_come_X6_isBefore : GoodIn wsX6_come wsX6_isBefore := goodIn_r _ [16, 3, 6, 17, 18, 19, 20, 21, 22, 23, 24, 25, 26, 27, 28, 29, 30, 31, 32, 33] (by decide +kernel) (by decide +kernel)
set_option maxRecDepth 20000 in
theorem gX6_come_X6_isBefore : GoodIn wsX6_come (wsV RX6 104 RX6 yX6_isBefore wsX6_isBefore) := goodIn_app (goodIn_of _ (by decide +kernel)) ggX6_come_X6_isBefore
set_option maxRecDepth 20000 in
theorem ggX6_findBest_X6_come : GoodIn wsX6_findBest wsX6_come := goodIn_r _ [11, 2, 12, 3, 4, 13, 14, 15, 16, 17, 10, 18, 19, 20, 21, 22, 23, 37, 38, 39, 40, 41, 42, 43, 44, 45, 46, 47, 48, 49, 50, 51, 52, 53] (by decide +kernel) (by decide +kernel)
set_option maxRecDepth 20000 in
theorem gX6_findBest_X6_come : GoodIn wsX6_findBest (wsV RX6 107 RX6 yX6_come wsX6_come) := goodIn_app (goodIn_of _ (by decide +kernel)) ggX6_findBest_X6_come
set_option maxRecDepth 20000 in
theorem ggX6_findBest_X6_fits : GoodIn wsX6_findBest wsX6_fits := goodIn_r _ [27, 1, 5, 15, 16, 17, 10, 18, 19, 28, 29, 30, 31, 32, 33, 34, 35, 36, 37, 38, 39, 40, 41, 42, 43, 44, 45, 46, 47, 48, 49, 50, 51, 52, 53] (by decide +kernel) (by decide +kernel)
set_option maxRecDepth 20000 in
theorem gX6_findBest_X6_fits : GoodIn wsX6_findBest (wsV RX6 111 RX6 yX6_fits wsX6_fits) := goodIn_app (goodIn_of _ (by decide +kernel)) ggX6_findBest_X6_fits
set_option maxRecDepth 20000 in
theorem ggX6_best_X6_findBest : GoodIn wsX6_best wsX6_findBest := goodIn_r _ [8, 3, 9, 2, 10, 11, 12, 13, 14, 15, 7, 16, 17, 18, 19, 20, 21, 22, 23, 24, 25, 26, 27, 28, 29, 30, 31, 32, 33, 34, 35, 36, 37, 38, 39, 40, 41, 42, 43, 44, 45, 46, 47, 48, 49, 50, 51, 52, 53, 54, 55, 56, 57, 58] (by decide +kernel) (by decide +kernel)
set_option maxRecDepth 20000 in
theorem gX6_best_X6_findBest : GoodIn wsX6_best (wsV RX6 115 RX6 yX6_findBest wsX6_findBest) := goodIn_app (goodIn_of _ (by decide +kernel)) ggX6_best_X6_findBest
set_option maxRecDepth 20000 in
theorem ggX6_bestAt_X6_findBest : GoodIn wsX6_bestAt wsX6_findBest := goodIn_r _ [9, 3, 10, 2, 11, 12, 13, 14, 15, 16, 8, 17, 18, 19, 4, 20, 21, 22, 23, 24, 25, 26, 27, 28, 29, 30, 31, 32, 33, 34, 35, 36, 37, 38, 39, 40, 41, 45, 46, 47, 48, 49, 50, 51, 52, 53, 54, 55, 56, 57, 58, 59, 60, 61] (by decide +kernel) (by decide +kernel)
set_option maxRecDepth 20000 in
theorem gX6_bestAt_X6_findBest : GoodIn wsX6_bestAt (wsV RX6 115 RX6 yX6_findBest wsX6_findBest) := goodIn_app (goodIn_of _ (by decide +kernel)) ggX6_bestAt_X6_findBest
set_option maxRecDepth 20000 in
theorem ggX6_bestAt_X6_in : GoodIn wsX6_bestAt wsX6_in := goodIn_r _ [44] (by decide +kernel) (by decide +kernel)
set_option maxRecDepth 20000 in
theorem gX6_bestAt_X6_in : GoodIn wsX6_bestAt (va_wsS RX6 53 yX6_in wsX6_in) := goodIn_app (goodIn_of _ (by decide +kernel)) ggX6_bestAt_X6_in
set_option maxRecDepth 20000 in
theorem ggX6_sum_X6_findBest : GoodIn wsX6_sum wsX6_findBest := goodIn_r _ [8, 3, 2, 9, 10, 11, 12, 13, 14, 15, 7, 16, 17, 18, 19, 20, 21, 22, 23, 24, 25, 26, 27, 28, 29, 30, 31, 32, 33, 34, 35, 36, 37, 38, 39, 40, 41, 42, 43, 44, 45, 46, 47, 48, 49, 50, 51, 52, 53, 54, 55, 56, 57, 58] (by decide +kernel) (by decide +kernel)
set_option maxRecDepth 20000 in
theorem gX6_sum_X6_findBest : GoodIn wsX6_sum (wsV RX6 115 RX6 yX6_findBest wsX6_findBest) := goodIn_app (goodIn_of _ (by decide +kernel)) ggX6_sum_X6_findBest
set_option maxRecDepth 20000 in
theorem ggX6_ways_X6_findBest : GoodIn wsX6_ways wsX6_findBest := goodIn_r _ [8, 3, 9, 10, 2, 11, 12, 13, 14, 15, 7, 16, 17, 18, 19, 20, 21, 22, 23, 24, 25, 26, 27, 28, 29, 30, 31, 32, 33, 34, 35, 36, 37, 38, 39, 40, 41, 42, 43, 44, 45, 46, 47, 48, 49, 50, 51, 52, 53, 54, 55, 56, 57, 58] (by decide +kernel) (by decide +kernel)
set_option maxRecDepth 20000 in
theorem gX6_ways_X6_findBest : GoodIn wsX6_ways (wsV RX6 115 RX6 yX6_findBest wsX6_findBest) := goodIn_app (goodIn_of _ (by decide +kernel)) ggX6_ways_X6_findBest
set_option maxRecDepth 20000 in
theorem ggL_decode_X5_decode : GoodIn wsL_decode wsX5_decode := goodIn_r _ [5, 6, 7, 8, 9, 10, 11, 12, 13, 14, 15, 16, 17, 18, 19, 20, 21, 22, 23, 24, 25, 26, 27, 28, 29, 30, 31, 32, 33, 34, 35, 36, 37, 38, 39, 40, 41, 42, 43, 44, 45, 46, 47, 48, 49] (by decide +kernel) (by decide +kernel)
set_option maxRecDepth 20000 in
theorem gL_decode_X5_decode : GoodIn wsL_decode (wsV RL 7 RX5 yX5_decode wsX5_decode) := goodIn_app (goodIn_of _ (by decide +kernel)) ggL_decode_X5_decode
end
section
theorem iX0_weigh_X3 : ∀ w ∈ wsX30, w ∈ wsX0_weigh := by decide +kernel
theorem iX0_weigh_X0 : ∀ w ∈ wsX00, w ∈ wsX0_weigh := by decide +kernel
theorem iX0_weigh_X4 : ∀ w ∈ wsX40, w ∈ wsX0_weigh := by decide +kernel
theorem lX0_weigh_9 : Cond.fieldLink RX0 9 (TX0 0).1 (TX0 0).2.1 (TX0 0).2.2.1 ∈ wsX0_weigh := by decide +kernel
theorem lX0_weigh_15 : Cond.fieldLink RX0 15 (TX0 1).1 (TX0 1).2.1 (TX0 1).2.2.1 ∈ wsX0_weigh := by decide +kernel
theorem lX0_weigh_18 : Cond.fieldLink RX0 18 (TX0 2).1 (TX0 2).2.1 (TX0 2).2.2.1 ∈ wsX0_weigh := by decide +kernel
theorem lX0_weigh_24 : Cond.fieldLink RX0 24 (TX3 1).1 (TX3 1).2.1 (TX3 1).2.2.1 ∈ wsX0_weigh := by decide +kernel
theorem lX0_weigh_30 : Cond.fieldLink RX0 30 (TX3 0).1 (TX3 0).2.1 (TX3 0).2.2.1 ∈ wsX0_weigh := by decide +kernel
theorem lX0_weigh_37 : Cond.fieldLink RX0 37 (TX4 5).1 (TX4 5).2.1 (TX4 5).2.2.1 ∈ wsX0_weigh := by decide +kernel
theorem iX0_chosenAfter_X0 : ∀ w ∈ wsX00, w ∈ wsX0_chosenAfter := by decide +kernel
theorem lX0_chosenAfter_21 : Cond.fieldLink RX0 21 (TX0 3).1 (TX0 3).2.1 (TX0 3).2.2.1 ∈ wsX0_chosenAfter := by decide +kernel
theorem iX0_startWithByte_X0 : ∀ w ∈ wsX00, w ∈ wsX0_startWithByte := by decide +kernel
theorem iX0_startWithByte_X4 : ∀ w ∈ wsX40, w ∈ wsX0_startWithByte := by decide +kernel
theorem lX0_startWithByte_9 : Cond.fieldLink RX0 9 (TX0 0).1 (TX0 0).2.1 (TX0 0).2.2.1 ∈ wsX0_startWithByte := by decide +kernel
theorem lX0_startWithByte_15 : Cond.fieldLink RX0 15 (TX0 1).1 (TX0 1).2.1 (TX0 1).2.2.1 ∈ wsX0_startWithByte := by decide +kernel
theorem lX0_startWithByte_18 : Cond.fieldLink RX0 18 (TX0 2).1 (TX0 2).2.1 (TX0 2).2.2.1 ∈ wsX0_startWithByte := by decide +kernel
theorem lX0_startWithByte_21 : Cond.fieldLink RX0 21 (TX0 3).1 (TX0 3).2.1 (TX0 3).2.2.1 ∈ wsX0_startWithByte := by decide +kernel
theorem lX0_startWithByte_53 : Cond.fieldLink RX0 53 (TX4 4).1 (TX4 4).2.1 (TX4 4).2.2.1 ∈ wsX0_startWithByte := by decide +kernel
theorem iX0_startWithLearned_X4 : ∀ w ∈ wsX40, w ∈ wsX0_startWithLearned := by decide +kernel
theorem iX0_startWithLearned_X0 : ∀ w ∈ wsX00, w ∈ wsX0_startWithLearned := by decide +kernel
theorem lX0_startWithLearned_9 : Cond.fieldLink RX0 9 (TX0 0).1 (TX0 0).2.1 (TX0 0).2.2.1 ∈ wsX0_startWithLearned := by decide +kernel
theorem lX0_startWithLearned_15 : Cond.fieldLink RX0 15 (TX0 1).1 (TX0 1).2.1 (TX0 1).2.2.1 ∈ wsX0_startWithLearned := by decide +kernel
theorem lX0_startWithLearned_18 : Cond.fieldLink RX0 18 (TX0 2).1 (TX0 2).2.1 (TX0 2).2.2.1 ∈ wsX0_startWithLearned := by decide +kernel
theorem lX0_startWithLearned_21 : Cond.fieldLink RX0 21 (TX0 3).1 (TX0 3).2.1 (TX0 3).2.2.1 ∈ wsX0_startWithLearned := by decide +kernel
theorem lX0_startWithLearned_53 : Cond.fieldLink RX0 53 (TX4 4).1 (TX4 4).2.1 (TX4 4).2.2.1 ∈ wsX0_startWithLearned := by decide +kernel
theorem iX1_countPairs_X1 : ∀ w ∈ wsX10, w ∈ wsX1_countPairs := by decide +kernel
theorem iX1_countPairs_X2 : ∀ w ∈ wsX20, w ∈ wsX1_countPairs := by decide +kernel
theorem lX1_countPairs_15 : Cond.fieldLink RX1 15 (TX1 1).1 (TX1 1).2.1 (TX1 1).2.2.1 ∈ wsX1_countPairs := by decide +kernel
theorem lX1_countPairs_27 : Cond.fieldLink RX1 27 (TX2 2).1 (TX2 2).2.1 (TX2 2).2.2.1 ∈ wsX1_countPairs := by decide +kernel
theorem lX1_countPairs_37 : Cond.fieldLink RX1 37 (TX2 0).1 (TX2 0).2.1 (TX2 0).2.2.1 ∈ wsX1_countPairs := by decide +kernel
theorem lX1_countPairs_40 : Cond.fieldLink RX1 40 (TX2 1).1 (TX2 1).2.1 (TX2 1).2.2.1 ∈ wsX1_countPairs := by decide +kernel
theorem iX1_mostFrequent_X1 : ∀ w ∈ wsX10, w ∈ wsX1_mostFrequent := by decide +kernel
theorem lX1_mostFrequent_15 : Cond.fieldLink RX1 15 (TX1 1).1 (TX1 1).2.1 (TX1 1).2.2.1 ∈ wsX1_mostFrequent := by decide +kernel
theorem iX1_isAhead_X1 : ∀ w ∈ wsX10, w ∈ wsX1_isAhead := by decide +kernel
theorem lX1_isAhead_9 : Cond.fieldLink RX1 9 (TX1 0).1 (TX1 0).2.1 (TX1 0).2.2.1 ∈ wsX1_isAhead := by decide +kernel
theorem lX1_isAhead_15 : Cond.fieldLink RX1 15 (TX1 1).1 (TX1 1).2.1 (TX1 1).2.2.1 ∈ wsX1_isAhead := by decide +kernel
theorem iX1_add_X1 : ∀ w ∈ wsX10, w ∈ wsX1_add := by decide +kernel
theorem lX1_add_9 : Cond.fieldLink RX1 9 (TX1 0).1 (TX1 0).2.1 (TX1 0).2.2.1 ∈ wsX1_add := by decide +kernel
theorem lX1_add_15 : Cond.fieldLink RX1 15 (TX1 1).1 (TX1 1).2.1 (TX1 1).2.2.1 ∈ wsX1_add := by decide +kernel
theorem lX1_add_18 : Cond.fieldLink RX1 18 (TX1 2).1 (TX1 2).2.1 (TX1 2).2.2.1 ∈ wsX1_add := by decide +kernel
theorem iX2_spell_X3 : ∀ w ∈ wsX30, w ∈ wsX2_spell := by decide +kernel
theorem iX2_spell_X2 : ∀ w ∈ wsX20, w ∈ wsX2_spell := by decide +kernel
theorem lX2_spell_9 : Cond.fieldLink RX2 9 (TX2 0).1 (TX2 0).2.1 (TX2 0).2.2.1 ∈ wsX2_spell := by decide +kernel
theorem lX2_spell_15 : Cond.fieldLink RX2 15 (TX2 1).1 (TX2 1).2.1 (TX2 1).2.2.1 ∈ wsX2_spell := by decide +kernel
theorem lX2_spell_18 : Cond.fieldLink RX2 18 (TX2 2).1 (TX2 2).2.1 (TX2 2).2.2.1 ∈ wsX2_spell := by decide +kernel
theorem lX2_spell_22 : Cond.fieldLink RX2 22 (TX2 3).1 (TX2 3).2.1 (TX2 3).2.2.1 ∈ wsX2_spell := by decide +kernel
theorem lX2_spell_26 : Cond.fieldLink RX2 26 (TX3 1).1 (TX3 1).2.1 (TX3 1).2.2.1 ∈ wsX2_spell := by decide +kernel
theorem lX2_spell_29 : Cond.fieldLink RX2 29 (TX3 0).1 (TX3 0).2.1 (TX3 0).2.2.1 ∈ wsX2_spell := by decide +kernel
theorem iX2_hasNext_X2 : ∀ w ∈ wsX20, w ∈ wsX2_hasNext := by decide +kernel
theorem lX2_hasNext_18 : Cond.fieldLink RX2 18 (TX2 2).1 (TX2 2).2.1 (TX2 2).2.2.1 ∈ wsX2_hasNext := by decide +kernel
theorem lX2_hasNext_22 : Cond.fieldLink RX2 22 (TX2 3).1 (TX2 3).2.1 (TX2 3).2.2.1 ∈ wsX2_hasNext := by decide +kernel
theorem iX2_merge_X2 : ∀ w ∈ wsX20, w ∈ wsX2_merge := by decide +kernel
theorem lX2_merge_9 : Cond.fieldLink RX2 9 (TX2 0).1 (TX2 0).2.1 (TX2 0).2.2.1 ∈ wsX2_merge := by decide +kernel
theorem lX2_merge_15 : Cond.fieldLink RX2 15 (TX2 1).1 (TX2 1).2.1 (TX2 1).2.2.1 ∈ wsX2_merge := by decide +kernel
theorem lX2_merge_18 : Cond.fieldLink RX2 18 (TX2 2).1 (TX2 2).2.1 (TX2 2).2.2.1 ∈ wsX2_merge := by decide +kernel
theorem lX2_merge_22 : Cond.fieldLink RX2 22 (TX2 3).1 (TX2 3).2.1 (TX2 3).2.2.1 ∈ wsX2_merge := by decide +kernel
theorem iX3_append_X3 : ∀ w ∈ wsX30, w ∈ wsX3_append := by decide +kernel
theorem lX3_append_9 : Cond.fieldLink RX3 9 (TX3 0).1 (TX3 0).2.1 (TX3 0).2.2.1 ∈ wsX3_append := by decide +kernel
theorem lX3_append_15 : Cond.fieldLink RX3 15 (TX3 1).1 (TX3 1).2.1 (TX3 1).2.2.1 ∈ wsX3_append := by decide +kernel
theorem iX3_beginsWord_X3 : ∀ w ∈ wsX30, w ∈ wsX3_beginsWord := by decide +kernel
theorem lX3_beginsWord_9 : Cond.fieldLink RX3 9 (TX3 0).1 (TX3 0).2.1 (TX3 0).2.2.1 ∈ wsX3_beginsWord := by decide +kernel
theorem lX3_beginsWord_15 : Cond.fieldLink RX3 15 (TX3 1).1 (TX3 1).2.1 (TX3 1).2.2.1 ∈ wsX3_beginsWord := by decide +kernel
theorem iX4_startFrom_X3 : ∀ w ∈ wsX30, w ∈ wsX4_startFrom := by decide +kernel
theorem iX4_startFrom_X4 : ∀ w ∈ wsX40, w ∈ wsX4_startFrom := by decide +kernel
theorem lX4_startFrom_27 : Cond.fieldLink RX4 27 (TX4 5).1 (TX4 5).2.1 (TX4 5).2.2.1 ∈ wsX4_startFrom := by decide +kernel
theorem lX4_startFrom_31 : Cond.fieldLink RX4 31 (TX4 6).1 (TX4 6).2.1 (TX4 6).2.2.1 ∈ wsX4_startFrom := by decide +kernel
theorem lX4_startFrom_43 : Cond.fieldLink RX4 43 (TX3 0).1 (TX3 0).2.1 (TX3 0).2.2.1 ∈ wsX4_startFrom := by decide +kernel
theorem iX4_isToken_X4 : ∀ w ∈ wsX40, w ∈ wsX4_isToken := by decide +kernel
theorem lX4_isToken_27 : Cond.fieldLink RX4 27 (TX4 5).1 (TX4 5).2.1 (TX4 5).2.2.1 ∈ wsX4_isToken := by decide +kernel
theorem iX4_isLearned_X4 : ∀ w ∈ wsX40, w ∈ wsX4_isLearned := by decide +kernel
theorem lX4_isLearned_27 : Cond.fieldLink RX4 27 (TX4 5).1 (TX4 5).2.1 (TX4 5).2.2.1 ∈ wsX4_isLearned := by decide +kernel
theorem iX4_add_X4 : ∀ w ∈ wsX40, w ∈ wsX4_add := by decide +kernel
theorem lX4_add_9 : Cond.fieldLink RX4 9 (TX4 0).1 (TX4 0).2.1 (TX4 0).2.2.1 ∈ wsX4_add := by decide +kernel
theorem lX4_add_15 : Cond.fieldLink RX4 15 (TX4 1).1 (TX4 1).2.1 (TX4 1).2.2.1 ∈ wsX4_add := by decide +kernel
theorem lX4_add_18 : Cond.fieldLink RX4 18 (TX4 2).1 (TX4 2).2.1 (TX4 2).2.2.1 ∈ wsX4_add := by decide +kernel
theorem lX4_add_21 : Cond.fieldLink RX4 21 (TX4 3).1 (TX4 3).2.1 (TX4 3).2.2.1 ∈ wsX4_add := by decide +kernel
theorem lX4_add_24 : Cond.fieldLink RX4 24 (TX4 4).1 (TX4 4).2.1 (TX4 4).2.2.1 ∈ wsX4_add := by decide +kernel
theorem lX4_add_27 : Cond.fieldLink RX4 27 (TX4 5).1 (TX4 5).2.1 (TX4 5).2.2.1 ∈ wsX4_add := by decide +kernel
theorem lX4_add_34 : Cond.fieldLink RX4 34 (TX4 7).1 (TX4 7).2.1 (TX4 7).2.2.1 ∈ wsX4_add := by decide +kernel
theorem iX4_sizeOf_X4 : ∀ w ∈ wsX40, w ∈ wsX4_sizeOf := by decide +kernel
theorem lX4_sizeOf_21 : Cond.fieldLink RX4 21 (TX4 3).1 (TX4 3).2.1 (TX4 3).2.2.1 ∈ wsX4_sizeOf := by decide +kernel
theorem iX4_byteOf_X4 : ∀ w ∈ wsX40, w ∈ wsX4_byteOf := by decide +kernel
theorem lX4_byteOf_31 : Cond.fieldLink RX4 31 (TX4 6).1 (TX4 6).2.1 (TX4 6).2.2.1 ∈ wsX4_byteOf := by decide +kernel
theorem lX4_byteOf_34 : Cond.fieldLink RX4 34 (TX4 7).1 (TX4 7).2.1 (TX4 7).2.2.1 ∈ wsX4_byteOf := by decide +kernel
theorem iX4_standsAt_X3 : ∀ w ∈ wsX30, w ∈ wsX4_standsAt := by decide +kernel
theorem lX4_standsAt_43 : Cond.fieldLink RX4 43 (TX3 0).1 (TX3 0).2.1 (TX3 0).2.2.1 ∈ wsX4_standsAt := by decide +kernel
theorem lX4_standsAt_62 : Cond.fieldLink RX4 62 (TX3 1).1 (TX3 1).2.1 (TX3 1).2.2.1 ∈ wsX4_standsAt := by decide +kernel
theorem iX5_octet_X5 : ∀ w ∈ wsX50, w ∈ wsX5_octet := by decide +kernel
theorem iX5_octet_X3 : ∀ w ∈ wsX30, w ∈ wsX5_octet := by decide +kernel
theorem lX5_octet_10 : Cond.fieldLink RX5 10 (TX5 0).1 (TX5 0).2.1 (TX5 0).2.2.1 ∈ wsX5_octet := by decide +kernel
theorem lX5_octet_44 : Cond.fieldLink RX5 44 (TX3 1).1 (TX3 1).2.1 (TX3 1).2.2.1 ∈ wsX5_octet := by decide +kernel
theorem iX5_cut_X5 : ∀ w ∈ wsX50, w ∈ wsX5_cut := by decide +kernel
theorem iX5_cut_X3 : ∀ w ∈ wsX30, w ∈ wsX5_cut := by decide +kernel
theorem lX5_cut_10 : Cond.fieldLink RX5 10 (TX5 0).1 (TX5 0).2.1 (TX5 0).2.2.1 ∈ wsX5_cut := by decide +kernel
theorem lX5_cut_44 : Cond.fieldLink RX5 44 (TX3 1).1 (TX3 1).2.1 (TX3 1).2.2.1 ∈ wsX5_cut := by decide +kernel
theorem iX5_byteAt_X5 : ∀ w ∈ wsX50, w ∈ wsX5_byteAt := by decide +kernel
theorem iX5_byteAt_X3 : ∀ w ∈ wsX30, w ∈ wsX5_byteAt := by decide +kernel
theorem lX5_byteAt_10 : Cond.fieldLink RX5 10 (TX5 0).1 (TX5 0).2.1 (TX5 0).2.2.1 ∈ wsX5_byteAt := by decide +kernel
theorem lX5_byteAt_44 : Cond.fieldLink RX5 44 (TX3 1).1 (TX3 1).2.1 (TX3 1).2.2.1 ∈ wsX5_byteAt := by decide +kernel
theorem lX5_byteAt_52 : Cond.fieldLink RX5 52 (TX3 0).1 (TX3 0).2.1 (TX3 0).2.2.1 ∈ wsX5_byteAt := by decide +kernel
theorem iX5_words_X5 : ∀ w ∈ wsX50, w ∈ wsX5_words := by decide +kernel
theorem iX5_words_X3 : ∀ w ∈ wsX30, w ∈ wsX5_words := by decide +kernel
theorem lX5_words_10 : Cond.fieldLink RX5 10 (TX5 0).1 (TX5 0).2.1 (TX5 0).2.2.1 ∈ wsX5_words := by decide +kernel
theorem lX5_words_44 : Cond.fieldLink RX5 44 (TX3 1).1 (TX3 1).2.1 (TX3 1).2.2.1 ∈ wsX5_words := by decide +kernel
theorem iX5_learn_X5 : ∀ w ∈ wsX50, w ∈ wsX5_learn := by decide +kernel
theorem iX5_learn_X4 : ∀ w ∈ wsX40, w ∈ wsX5_learn := by decide +kernel
theorem lX5_learn_10 : Cond.fieldLink RX5 10 (TX5 0).1 (TX5 0).2.1 (TX5 0).2.2.1 ∈ wsX5_learn := by decide +kernel
theorem lX5_learn_19 : Cond.fieldLink RX5 19 (TX5 1).1 (TX5 1).2.1 (TX5 1).2.2.1 ∈ wsX5_learn := by decide +kernel
theorem lX5_learn_26 : Cond.fieldLink RX5 26 (TX5 2).1 (TX5 2).2.1 (TX5 2).2.2.1 ∈ wsX5_learn := by decide +kernel
theorem lX5_learn_71 : Cond.fieldLink RX5 71 (TX4 5).1 (TX4 5).2.1 (TX4 5).2.2.1 ∈ wsX5_learn := by decide +kernel
theorem iX5_pair_X5 : ∀ w ∈ wsX50, w ∈ wsX5_pair := by decide +kernel
theorem iX5_pair_X4 : ∀ w ∈ wsX40, w ∈ wsX5_pair := by decide +kernel
theorem lX5_pair_19 : Cond.fieldLink RX5 19 (TX5 1).1 (TX5 1).2.1 (TX5 1).2.2.1 ∈ wsX5_pair := by decide +kernel
theorem lX5_pair_77 : Cond.fieldLink RX5 77 (TX4 0).1 (TX4 0).2.1 (TX4 0).2.2.1 ∈ wsX5_pair := by decide +kernel
theorem lX5_pair_80 : Cond.fieldLink RX5 80 (TX4 1).1 (TX4 1).2.1 (TX4 1).2.2.1 ∈ wsX5_pair := by decide +kernel
theorem iX5_count_X5 : ∀ w ∈ wsX50, w ∈ wsX5_count := by decide +kernel
theorem iX5_count_X4 : ∀ w ∈ wsX40, w ∈ wsX5_count := by decide +kernel
theorem lX5_count_19 : Cond.fieldLink RX5 19 (TX5 1).1 (TX5 1).2.1 (TX5 1).2.2.1 ∈ wsX5_count := by decide +kernel
theorem lX5_count_83 : Cond.fieldLink RX5 83 (TX4 2).1 (TX4 2).2.1 (TX4 2).2.2.1 ∈ wsX5_count := by decide +kernel
theorem iX5_size_X5 : ∀ w ∈ wsX50, w ∈ wsX5_size := by decide +kernel
theorem lX5_size_19 : Cond.fieldLink RX5 19 (TX5 1).1 (TX5 1).2.1 (TX5 1).2.2.1 ∈ wsX5_size := by decide +kernel
theorem iX5_decode_X5 : ∀ w ∈ wsX50, w ∈ wsX5_decode := by decide +kernel
theorem lX5_decode_19 : Cond.fieldLink RX5 19 (TX5 1).1 (TX5 1).2.1 (TX5 1).2.2.1 ∈ wsX5_decode := by decide +kernel
theorem iX5_tokens_X5 : ∀ w ∈ wsX50, w ∈ wsX5_tokens := by decide +kernel
theorem iX5_tokens_X2 : ∀ w ∈ wsX20, w ∈ wsX5_tokens := by decide +kernel
theorem lX5_tokens_26 : Cond.fieldLink RX5 26 (TX5 2).1 (TX5 2).2.1 (TX5 2).2.2.1 ∈ wsX5_tokens := by decide +kernel
theorem lX5_tokens_107 : Cond.fieldLink RX5 107 (TX2 2).1 (TX2 2).2.1 (TX2 2).2.2.1 ∈ wsX5_tokens := by decide +kernel
theorem iX5_at_X5 : ∀ w ∈ wsX50, w ∈ wsX5_at := by decide +kernel
theorem iX5_at_X2 : ∀ w ∈ wsX20, w ∈ wsX5_at := by decide +kernel
theorem lX5_at_26 : Cond.fieldLink RX5 26 (TX5 2).1 (TX5 2).2.1 (TX5 2).2.2.1 ∈ wsX5_at := by decide +kernel
theorem lX5_at_107 : Cond.fieldLink RX5 107 (TX2 2).1 (TX2 2).2.1 (TX2 2).2.2.1 ∈ wsX5_at := by decide +kernel
theorem lX5_at_108 : Cond.fieldLink RX5 108 (TX2 0).1 (TX2 0).2.1 (TX2 0).2.2.1 ∈ wsX5_at := by decide +kernel
theorem iX5_from_X5 : ∀ w ∈ wsX50, w ∈ wsX5_from := by decide +kernel
theorem iX5_from_X2 : ∀ w ∈ wsX20, w ∈ wsX5_from := by decide +kernel
theorem lX5_from_26 : Cond.fieldLink RX5 26 (TX5 2).1 (TX5 2).2.1 (TX5 2).2.2.1 ∈ wsX5_from := by decide +kernel
theorem lX5_from_107 : Cond.fieldLink RX5 107 (TX2 2).1 (TX2 2).2.1 (TX2 2).2.2.1 ∈ wsX5_from := by decide +kernel
theorem lX5_from_111 : Cond.fieldLink RX5 111 (TX2 1).1 (TX2 1).2.1 (TX2 1).2.2.1 ∈ wsX5_from := by decide +kernel
theorem iX5_points_X5 : ∀ w ∈ wsX50, w ∈ wsX5_points := by decide +kernel
theorem iX5_points_X4 : ∀ w ∈ wsX40, w ∈ wsX5_points := by decide +kernel
theorem lX5_points_19 : Cond.fieldLink RX5 19 (TX5 1).1 (TX5 1).2.1 (TX5 1).2.2.1 ∈ wsX5_points := by decide +kernel
theorem lX5_points_114 : Cond.fieldLink RX5 114 (TX4 4).1 (TX4 4).2.1 (TX4 4).2.2.1 ∈ wsX5_points := by decide +kernel
theorem iX5_best_X5 : ∀ w ∈ wsX50, w ∈ wsX5_best := by decide +kernel
theorem iX5_best_X0 : ∀ w ∈ wsX00, w ∈ wsX5_best := by decide +kernel
theorem lX5_best_10 : Cond.fieldLink RX5 10 (TX5 0).1 (TX5 0).2.1 (TX5 0).2.2.1 ∈ wsX5_best := by decide +kernel
theorem lX5_best_19 : Cond.fieldLink RX5 19 (TX5 1).1 (TX5 1).2.1 (TX5 1).2.2.1 ∈ wsX5_best := by decide +kernel
theorem lX5_best_40 : Cond.fieldLink RX5 40 (TX5 4).1 (TX5 4).2.1 (TX5 4).2.2.1 ∈ wsX5_best := by decide +kernel
theorem lX5_best_121 : Cond.fieldLink RX5 121 (TX0 1).1 (TX0 1).2.1 (TX0 1).2.2.1 ∈ wsX5_best := by decide +kernel
theorem iX5_bestAt_X5 : ∀ w ∈ wsX50, w ∈ wsX5_bestAt := by decide +kernel
theorem iX5_bestAt_X0 : ∀ w ∈ wsX00, w ∈ wsX5_bestAt := by decide +kernel
theorem lX5_bestAt_10 : Cond.fieldLink RX5 10 (TX5 0).1 (TX5 0).2.1 (TX5 0).2.2.1 ∈ wsX5_bestAt := by decide +kernel
theorem lX5_bestAt_19 : Cond.fieldLink RX5 19 (TX5 1).1 (TX5 1).2.1 (TX5 1).2.2.1 ∈ wsX5_bestAt := by decide +kernel
theorem lX5_bestAt_40 : Cond.fieldLink RX5 40 (TX5 4).1 (TX5 4).2.1 (TX5 4).2.2.1 ∈ wsX5_bestAt := by decide +kernel
theorem lX5_bestAt_121 : Cond.fieldLink RX5 121 (TX0 1).1 (TX0 1).2.1 (TX0 1).2.2.1 ∈ wsX5_bestAt := by decide +kernel
theorem iX5_sum_X5 : ∀ w ∈ wsX50, w ∈ wsX5_sum := by decide +kernel
theorem iX5_sum_X0 : ∀ w ∈ wsX00, w ∈ wsX5_sum := by decide +kernel
theorem lX5_sum_10 : Cond.fieldLink RX5 10 (TX5 0).1 (TX5 0).2.1 (TX5 0).2.2.1 ∈ wsX5_sum := by decide +kernel
theorem lX5_sum_19 : Cond.fieldLink RX5 19 (TX5 1).1 (TX5 1).2.1 (TX5 1).2.2.1 ∈ wsX5_sum := by decide +kernel
theorem lX5_sum_40 : Cond.fieldLink RX5 40 (TX5 4).1 (TX5 4).2.1 (TX5 4).2.2.1 ∈ wsX5_sum := by decide +kernel
theorem lX5_sum_128 : Cond.fieldLink RX5 128 (TX0 0).1 (TX0 0).2.1 (TX0 0).2.2.1 ∈ wsX5_sum := by decide +kernel
theorem iX5_ways_X5 : ∀ w ∈ wsX50, w ∈ wsX5_ways := by decide +kernel
theorem iX5_ways_X0 : ∀ w ∈ wsX00, w ∈ wsX5_ways := by decide +kernel
theorem lX5_ways_10 : Cond.fieldLink RX5 10 (TX5 0).1 (TX5 0).2.1 (TX5 0).2.2.1 ∈ wsX5_ways := by decide +kernel
theorem lX5_ways_19 : Cond.fieldLink RX5 19 (TX5 1).1 (TX5 1).2.1 (TX5 1).2.2.1 ∈ wsX5_ways := by decide +kernel
theorem lX5_ways_40 : Cond.fieldLink RX5 40 (TX5 4).1 (TX5 4).2.1 (TX5 4).2.2.1 ∈ wsX5_ways := by decide +kernel
theorem lX5_ways_131 : Cond.fieldLink RX5 131 (TX0 2).1 (TX0 2).2.1 (TX0 2).2.2.1 ∈ wsX5_ways := by decide +kernel
theorem iX5_learnNext_X5 : ∀ w ∈ wsX50, w ∈ wsX5_learnNext := by decide +kernel
theorem iX5_learnNext_X1 : ∀ w ∈ wsX10, w ∈ wsX5_learnNext := by decide +kernel
theorem iX5_learnNext_X4 : ∀ w ∈ wsX40, w ∈ wsX5_learnNext := by decide +kernel
theorem lX5_learnNext_19 : Cond.fieldLink RX5 19 (TX5 1).1 (TX5 1).2.1 (TX5 1).2.2.1 ∈ wsX5_learnNext := by decide +kernel
theorem lX5_learnNext_26 : Cond.fieldLink RX5 26 (TX5 2).1 (TX5 2).2.1 (TX5 2).2.2.1 ∈ wsX5_learnNext := by decide +kernel
theorem lX5_learnNext_33 : Cond.fieldLink RX5 33 (TX5 3).1 (TX5 3).2.1 (TX5 3).2.2.1 ∈ wsX5_learnNext := by decide +kernel
theorem lX5_learnNext_71 : Cond.fieldLink RX5 71 (TX4 5).1 (TX4 5).2.1 (TX4 5).2.2.1 ∈ wsX5_learnNext := by decide +kernel
theorem lX5_learnNext_142 : Cond.fieldLink RX5 142 (TX1 1).1 (TX1 1).2.1 (TX1 1).2.2.1 ∈ wsX5_learnNext := by decide +kernel
theorem lX5_learnNext_143 : Cond.fieldLink RX5 143 (TX1 0).1 (TX1 0).2.1 (TX1 0).2.2.1 ∈ wsX5_learnNext := by decide +kernel
theorem lX5_learnNext_146 : Cond.fieldLink RX5 146 (TX1 2).1 (TX1 2).2.1 (TX1 2).2.2.1 ∈ wsX5_learnNext := by decide +kernel
theorem iX5_tellText_X5 : ∀ w ∈ wsX50, w ∈ wsX5_tellText := by decide +kernel
theorem iX5_tellText_X4 : ∀ w ∈ wsX40, w ∈ wsX5_tellText := by decide +kernel
theorem lX5_tellText_10 : Cond.fieldLink RX5 10 (TX5 0).1 (TX5 0).2.1 (TX5 0).2.2.1 ∈ wsX5_tellText := by decide +kernel
theorem lX5_tellText_19 : Cond.fieldLink RX5 19 (TX5 1).1 (TX5 1).2.1 (TX5 1).2.2.1 ∈ wsX5_tellText := by decide +kernel
theorem lX5_tellText_26 : Cond.fieldLink RX5 26 (TX5 2).1 (TX5 2).2.1 (TX5 2).2.2.1 ∈ wsX5_tellText := by decide +kernel
theorem lX5_tellText_71 : Cond.fieldLink RX5 71 (TX4 5).1 (TX4 5).2.1 (TX4 5).2.2.1 ∈ wsX5_tellText := by decide +kernel
theorem lX5_tellText_77 : Cond.fieldLink RX5 77 (TX4 0).1 (TX4 0).2.1 (TX4 0).2.2.1 ∈ wsX5_tellText := by decide +kernel
theorem lX5_tellText_80 : Cond.fieldLink RX5 80 (TX4 1).1 (TX4 1).2.1 (TX4 1).2.2.1 ∈ wsX5_tellText := by decide +kernel
theorem iX6_thrown_X6 : ∀ w ∈ wsX60, w ∈ wsX6_thrown := by decide +kernel
theorem lX6_thrown_49 : Cond.fieldLink RX6 49 (TX6 0).1 (TX6 0).2.1 (TX6 0).2.2.1 ∈ wsX6_thrown := by decide +kernel
theorem iX6_octet_X6 : ∀ w ∈ wsX60, w ∈ wsX6_octet := by decide +kernel
theorem lX6_octet_7 : Cond.fieldLink RX6 7 (TX6 2).1 (TX6 2).2.1 (TX6 2).2.2.1 ∈ wsX6_octet := by decide +kernel
theorem lX6_octet_49 : Cond.fieldLink RX6 49 (TX6 0).1 (TX6 0).2.1 (TX6 0).2.2.1 ∈ wsX6_octet := by decide +kernel
theorem lX6_octet_57 : Cond.fieldLink RX6 57 (TX6 1).1 (TX6 1).2.1 (TX6 1).2.2.1 ∈ wsX6_octet := by decide +kernel
theorem iX6_cut_X6 : ∀ w ∈ wsX60, w ∈ wsX6_cut := by decide +kernel
theorem lX6_cut_49 : Cond.fieldLink RX6 49 (TX6 0).1 (TX6 0).2.1 (TX6 0).2.2.1 ∈ wsX6_cut := by decide +kernel
theorem lX6_cut_57 : Cond.fieldLink RX6 57 (TX6 1).1 (TX6 1).2.1 (TX6 1).2.2.1 ∈ wsX6_cut := by decide +kernel
theorem iX6_byteAt_X6 : ∀ w ∈ wsX60, w ∈ wsX6_byteAt := by decide +kernel
theorem lX6_byteAt_7 : Cond.fieldLink RX6 7 (TX6 2).1 (TX6 2).2.1 (TX6 2).2.2.1 ∈ wsX6_byteAt := by decide +kernel
theorem lX6_byteAt_49 : Cond.fieldLink RX6 49 (TX6 0).1 (TX6 0).2.1 (TX6 0).2.2.1 ∈ wsX6_byteAt := by decide +kernel
theorem lX6_byteAt_57 : Cond.fieldLink RX6 57 (TX6 1).1 (TX6 1).2.1 (TX6 1).2.2.1 ∈ wsX6_byteAt := by decide +kernel
theorem iX6_beginsWord_X6 : ∀ w ∈ wsX60, w ∈ wsX6_beginsWord := by decide +kernel
theorem lX6_beginsWord_7 : Cond.fieldLink RX6 7 (TX6 2).1 (TX6 2).2.1 (TX6 2).2.2.1 ∈ wsX6_beginsWord := by decide +kernel
theorem iX6_words_X6 : ∀ w ∈ wsX60, w ∈ wsX6_words := by decide +kernel
theorem lX6_words_49 : Cond.fieldLink RX6 49 (TX6 0).1 (TX6 0).2.1 (TX6 0).2.2.1 ∈ wsX6_words := by decide +kernel
theorem lX6_words_57 : Cond.fieldLink RX6 57 (TX6 1).1 (TX6 1).2.1 (TX6 1).2.2.1 ∈ wsX6_words := by decide +kernel
theorem iX6_layBytes_X6 : ∀ w ∈ wsX60, w ∈ wsX6_layBytes := by decide +kernel
theorem lX6_layBytes_7 : Cond.fieldLink RX6 7 (TX6 2).1 (TX6 2).2.1 (TX6 2).2.2.1 ∈ wsX6_layBytes := by decide +kernel
theorem lX6_layBytes_31 : Cond.fieldLink RX6 31 (TX6 11).1 (TX6 11).2.1 (TX6 11).2.2.1 ∈ wsX6_layBytes := by decide +kernel
theorem lX6_layBytes_34 : Cond.fieldLink RX6 34 (TX6 12).1 (TX6 12).2.1 (TX6 12).2.2.1 ∈ wsX6_layBytes := by decide +kernel
theorem lX6_layBytes_57 : Cond.fieldLink RX6 57 (TX6 1).1 (TX6 1).2.1 (TX6 1).2.2.1 ∈ wsX6_layBytes := by decide +kernel
theorem lX6_layBytes_64 : Cond.fieldLink RX6 64 (TX6 10).1 (TX6 10).2.1 (TX6 10).2.2.1 ∈ wsX6_layBytes := by decide +kernel
theorem iX6_isPair_X6 : ∀ w ∈ wsX60, w ∈ wsX6_isPair := by decide +kernel
theorem lX6_isPair_31 : Cond.fieldLink RX6 31 (TX6 11).1 (TX6 11).2.1 (TX6 11).2.2.1 ∈ wsX6_isPair := by decide +kernel
theorem lX6_isPair_34 : Cond.fieldLink RX6 34 (TX6 12).1 (TX6 12).2.1 (TX6 12).2.2.1 ∈ wsX6_isPair := by decide +kernel
theorem lX6_isPair_64 : Cond.fieldLink RX6 64 (TX6 10).1 (TX6 10).2.1 (TX6 10).2.2.1 ∈ wsX6_isPair := by decide +kernel
theorem iX6_join_X6 : ∀ w ∈ wsX60, w ∈ wsX6_join := by decide +kernel
theorem lX6_join_31 : Cond.fieldLink RX6 31 (TX6 11).1 (TX6 11).2.1 (TX6 11).2.2.1 ∈ wsX6_join := by decide +kernel
theorem lX6_join_34 : Cond.fieldLink RX6 34 (TX6 12).1 (TX6 12).2.1 (TX6 12).2.2.1 ∈ wsX6_join := by decide +kernel
theorem lX6_join_64 : Cond.fieldLink RX6 64 (TX6 10).1 (TX6 10).2.1 (TX6 10).2.2.1 ∈ wsX6_join := by decide +kernel
theorem iX6_sizeOf_X6 : ∀ w ∈ wsX60, w ∈ wsX6_sizeOf := by decide +kernel
theorem lX6_sizeOf_22 : Cond.fieldLink RX6 22 (TX6 7).1 (TX6 7).2.1 (TX6 7).2.2.1 ∈ wsX6_sizeOf := by decide +kernel
theorem iX6_byteOf_X6 : ∀ w ∈ wsX60, w ∈ wsX6_byteOf := by decide +kernel
theorem lX6_byteOf_25 : Cond.fieldLink RX6 25 (TX6 8).1 (TX6 8).2.1 (TX6 8).2.2.1 ∈ wsX6_byteOf := by decide +kernel
theorem iX6_keep_X6 : ∀ w ∈ wsX60, w ∈ wsX6_keep := by decide +kernel
theorem lX6_keep_13 : Cond.fieldLink RX6 13 (TX6 4).1 (TX6 4).2.1 (TX6 4).2.2.1 ∈ wsX6_keep := by decide +kernel
theorem lX6_keep_16 : Cond.fieldLink RX6 16 (TX6 5).1 (TX6 5).2.1 (TX6 5).2.2.1 ∈ wsX6_keep := by decide +kernel
theorem lX6_keep_19 : Cond.fieldLink RX6 19 (TX6 6).1 (TX6 6).2.1 (TX6 6).2.2.1 ∈ wsX6_keep := by decide +kernel
theorem lX6_keep_22 : Cond.fieldLink RX6 22 (TX6 7).1 (TX6 7).2.1 (TX6 7).2.2.1 ∈ wsX6_keep := by decide +kernel
theorem lX6_keep_25 : Cond.fieldLink RX6 25 (TX6 8).1 (TX6 8).2.1 (TX6 8).2.2.1 ∈ wsX6_keep := by decide +kernel
theorem lX6_keep_28 : Cond.fieldLink RX6 28 (TX6 9).1 (TX6 9).2.1 (TX6 9).2.2.1 ∈ wsX6_keep := by decide +kernel
theorem lX6_keep_70 : Cond.fieldLink RX6 70 (TX6 3).1 (TX6 3).2.1 (TX6 3).2.2.1 ∈ wsX6_keep := by decide +kernel
theorem iX6_countOf_X6 : ∀ w ∈ wsX60, w ∈ wsX6_countOf := by decide +kernel
theorem lX6_countOf_64 : Cond.fieldLink RX6 64 (TX6 10).1 (TX6 10).2.1 (TX6 10).2.2.1 ∈ wsX6_countOf := by decide +kernel
theorem iX6_learn_X6 : ∀ w ∈ wsX60, w ∈ wsX6_learn := by decide +kernel
theorem lX6_learn_31 : Cond.fieldLink RX6 31 (TX6 11).1 (TX6 11).2.1 (TX6 11).2.2.1 ∈ wsX6_learn := by decide +kernel
theorem lX6_learn_49 : Cond.fieldLink RX6 49 (TX6 0).1 (TX6 0).2.1 (TX6 0).2.2.1 ∈ wsX6_learn := by decide +kernel
theorem lX6_learn_64 : Cond.fieldLink RX6 64 (TX6 10).1 (TX6 10).2.1 (TX6 10).2.2.1 ∈ wsX6_learn := by decide +kernel
theorem lX6_learn_70 : Cond.fieldLink RX6 70 (TX6 3).1 (TX6 3).2.1 (TX6 3).2.2.1 ∈ wsX6_learn := by decide +kernel
theorem iX6_isLearned_X6 : ∀ w ∈ wsX60, w ∈ wsX6_isLearned := by decide +kernel
theorem lX6_isLearned_70 : Cond.fieldLink RX6 70 (TX6 3).1 (TX6 3).2.1 (TX6 3).2.2.1 ∈ wsX6_isLearned := by decide +kernel
theorem iX6_isToken_X6 : ∀ w ∈ wsX60, w ∈ wsX6_isToken := by decide +kernel
theorem lX6_isToken_70 : Cond.fieldLink RX6 70 (TX6 3).1 (TX6 3).2.1 (TX6 3).2.2.1 ∈ wsX6_isToken := by decide +kernel
theorem iX6_pair_X6 : ∀ w ∈ wsX60, w ∈ wsX6_pair := by decide +kernel
theorem lX6_pair_13 : Cond.fieldLink RX6 13 (TX6 4).1 (TX6 4).2.1 (TX6 4).2.2.1 ∈ wsX6_pair := by decide +kernel
theorem lX6_pair_16 : Cond.fieldLink RX6 16 (TX6 5).1 (TX6 5).2.1 (TX6 5).2.2.1 ∈ wsX6_pair := by decide +kernel
theorem lX6_pair_49 : Cond.fieldLink RX6 49 (TX6 0).1 (TX6 0).2.1 (TX6 0).2.2.1 ∈ wsX6_pair := by decide +kernel
theorem iX6_count_X6 : ∀ w ∈ wsX60, w ∈ wsX6_count := by decide +kernel
theorem lX6_count_19 : Cond.fieldLink RX6 19 (TX6 6).1 (TX6 6).2.1 (TX6 6).2.2.1 ∈ wsX6_count := by decide +kernel
theorem lX6_count_49 : Cond.fieldLink RX6 49 (TX6 0).1 (TX6 0).2.1 (TX6 0).2.2.1 ∈ wsX6_count := by decide +kernel
theorem iX6_size_X6 : ∀ w ∈ wsX60, w ∈ wsX6_size := by decide +kernel
theorem lX6_size_49 : Cond.fieldLink RX6 49 (TX6 0).1 (TX6 0).2.1 (TX6 0).2.2.1 ∈ wsX6_size := by decide +kernel
theorem iX6_decode_X6 : ∀ w ∈ wsX60, w ∈ wsX6_decode := by decide +kernel
theorem lX6_decode_49 : Cond.fieldLink RX6 49 (TX6 0).1 (TX6 0).2.1 (TX6 0).2.2.1 ∈ wsX6_decode := by decide +kernel
theorem iX6_tell_X6 : ∀ w ∈ wsX60, w ∈ wsX6_tell := by decide +kernel
theorem lX6_tell_13 : Cond.fieldLink RX6 13 (TX6 4).1 (TX6 4).2.1 (TX6 4).2.2.1 ∈ wsX6_tell := by decide +kernel
theorem lX6_tell_16 : Cond.fieldLink RX6 16 (TX6 5).1 (TX6 5).2.1 (TX6 5).2.2.1 ∈ wsX6_tell := by decide +kernel
theorem lX6_tell_70 : Cond.fieldLink RX6 70 (TX6 3).1 (TX6 3).2.1 (TX6 3).2.2.1 ∈ wsX6_tell := by decide +kernel
theorem iX6_tokens_X6 : ∀ w ∈ wsX60, w ∈ wsX6_tokens := by decide +kernel
theorem lX6_tokens_49 : Cond.fieldLink RX6 49 (TX6 0).1 (TX6 0).2.1 (TX6 0).2.2.1 ∈ wsX6_tokens := by decide +kernel
theorem lX6_tokens_64 : Cond.fieldLink RX6 64 (TX6 10).1 (TX6 10).2.1 (TX6 10).2.2.1 ∈ wsX6_tokens := by decide +kernel
theorem iX6_at_X6 : ∀ w ∈ wsX60, w ∈ wsX6_at := by decide +kernel
theorem lX6_at_31 : Cond.fieldLink RX6 31 (TX6 11).1 (TX6 11).2.1 (TX6 11).2.2.1 ∈ wsX6_at := by decide +kernel
theorem lX6_at_49 : Cond.fieldLink RX6 49 (TX6 0).1 (TX6 0).2.1 (TX6 0).2.2.1 ∈ wsX6_at := by decide +kernel
theorem lX6_at_64 : Cond.fieldLink RX6 64 (TX6 10).1 (TX6 10).2.1 (TX6 10).2.2.1 ∈ wsX6_at := by decide +kernel
theorem iX6_from_X6 : ∀ w ∈ wsX60, w ∈ wsX6_from := by decide +kernel
theorem lX6_from_34 : Cond.fieldLink RX6 34 (TX6 12).1 (TX6 12).2.1 (TX6 12).2.2.1 ∈ wsX6_from := by decide +kernel
theorem lX6_from_49 : Cond.fieldLink RX6 49 (TX6 0).1 (TX6 0).2.1 (TX6 0).2.2.1 ∈ wsX6_from := by decide +kernel
theorem lX6_from_64 : Cond.fieldLink RX6 64 (TX6 10).1 (TX6 10).2.1 (TX6 10).2.2.1 ∈ wsX6_from := by decide +kernel
theorem iX6_points_X6 : ∀ w ∈ wsX60, w ∈ wsX6_points := by decide +kernel
theorem lX6_points_28 : Cond.fieldLink RX6 28 (TX6 9).1 (TX6 9).2.1 (TX6 9).2.2.1 ∈ wsX6_points := by decide +kernel
theorem lX6_points_49 : Cond.fieldLink RX6 49 (TX6 0).1 (TX6 0).2.1 (TX6 0).2.2.1 ∈ wsX6_points := by decide +kernel
theorem iX6_fits_X6 : ∀ w ∈ wsX60, w ∈ wsX6_fits := by decide +kernel
theorem lX6_fits_7 : Cond.fieldLink RX6 7 (TX6 2).1 (TX6 2).2.1 (TX6 2).2.2.1 ∈ wsX6_fits := by decide +kernel
theorem lX6_fits_57 : Cond.fieldLink RX6 57 (TX6 1).1 (TX6 1).2.1 (TX6 1).2.2.1 ∈ wsX6_fits := by decide +kernel
theorem iX6_isBefore_X6 : ∀ w ∈ wsX60, w ∈ wsX6_isBefore := by decide +kernel
theorem lX6_isBefore_40 : Cond.fieldLink RX6 40 (TX6 14).1 (TX6 14).2.1 (TX6 14).2.2.1 ∈ wsX6_isBefore := by decide +kernel
theorem lX6_isBefore_43 : Cond.fieldLink RX6 43 (TX6 15).1 (TX6 15).2.1 (TX6 15).2.2.1 ∈ wsX6_isBefore := by decide +kernel
theorem iX6_come_X6 : ∀ w ∈ wsX60, w ∈ wsX6_come := by decide +kernel
theorem lX6_come_28 : Cond.fieldLink RX6 28 (TX6 9).1 (TX6 9).2.1 (TX6 9).2.2.1 ∈ wsX6_come := by decide +kernel
theorem lX6_come_37 : Cond.fieldLink RX6 37 (TX6 13).1 (TX6 13).2.1 (TX6 13).2.2.1 ∈ wsX6_come := by decide +kernel
theorem lX6_come_40 : Cond.fieldLink RX6 40 (TX6 14).1 (TX6 14).2.1 (TX6 14).2.2.1 ∈ wsX6_come := by decide +kernel
theorem lX6_come_43 : Cond.fieldLink RX6 43 (TX6 15).1 (TX6 15).2.1 (TX6 15).2.2.1 ∈ wsX6_come := by decide +kernel
theorem lX6_come_46 : Cond.fieldLink RX6 46 (TX6 16).1 (TX6 16).2.1 (TX6 16).2.2.1 ∈ wsX6_come := by decide +kernel
theorem iX6_findBest_X6 : ∀ w ∈ wsX60, w ∈ wsX6_findBest := by decide +kernel
theorem lX6_findBest_7 : Cond.fieldLink RX6 7 (TX6 2).1 (TX6 2).2.1 (TX6 2).2.2.1 ∈ wsX6_findBest := by decide +kernel
theorem lX6_findBest_37 : Cond.fieldLink RX6 37 (TX6 13).1 (TX6 13).2.1 (TX6 13).2.2.1 ∈ wsX6_findBest := by decide +kernel
theorem lX6_findBest_40 : Cond.fieldLink RX6 40 (TX6 14).1 (TX6 14).2.1 (TX6 14).2.2.1 ∈ wsX6_findBest := by decide +kernel
theorem lX6_findBest_46 : Cond.fieldLink RX6 46 (TX6 16).1 (TX6 16).2.1 (TX6 16).2.2.1 ∈ wsX6_findBest := by decide +kernel
theorem lX6_findBest_57 : Cond.fieldLink RX6 57 (TX6 1).1 (TX6 1).2.1 (TX6 1).2.2.1 ∈ wsX6_findBest := by decide +kernel
theorem lX6_findBest_70 : Cond.fieldLink RX6 70 (TX6 3).1 (TX6 3).2.1 (TX6 3).2.2.1 ∈ wsX6_findBest := by decide +kernel
theorem iX6_best_X6 : ∀ w ∈ wsX60, w ∈ wsX6_best := by decide +kernel
theorem lX6_best_40 : Cond.fieldLink RX6 40 (TX6 14).1 (TX6 14).2.1 (TX6 14).2.2.1 ∈ wsX6_best := by decide +kernel
theorem lX6_best_49 : Cond.fieldLink RX6 49 (TX6 0).1 (TX6 0).2.1 (TX6 0).2.2.1 ∈ wsX6_best := by decide +kernel
theorem lX6_best_57 : Cond.fieldLink RX6 57 (TX6 1).1 (TX6 1).2.1 (TX6 1).2.2.1 ∈ wsX6_best := by decide +kernel
theorem iX6_bestAt_X6 : ∀ w ∈ wsX60, w ∈ wsX6_bestAt := by decide +kernel
theorem lX6_bestAt_40 : Cond.fieldLink RX6 40 (TX6 14).1 (TX6 14).2.1 (TX6 14).2.2.1 ∈ wsX6_bestAt := by decide +kernel
theorem lX6_bestAt_43 : Cond.fieldLink RX6 43 (TX6 15).1 (TX6 15).2.1 (TX6 15).2.2.1 ∈ wsX6_bestAt := by decide +kernel
theorem lX6_bestAt_49 : Cond.fieldLink RX6 49 (TX6 0).1 (TX6 0).2.1 (TX6 0).2.2.1 ∈ wsX6_bestAt := by decide +kernel
theorem lX6_bestAt_57 : Cond.fieldLink RX6 57 (TX6 1).1 (TX6 1).2.1 (TX6 1).2.2.1 ∈ wsX6_bestAt := by decide +kernel
theorem iX6_sum_X6 : ∀ w ∈ wsX60, w ∈ wsX6_sum := by decide +kernel
theorem lX6_sum_37 : Cond.fieldLink RX6 37 (TX6 13).1 (TX6 13).2.1 (TX6 13).2.2.1 ∈ wsX6_sum := by decide +kernel
theorem lX6_sum_49 : Cond.fieldLink RX6 49 (TX6 0).1 (TX6 0).2.1 (TX6 0).2.2.1 ∈ wsX6_sum := by decide +kernel
theorem lX6_sum_57 : Cond.fieldLink RX6 57 (TX6 1).1 (TX6 1).2.1 (TX6 1).2.2.1 ∈ wsX6_sum := by decide +kernel
theorem iX6_ways_X6 : ∀ w ∈ wsX60, w ∈ wsX6_ways := by decide +kernel
theorem lX6_ways_46 : Cond.fieldLink RX6 46 (TX6 16).1 (TX6 16).2.1 (TX6 16).2.2.1 ∈ wsX6_ways := by decide +kernel
theorem lX6_ways_49 : Cond.fieldLink RX6 49 (TX6 0).1 (TX6 0).2.1 (TX6 0).2.2.1 ∈ wsX6_ways := by decide +kernel
theorem lX6_ways_57 : Cond.fieldLink RX6 57 (TX6 1).1 (TX6 1).2.1 (TX6 1).2.2.1 ∈ wsX6_ways := by decide +kernel
end
section
/-! Int32 by whole numbers: zI k; every comparison of two numbers in range is the one of Int -/
def zI (k : Int) : Int32 := Int32.ofInt k
def inR (k : Int) : Prop := -2147483648 ≤ k ∧ k < 2147483648
theorem zI_toInt {k : Int} (h : inR k) : (zI k).toInt = k := Int32.toInt_ofInt_of_le (by have := h.1; omega) (by have := h.2; omega)
theorem zI_of (x : Int32) : ∃ k : Int, inR k ∧ x = zI k := ⟨x.toInt, ⟨by have := x.le_toInt; omega, by have := x.toInt_lt; omega⟩, (Int32.ofInt_toInt x).symm⟩
theorem zI_add (a b : Int) : zI a + zI b = zI (a + b) := (Int32.ofInt_add a b).symm
theorem zI_sub (a b : Int) : zI a - zI b = zI (a - b) := (Int32.ofInt_sub a b).symm
theorem zI_mul (a b : Int) : zI a * zI b = zI (a * b) := (Int32.ofInt_mul a b).symm
theorem zI_lt {a b : Int} (ha : inR a) (hb : inR b) : zI a < zI b ↔ a < b := by rw [Int32.lt_iff_toInt_lt, zI_toInt ha, zI_toInt hb]
theorem zI_le {a b : Int} (ha : inR a) (hb : inR b) : zI a ≤ zI b ↔ a ≤ b := by rw [Int32.le_iff_toInt_le, zI_toInt ha, zI_toInt hb]
theorem zI_eq {a b : Int} (ha : inR a) (hb : inR b) : zI a = zI b ↔ a = b := by
  constructor
  · intro h
    have h2 := congrArg Int32.toInt h
    rwa [zI_toInt ha, zI_toInt hb] at h2
  · intro h
    rw [h]
theorem zI_cl {k : Int} (h : inR k) : (zI k).toNatClampNeg = k.toNat := Int32.toNatClampNeg_ofInt_of_le (by have := h.1; omega) (by have := h.2; omega)
theorem zI_0 : (0 : Int32) = zI 0 := by decide
theorem inR_0 : inR 0 := by constructor <;> decide
theorem zI_in {k : Int} {n : Nat} (h0 : 0 ≤ k) (h1 : k < n) (hn : n < 2147483648) : vp_in (zI k) n := by
  rw [vp_in_iff, zI_toInt ⟨by omega, by omega⟩]
  exact ⟨h0, h1⟩
theorem zI_nat (n : Nat) : zI (n : Int) = nI n := Int32.ofInt_eq_ofNat
theorem zI_by {n : Int} (h : -128 ≤ n) (h2 : n ≤ 127) : (Int8.ofInt n).toInt32 = zI n := by
  rw [← Int32.ofInt_int8ToInt, Int8.toInt_ofInt_of_le (by omega) (by omega)]
  rfl
theorem zI_sh {n : Int} (h : -32768 ≤ n) (h2 : n ≤ 32767) : (Int16.ofInt n).toInt32 = zI n := by
  rw [← Int32.ofInt_int16ToInt, Int16.toInt_ofInt_of_le (by omega) (by omega)]
  rfl
theorem zI_div {a b : Int} (ha : 0 ≤ a) (ha2 : a < 2147483648) (hb : 0 < b) (hb2 : b < 2147483648) : zI a / zI b = zI (a / b) := by
  obtain ⟨x, rfl⟩ := Int.eq_ofNat_of_zero_le ha
  obtain ⟨y, rfl⟩ := Int.eq_ofNat_of_zero_le (Int.le_of_lt hb)
  rw [zI_nat, zI_nat, pk_div (by omega) (by omega) (by omega), ← zI_nat]
  rfl
theorem zI_rem {a b : Int} (ha : 0 ≤ a) (ha2 : a < 2147483648) (hb : 0 < b) (hb2 : b < 2147483648) : zI a - zI a / zI b * zI b = zI (a % b) := by
  obtain ⟨x, rfl⟩ := Int.eq_ofNat_of_zero_le ha
  obtain ⟨y, rfl⟩ := Int.eq_ofNat_of_zero_le (Int.le_of_lt hb)
  rw [zI_nat, zI_nat, pk_rem (by omega) (by omega) (by omega), ← zI_nat]
  rfl
theorem zI_and255 {a : Int} (ha : 0 ≤ a) (ha2 : a < 2147483648) : zI a &&& zI 255 = zI (a % 256) := by
  obtain ⟨x, rfl⟩ := Int.eq_ofNat_of_zero_le ha
  rw [zI_nat, pk_andN (by omega) 8 (by decide), ← zI_nat]
  rfl
theorem zI_bool {v : Int} (h : v = 0 ∨ v = 1) : vp_nar .boolean (zI v) = zI v := by
  rcases h with rfl | rfl <;> decide
theorem zI_narZ {v : Int} (h : v = 0 ∨ v = 1) : narrow .boolean (.int (zI v)) = .int (zI v) := by
  rcases h with rfl | rfl <;> rfl
end
section
/-! A small machine over layouts. A layout L names the cells of a world by their numbers; ad gives their addresses; one function σ holds all numbers: σ j i is place i of array j, or int field i of object j. -/
abbrev aV : Type := Nat ⊕ Int
abbrev St : Type := Nat → Nat → Int
abbrev aC : Type := (Nat × List (Nat ⊕ Bool)) ⊕ (Nat × Nat)
abbrev Lay : Type := List aC
abbrev aS : Type := Nat × List (Nat × aV) × List aV × St
def aval (ad : Nat → Nat) (v : aV) : Value := match v with
  | .inl j => .ref (ad j)
  | .inr x => .int (zI x)
def aslot (ad : Nat → Nat) (g : Nat → Int) (f : Nat) (x : Nat ⊕ Bool) : Value := match x with
  | .inl j => .ref (ad j)
  | .inr true => .int (zI (g f))
  | .inr false => .null
def aslots (ad : Nat → Nat) (g : Nat → Int) : Nat → List (Nat ⊕ Bool) → List Value
  | _, [] => []
  | f, x :: xs => aslot ad g f x :: aslots ad g (f + 1) xs
def zA (g : Nat → Int) : Nat → Int32 := fun i => zI (g i)
def acell (cA : Nat → ClassId) (ad : Nat → Nat) (g : Nat → Int) (x : aC) : va_E := match x with
  | .inl o => .inr (o.1, aslots ad g 0 o.2)
  | .inr a => .inl (cA a.1, a.2, .inl (zA g))
def wL (cA : Nat → ClassId) (ad : Nat → Nat) (σ : St) : Nat → Lay → va_W
  | _, [] => []
  | i, x :: xs => (ad i, acell cA ad (σ i) x) :: wL cA ad σ (i + 1) xs
def stu (σ : St) (j i : Nat) (v : Int) : St := va_up σ j (va_up (σ j) i v)
def gT (cA : Nat → ClassId) : List (ClassId × FieldType) := [(cA 0, .int), (cA 1, .boolean)]
theorem wL_get (cA : Nat → ClassId) (ad : Nat → Nat) (σ : St) : ∀ (L : Lay) (i j : Nat), (wL cA ad σ i L)[j]? = (L[j]?).map (fun x => (ad (i + j), acell cA ad (σ (i + j)) x))
  | [], i, j => by simp [wL]
  | x :: xs, i, 0 => by simp [wL]
  | x :: xs, i, j + 1 => by
    show (wL cA ad σ (i + 1) xs)[j]? = _
    rw [wL_get cA ad σ xs (i + 1) j, show i + 1 + j = i + (j + 1) by omega]
    rfl
theorem wL_at {cA : Nat → ClassId} {ad : Nat → Nat} {σ : St} {L : Lay} {j : Nat} {x : aC} (h : L[j]? = some x) : (wL cA ad σ 0 L)[j]? = some (ad j, acell cA ad (σ j) x) := by
  rw [wL_get, h]
  simp
theorem wL_congr {cA : Nat → ClassId} {ad : Nat → Nat} {σ τ : St} : ∀ (L : Lay) (i : Nat), (∀ k, i ≤ k → σ k = τ k) → wL cA ad σ i L = wL cA ad τ i L
  | [], _, _ => rfl
  | x :: xs, i, h => by
    show (ad i, acell cA ad (σ i) x) :: wL cA ad σ (i + 1) xs = (ad i, acell cA ad (τ i) x) :: wL cA ad τ (i + 1) xs
    rw [h i (Nat.le_refl i), wL_congr xs (i + 1) (fun k hk => h k (by omega))]
theorem wL_setG {cA : Nat → ClassId} {ad : Nat → Nat} {σ : St} {g : Nat → Int} {x : aC} : ∀ (L : Lay) (i j : Nat), L[j]? = some x → (wL cA ad σ i L).set j (ad (i + j), acell cA ad g x) = wL cA ad (va_up σ (i + j) g) i L
  | [], i, j, h => by simp at h
  | y :: xs, i, 0, h => by
    have hy : y = x := by simpa using h
    subst hy
    show (ad (i + 0), acell cA ad g y) :: wL cA ad σ (i + 1) xs = (ad i, acell cA ad (va_up σ (i + 0) g i) y) :: wL cA ad (va_up σ (i + 0) g) (i + 1) xs
    rw [show i + 0 = i from rfl, va_up_self, wL_congr (σ := σ) (τ := va_up σ i g) xs (i + 1) (fun k hk => (va_up_ne σ g (by omega)).symm)]
  | y :: xs, i, j + 1, h => by
    have h' : xs[j]? = some x := by simpa using h
    show (ad i, acell cA ad (σ i) y) :: (wL cA ad σ (i + 1) xs).set j (ad (i + (j + 1)), acell cA ad g x) = (ad i, acell cA ad (va_up σ (i + (j + 1)) g i) y) :: wL cA ad (va_up σ (i + (j + 1)) g) (i + 1) xs
    rw [va_up_ne σ g (by omega), show i + (j + 1) = (i + 1) + j by omega, wL_setG xs (i + 1) j h']
theorem wL_set {cA : Nat → ClassId} {ad : Nat → Nat} {σ : St} {g : Nat → Int} {x : aC} {L : Lay} {j : Nat} (h : L[j]? = some x) : (wL cA ad σ 0 L).set j (ad j, acell cA ad g x) = wL cA ad (va_up σ j g) 0 L := by
  have := wL_setG (cA := cA) (ad := ad) (σ := σ) (g := g) (x := x) L 0 j h
  simpa using this
theorem wL_D {cA : Nat → ClassId} {ad : Nat → Nat} {σ τ : St} {L : Lay} {A : Nat → Prop} (h : va_D A (wL cA ad σ 0 L)) : va_D A (wL cA ad τ 0 L) := by
  have key : ∀ (k : Nat) (q : Nat × va_E), (wL cA ad τ 0 L)[k]? = some q → ∃ q', (wL cA ad σ 0 L)[k]? = some q' ∧ q'.1 = q.1 := by
    intro k q hq
    rw [wL_get] at hq
    cases hx : L[k]? with
    | none => rw [hx] at hq; simp at hq
    | some x =>
      rw [hx] at hq
      simp only [Option.map_some, Option.some.injEq] at hq
      exact ⟨_, wL_at hx, by rw [← hq]; simp⟩
  refine ⟨?_, ?_⟩
  · intro i j a b ha hb e
    obtain ⟨a', ha', ea⟩ := key i a ha
    obtain ⟨b', hb', eb⟩ := key j b hb
    exact h.1 i j a' b' ha' hb' (by rw [ea, eb, e])
  · intro k q hq
    obtain ⟨q', hq', e⟩ := key k q hq
    rw [← e]
    exact h.2 k q' hq'
theorem zA_up (g : Nat → Int) (k : Nat) (v : Int) : upd (zA g) k (zI v) = zA (va_up g k v) := by
  funext i
  simp only [upd, zA, va_up]
  split <;> rfl
theorem aslots_get (ad : Nat → Nat) (g : Nat → Int) : ∀ (sl : List (Nat ⊕ Bool)) (i f : Nat), (aslots ad g i sl)[f]? = (sl[f]?).map (fun x => aslot ad g (i + f) x)
  | [], i, f => by simp [aslots]
  | x :: xs, i, 0 => by simp [aslots]
  | x :: xs, i, f + 1 => by
    show (aslots ad g (i + 1) xs)[f]? = _
    rw [aslots_get ad g xs (i + 1) f, show i + 1 + f = i + (f + 1) by omega]
    rfl
theorem aslots_congr {ad : Nat → Nat} {g k : Nat → Int} : ∀ (sl : List (Nat ⊕ Bool)) (i : Nat), (∀ f, i ≤ f → g f = k f) → aslots ad g i sl = aslots ad k i sl
  | [], _, _ => rfl
  | x :: xs, i, h => by
    show aslot ad g i x :: aslots ad g (i + 1) xs = aslot ad k i x :: aslots ad k (i + 1) xs
    rw [aslots_congr xs (i + 1) (fun f hf => h f (by omega))]
    congr 1
    simp only [aslot, h i (Nat.le_refl i)]
theorem aslots_setG {ad : Nat → Nat} {g : Nat → Int} {v : Int} : ∀ (sl : List (Nat ⊕ Bool)) (i f : Nat), sl[f]? = some (.inr true) → (aslots ad g i sl).set f (.int (zI v)) = aslots ad (va_up g (i + f) v) i sl
  | [], i, f, h => by simp at h
  | y :: xs, i, 0, h => by
    have hy : y = .inr true := by simpa using h
    subst hy
    show Value.int (zI v) :: aslots ad g (i + 1) xs = Value.int (zI (va_up g (i + 0) v i)) :: aslots ad (va_up g (i + 0) v) (i + 1) xs
    rw [show i + 0 = i from rfl, va_up_self, aslots_congr (g := g) (k := va_up g i v) xs (i + 1) (fun f hf => (va_up_ne g v (by omega)).symm)]
  | y :: xs, i, f + 1, h => by
    have h' : xs[f]? = some (.inr true) := by simpa using h
    show aslot ad g i y :: (aslots ad g (i + 1) xs).set f (.int (zI v)) = aslot ad (va_up g (i + (f + 1)) v) i y :: aslots ad (va_up g (i + (f + 1)) v) (i + 1) xs
    rw [show i + (f + 1) = (i + 1) + f by omega, aslots_setG xs (i + 1) f h']
    congr 1
    simp only [aslot, va_up_ne g v (show i ≠ i + 1 + f by omega)]
theorem aslots_len (ad : Nat → Nat) (g : Nat → Int) : ∀ (sl : List (Nat ⊕ Bool)) (i : Nat), (aslots ad g i sl).length = sl.length
  | [], _ => rfl
  | x :: xs, i => by
    show (aslots ad g (i + 1) xs).length + 1 = xs.length + 1
    rw [aslots_len ad g xs (i + 1)]
/-! locals by number -/
def lget (i : Nat) : List (Nat × aV) → Option aV
  | [] => none
  | (a, v) :: r => match Nat.beq a i with
    | true => some v
    | false => lget i r
def ldel (i : Nat) : List (Nat × aV) → List (Nat × aV)
  | [] => []
  | (a, v) :: r => match Nat.beq a i with
    | true => ldel i r
    | false => (a, v) :: ldel i r
def lset (i : Nat) (v : aV) : List (Nat × aV) → List (Nat × aV)
  | [] => [(i, v)]
  | (a, w) :: r => match Nat.beq a i with
    | true => (i, v) :: ldel i r
    | false => (a, w) :: lset i v r
def cv (ad : Nat → Nat) (q : Nat × aV) : Nat × Value := (q.1, aval ad q.2)
theorem lget_mem {i : Nat} {v : aV} : ∀ {l : List (Nat × aV)}, lget i l = some v → (i, v) ∈ l
  | [], h => by simp [lget] at h
  | (a, w) :: r, h => by
    unfold lget at h
    cases hq : Nat.beq a i with
    | true =>
      rw [hq] at h
      have e : a = i := Nat.eq_of_beq_eq_true hq
      have e2 : w = v := by simpa using h
      rw [e, e2]
      exact List.mem_cons_self
    | false =>
      rw [hq] at h
      exact List.mem_cons_of_mem _ (lget_mem h)
theorem ldel_mem {i : Nat} {q : Nat × aV} : ∀ {l : List (Nat × aV)}, q ∈ ldel i l → q ∈ l ∧ q.1 ≠ i
  | [], h => by simp [ldel] at h
  | (a, w) :: r, h => by
    unfold ldel at h
    cases hq : Nat.beq a i with
    | true =>
      rw [hq] at h
      exact ⟨List.mem_cons_of_mem _ (ldel_mem h).1, (ldel_mem h).2⟩
    | false =>
      rw [hq] at h
      rcases List.mem_cons.mp h with e | h2
      · subst e
        exact ⟨List.mem_cons_self, fun e => by have e : a = i := e; rw [e, Nat.beq_refl] at hq; cases hq⟩
      · exact ⟨List.mem_cons_of_mem _ (ldel_mem h2).1, (ldel_mem h2).2⟩
theorem lset_mem {i : Nat} {v : aV} {q : Nat × aV} : ∀ {l : List (Nat × aV)}, q ∈ lset i v l → q = (i, v) ∨ (q ∈ l ∧ q.1 ≠ i)
  | [], h => by
    unfold lset at h
    exact Or.inl (List.mem_singleton.mp h)
  | (a, w) :: r, h => by
    unfold lset at h
    cases hq : Nat.beq a i with
    | true =>
      rw [hq] at h
      rcases List.mem_cons.mp h with e | h2
      · exact Or.inl e
      · exact Or.inr ⟨List.mem_cons_of_mem _ (ldel_mem h2).1, (ldel_mem h2).2⟩
    | false =>
      rw [hq] at h
      rcases List.mem_cons.mp h with e | h2
      · subst e
        exact Or.inr ⟨List.mem_cons_self, fun e => by have e : a = i := e; rw [e, Nat.beq_refl] at hq; cases hq⟩
      · rcases lset_mem h2 with e | ⟨h3, h4⟩
        · exact Or.inl e
        · exact Or.inr ⟨List.mem_cons_of_mem _ h3, h4⟩
theorem aval_cat (ad : Nat → Nat) (v : aV) : (aval ad v).category = 1 := by
  cases v <;> rfl
theorem lset_has {ad : Nat → Nat} {ls : Array Slot} {nL i : Nat} {v : aV} {lv : List (Nat × aV)} (h : lv_has ls nL ((i, aval ad v) :: (lv.map (cv ad)).filter (fun q => !(q.1 == i) && !(q.1 + 1 == i && q.2.category == 2)))) : lv_has ls nL ((lset i v lv).map (cv ad)) := by
  refine ⟨h.1, h.2.1, fun q hq => h.2.2 q ?_⟩
  obtain ⟨a, ha, rfl⟩ := List.mem_map.mp hq
  rcases lset_mem ha with rfl | ⟨h1, h2⟩
  · exact List.mem_cons_self
  · refine List.mem_cons_of_mem _ (List.mem_filter.mpr ⟨List.mem_map.mpr ⟨a, h1, rfl⟩, ?_⟩)
    have hc : (cv ad a).2.category = 1 := aval_cat ad a.2
    have hn : (cv ad a).1 ≠ i := h2
    simp [hc, hn]
theorem lget_has {ad : Nat → Nat} {ls : Array Slot} {nL i : Nat} {v : aV} {lv : List (Nat × aV)} (h : lv_has ls nL (lv.map (cv ad))) (hg : lget i lv = some v) : ls[i]? = some (.val (aval ad v)) :=
  h.2.2 (i, aval ad v) (List.mem_map.mpr ⟨(i, v), lget_mem hg, rfl⟩)
def nget {α : Type} (i : Nat) : List (Nat × α) → Option α
  | [] => none
  | (a, v) :: r => match Nat.beq a i with
    | true => some v
    | false => nget i r
theorem nget_mem {α : Type} {i : Nat} {v : α} : ∀ {l : List (Nat × α)}, nget i l = some v → (i, v) ∈ l
  | [], h => by simp [nget] at h
  | (a, w) :: r, h => by
    unfold nget at h
    cases hq : Nat.beq a i with
    | true =>
      rw [hq] at h
      have e : a = i := Nat.eq_of_beq_eq_true hq
      have e2 : w = v := by simpa using h
      rw [e, e2]
      exact List.mem_cons_self
    | false =>
      rw [hq] at h
      exact List.mem_cons_of_mem _ (nget_mem h)
end
section
/-! the machine's step, told forward: sx .. k says that the instruction may be done and k holds behind it -/
abbrev FL : Type := List (Nat × Nat × Nat)
def sx (fl pl : FL) (kl : List (Nat × Int)) (L : Lay) (nL nxt tgt : Nat) (i : Instr) (lv : List (Nat × aV)) (st : List aV) (σ : St) (k : aS → Prop) : Prop :=
  match i with
  | .iconst n => k (nxt, lv, .inr n :: st, σ)
  | .bipush n => k (nxt, lv, .inr n :: st, σ)
  | .sipush n => k (nxt, lv, .inr n :: st, σ)
  | .ldc x => match nget x kl with
    | some n => k (nxt, lv, .inr n :: st, σ)
    | none => False
  | .iload_n j => match lget j.val lv with
    | some (.inr x) => k (nxt, lv, .inr x :: st, σ)
    | _ => False
  | .iload j => match lget j lv with
    | some (.inr x) => k (nxt, lv, .inr x :: st, σ)
    | _ => False
  | .aload_n j => match lget j.val lv with
    | some (.inl x) => k (nxt, lv, .inl x :: st, σ)
    | _ => False
  | .aload j => match lget j lv with
    | some (.inl x) => k (nxt, lv, .inl x :: st, σ)
    | _ => False
  | .istore_n j => match Nat.blt j.val nL, st with
    | true, .inr x :: r => k (nxt, lset j.val (.inr x) lv, r, σ)
    | _, _ => False
  | .istore j => match Nat.blt j nL, st with
    | true, .inr x :: r => k (nxt, lset j (.inr x) lv, r, σ)
    | _, _ => False
  | .iinc j n => match Nat.blt j nL, lget j lv with
    | true, some (.inr x) => k (nxt, lset j (.inr (x + n)) lv, st, σ)
    | _, _ => False
  | .iadd => match st with
    | .inr y :: .inr x :: r => k (nxt, lv, .inr (x + y) :: r, σ)
    | _ => False
  | .isub => match st with
    | .inr y :: .inr x :: r => k (nxt, lv, .inr (x - y) :: r, σ)
    | _ => False
  | .imul => match st with
    | .inr y :: .inr x :: r => k (nxt, lv, .inr (x * y) :: r, σ)
    | _ => False
  | .iand => match st with
    | .inr y :: .inr x :: r => (y = 255 ∧ 0 ≤ x ∧ x < 2147483648) ∧ k (nxt, lv, .inr (x % 256) :: r, σ)
    | _ => False
  | .idiv => match st with
    | .inr y :: .inr x :: r => (0 ≤ x ∧ x < 2147483648 ∧ 0 < y ∧ y < 2147483648) ∧ k (nxt, lv, .inr (x / y) :: r, σ)
    | _ => False
  | .irem => match st with
    | .inr y :: .inr x :: r => (0 ≤ x ∧ x < 2147483648 ∧ 0 < y ∧ y < 2147483648) ∧ k (nxt, lv, .inr (x % y) :: r, σ)
    | _ => False
  | .dup => match st with
    | v :: r => k (nxt, lv, v :: v :: r, σ)
    | _ => False
  | .dup2 => match st with
    | v :: w :: r => k (nxt, lv, v :: w :: v :: w :: r, σ)
    | _ => False
  | .pop => match st with
    | _ :: r => k (nxt, lv, r, σ)
    | _ => False
  | .goto _ => k (tgt, lv, st, σ)
  | .arraylength => match st with
    | .inl j :: r => match L[j]? with
      | some (.inr (_, n)) => k (nxt, lv, .inr (n : Int) :: r, σ)
      | _ => False
    | _ => False
  | .iaload => match st with
    | .inr x :: .inl j :: r => match L[j]? with
      | some (.inr (0, n)) => (0 ≤ x ∧ x < (n : Int)) ∧ k (nxt, lv, .inr (σ j x.toNat) :: r, σ)
      | _ => False
    | _ => False
  | .baload => match st with
    | .inr x :: .inl j :: r => match L[j]? with
      | some (.inr (1, n)) => (0 ≤ x ∧ x < (n : Int)) ∧ k (nxt, lv, .inr (σ j x.toNat) :: r, σ)
      | _ => False
    | _ => False
  | .iastore => match st with
    | .inr v :: .inr x :: .inl j :: r => match L[j]? with
      | some (.inr (0, n)) => (0 ≤ x ∧ x < (n : Int)) ∧ k (nxt, lv, r, stu σ j x.toNat v)
      | _ => False
    | _ => False
  | .bastore => match st with
    | .inr v :: .inr x :: .inl j :: r => match L[j]? with
      | some (.inr (1, n)) => (0 ≤ x ∧ x < (n : Int) ∧ (v = 0 ∨ v = 1)) ∧ k (nxt, lv, r, stu σ j x.toNat v)
      | _ => False
    | _ => False
  | .getfield x => match st with
    | .inl j :: r => match nget x fl, L[j]? with
      | some (ci, f), some (.inl (co, sl)) => match Nat.beq ci co, sl[f]? with
        | true, some (.inl j') => k (nxt, lv, .inl j' :: r, σ)
        | true, some (.inr true) => k (nxt, lv, .inr (σ j f) :: r, σ)
        | _, _ => False
      | _, _ => False
    | _ => False
  | .putfield x => match st with
    | .inr v :: .inl j :: r => match nget x pl, L[j]? with
      | some (ci, f), some (.inl (co, sl)) => match Nat.beq ci co, sl[f]? with
        | true, some (.inr true) => k (nxt, lv, r, stu σ j f v)
        | _, _ => False
      | _, _ => False
    | _ => False
  | .ifCond cnd _ => match st with
    | .inr x :: r => inR x ∧ match cnd with
      | .eq => (x = 0 → k (tgt, lv, r, σ)) ∧ (¬ x = 0 → k (nxt, lv, r, σ))
      | .ne => (¬ x = 0 → k (tgt, lv, r, σ)) ∧ (x = 0 → k (nxt, lv, r, σ))
      | .lt => (x < 0 → k (tgt, lv, r, σ)) ∧ (¬ x < 0 → k (nxt, lv, r, σ))
      | .ge => (0 ≤ x → k (tgt, lv, r, σ)) ∧ (¬ 0 ≤ x → k (nxt, lv, r, σ))
      | .gt => (0 < x → k (tgt, lv, r, σ)) ∧ (¬ 0 < x → k (nxt, lv, r, σ))
      | .le => (x ≤ 0 → k (tgt, lv, r, σ)) ∧ (¬ x ≤ 0 → k (nxt, lv, r, σ))
    | _ => False
  | .if_icmp cnd _ => match st with
    | .inr y :: .inr x :: r => (inR x ∧ inR y) ∧ match cnd with
      | .eq => (x = y → k (tgt, lv, r, σ)) ∧ (¬ x = y → k (nxt, lv, r, σ))
      | .ne => (¬ x = y → k (tgt, lv, r, σ)) ∧ (x = y → k (nxt, lv, r, σ))
      | .lt => (x < y → k (tgt, lv, r, σ)) ∧ (¬ x < y → k (nxt, lv, r, σ))
      | .ge => (y ≤ x → k (tgt, lv, r, σ)) ∧ (¬ y ≤ x → k (nxt, lv, r, σ))
      | .gt => (y < x → k (tgt, lv, r, σ)) ∧ (¬ y < x → k (nxt, lv, r, σ))
      | .le => (x ≤ y → k (tgt, lv, r, σ)) ∧ (¬ x ≤ y → k (nxt, lv, r, σ))
    | _ => False
  | _ => False
def inl? (pc : Nat) : List Nat → Bool
  | [] => false
  | q :: r => match Nat.beq q pc with
    | true => true
    | false => inl? pc r
/-- from a state on, up to one of the stops, at most n instructions -/
def wp (tab : TB) (fl pl : FL) (kl : List (Nat × Int)) (L : Lay) (nL : Nat) (stops : List Nat) : Nat → aS → (aS → Prop) → Prop
  | 0, a, K => K a
  | n + 1, (pc, lv, st, σ), K => match nget pc tab with
    | some (i, nxt, tgt) => sx fl pl kl L nL nxt tgt i lv st σ (fun b => match inl? b.1 stops with
      | true => K b
      | false => wp tab fl pl kl L nL stops n b K)
    | none => False
end
section
def Va (p : Program) (l : Launch) (e : Env) (R : Room) (s : State) (m : MethodId) (args : Array Value) (below : List Frame) (meth : Method) (c : Code) (cells slots : Nat) (Q : State → Prop) (D : va_G) (cA : Nat → ClassId) (ad : Nat → Nat) (L : Lay) (nL : Nat) (A : Nat → Prop) (a : aS) : Prop :=
  ∀ (H : Heap) (locs : List Loc) (ls : Array Slot), va_P D vwCl (wL cA ad a.2.2.2 0 L) H → va_D A (wL cA ad a.2.2.2 0 L) → va_S A s.heap H locs → lv_has ls nL (a.2.1.map (cv ad)) → W p l e R s m args below meth c H locs cells slots Q (F0 m a.1 ls (a.2.2.1.map (aval ad)))
def Fx (p : Program) (s : State) (m : MethodId) (args : Array Value) (c : Code) (cc : ByteArray) (nL : Nat) (own : String) (Ts : List Cond) (D : va_G) (cA : Nat → ClassId) (A : Nat → Prop) : Prop :=
  CallFix p m c cc nL s args Ts own ∧ va_K D vwCl (gT cA) s ∧ ∀ q, s.heap.size ≤ q → A q
def layOk (L : Lay) : Prop := ∀ (j : Nat) (a : Nat × Nat), L[j]? = some (.inr a) → a.2 < 2147483648 ∧ a.1 < 2
def flOk (own : String) (Ts : List Cond) (fl : FL) : Prop := ∀ q ∈ fl, ∃ (C : String) (T : u_T) (N : Nat), vwCl[q.2.1]? = some (C, T, N) ∧ q.2.2 < N ∧ Cond.fieldLink own q.1 (T q.2.2).1 (T q.2.2).2.1 (T q.2.2).2.2.1 ∈ Ts ∧ ∀ w ∈ u_ws C T N, w ∈ Ts
def plOk (own : String) (Ts : List Cond) (fl : FL) : Prop := ∀ q ∈ fl, ∃ (C : String) (T : u_T) (N : Nat) (ty : Nat → FieldType), vwCl[q.2.1]? = some (C, T, N) ∧ q.2.2 < N ∧ Cond.fieldLink own q.1 (T q.2.2).1 (T q.2.2).2.1 (T q.2.2).2.2.1 ∈ Ts ∧ (∀ w ∈ u_ws C T N, w ∈ Ts) ∧ (∀ k, k < N → parseFieldDescriptor (T k).2.2.1 = some (ty k)) ∧ (∀ a, a < N → ∀ b, b < N → a ≠ b → (T a).2.1 ≠ (T b).2.1) ∧ (T q.2.2).2.2.2 = false ∧ parseFieldDescriptor (T q.2.2).2.2.1 = some .int
def klOk (own : String) (Ts : List Cond) (kl : List (Nat × Int)) : Prop := ∀ q ∈ kl, Cond.constant own q.1 (zI q.2) ∈ Ts
section Mach
variable {p : Program} {l : Launch} {e : Env} {R : Room} {s : State} {m : MethodId} {args : Array Value} {below : List Frame} {meth : Method} {c : Code} {cells slots : Nat} {Q : State → Prop} {D : va_G} {cA : Nat → ClassId} {ad : Nat → Nat} {L : Lay} {nL : Nat} {A : Nat → Prop} {cc : ByteArray} {own : String} {Ts : List Cond} {tab : TB} {fl pl : FL} {kl : List (Nat × Int)} {pc nxt tgt : Nat} {lv : List (Nat × aV)} {st : List aV} {σ : St}
theorem Va.iconst (F : Fx p s m args c cc nL own Ts D cA A) {n : Int} (hd : decode cc pc = .ok (.iconst n, 1)) (k : Va p l e R s m args below meth c cells slots Q D cA ad L nL A (pc + 1, lv, .inr n :: st, σ)) : Va p l e R s m args below meth c cells slots Q D cA ad L nL A (pc, lv, st, σ) :=
  fun H locs ls hP hD hS hl => lv_iconst F.1.1 F.1.2.1 hd rfl (k H locs ls hP hD hS hl)
theorem Va.bipush (F : Fx p s m args c cc nL own Ts D cA A) {n : Int} (hd : decode cc pc = .ok (.bipush n, 2)) (h1 : -128 ≤ n) (h2 : n ≤ 127) (k : Va p l e R s m args below meth c cells slots Q D cA ad L nL A (pc + 2, lv, .inr n :: st, σ)) : Va p l e R s m args below meth c cells slots Q D cA ad L nL A (pc, lv, st, σ) :=
  fun H locs ls hP hD hS hl => lv_bipush F.1.1 F.1.2.1 hd (zI_by h1 h2) (k H locs ls hP hD hS hl)
theorem Va.sipush (F : Fx p s m args c cc nL own Ts D cA A) {n : Int} (hd : decode cc pc = .ok (.sipush n, 3)) (h1 : -32768 ≤ n) (h2 : n ≤ 32767) (k : Va p l e R s m args below meth c cells slots Q D cA ad L nL A (pc + 3, lv, .inr n :: st, σ)) : Va p l e R s m args below meth c cells slots Q D cA ad L nL A (pc, lv, st, σ) :=
  fun H locs ls hP hD hS hl => lv_sipush F.1.1 F.1.2.1 hd (zI_sh h1 h2) (k H locs ls hP hD hS hl)
theorem Va.ldc (F : Fx p s m args c cc nL own Ts D cA A) {x : Nat} {n : Int} (hd : decode cc pc = .ok (.ldc x, 2)) (h1 : Cond.constant own x (zI n) ∈ Ts) (k : Va p l e R s m args below meth c cells slots Q D cA ad L nL A (pc + 2, lv, .inr n :: st, σ)) : Va p l e R s m args below meth c cells slots Q D cA ad L nL A (pc, lv, st, σ) :=
  fun H locs ls hP hD hS hl => lv_ldc F.1.1 F.1.2.1 F.1.2.2.2.1 (F.1.2.2.2.2 _ h1) hd (k H locs ls hP hD hS hl)
theorem Va.iload_n (F : Fx p s m args c cc nL own Ts D cA A) {j : Fin 4} {x : Int} (hd : decode cc pc = .ok (.iload_n j, 1)) (h1 : lget j.val lv = some (.inr x)) (k : Va p l e R s m args below meth c cells slots Q D cA ad L nL A (pc + 1, lv, .inr x :: st, σ)) : Va p l e R s m args below meth c cells slots Q D cA ad L nL A (pc, lv, st, σ) :=
  fun H locs ls hP hD hS hl => lv_iload_n F.1.1 F.1.2.1 hd rfl (lget_has hl h1) (k H locs ls hP hD hS hl)
theorem Va.iload (F : Fx p s m args c cc nL own Ts D cA A) {j : Nat} {x : Int} (hd : decode cc pc = .ok (.iload j, 2)) (h1 : lget j lv = some (.inr x)) (k : Va p l e R s m args below meth c cells slots Q D cA ad L nL A (pc + 2, lv, .inr x :: st, σ)) : Va p l e R s m args below meth c cells slots Q D cA ad L nL A (pc, lv, st, σ) :=
  fun H locs ls hP hD hS hl => lv_iload F.1.1 F.1.2.1 hd (lget_has hl h1) (k H locs ls hP hD hS hl)
theorem Va.aload_n (F : Fx p s m args c cc nL own Ts D cA A) {j : Fin 4} {x : Nat} (hd : decode cc pc = .ok (.aload_n j, 1)) (h1 : lget j.val lv = some (.inl x)) (k : Va p l e R s m args below meth c cells slots Q D cA ad L nL A (pc + 1, lv, .inl x :: st, σ)) : Va p l e R s m args below meth c cells slots Q D cA ad L nL A (pc, lv, st, σ) :=
  fun H locs ls hP hD hS hl => lv_aload_n F.1.1 F.1.2.1 hd rfl (lget_has hl h1) (k H locs ls hP hD hS hl)
theorem Va.aload (F : Fx p s m args c cc nL own Ts D cA A) {j : Nat} {x : Nat} (hd : decode cc pc = .ok (.aload j, 2)) (h1 : lget j lv = some (.inl x)) (k : Va p l e R s m args below meth c cells slots Q D cA ad L nL A (pc + 2, lv, .inl x :: st, σ)) : Va p l e R s m args below meth c cells slots Q D cA ad L nL A (pc, lv, st, σ) :=
  fun H locs ls hP hD hS hl => lv_aload F.1.1 F.1.2.1 hd (lget_has hl h1) (k H locs ls hP hD hS hl)
theorem Va.istore_n (F : Fx p s m args c cc nL own Ts D cA A) {j : Fin 4} {x : Int} (hd : decode cc pc = .ok (.istore_n j, 1)) (h1 : j.val < nL) (k : Va p l e R s m args below meth c cells slots Q D cA ad L nL A (pc + 1, lset j.val (.inr x) lv, st, σ)) : Va p l e R s m args below meth c cells slots Q D cA ad L nL A (pc, lv, .inr x :: st, σ) :=
  fun H locs ls hP hD hS hl => lv_istore_n F.1.1 F.1.2.1 hd rfl hl h1 rfl (fun ls' hl' => k H locs ls' hP hD hS (lset_has (v := .inr x) hl'))
theorem Va.istore (F : Fx p s m args c cc nL own Ts D cA A) {j : Nat} {x : Int} (hd : decode cc pc = .ok (.istore j, 2)) (h1 : j < nL) (k : Va p l e R s m args below meth c cells slots Q D cA ad L nL A (pc + 2, lset j (.inr x) lv, st, σ)) : Va p l e R s m args below meth c cells slots Q D cA ad L nL A (pc, lv, .inr x :: st, σ) :=
  fun H locs ls hP hD hS hl => lv_istore F.1.1 F.1.2.1 hd hl h1 rfl (fun ls' hl' => k H locs ls' hP hD hS (lset_has (v := .inr x) hl'))
theorem Va.iinc (F : Fx p s m args c cc nL own Ts D cA A) {j : Nat} {n x : Int} (hd : decode cc pc = .ok (.iinc j n, 3)) (h1 : j < nL) (hg : lget j lv = some (.inr x)) (k : Va p l e R s m args below meth c cells slots Q D cA ad L nL A (pc + 3, lset j (.inr (x + n)) lv, st, σ)) : Va p l e R s m args below meth c cells slots Q D cA ad L nL A (pc, lv, st, σ) := by
  intro H locs ls hP hD hS hl
  obtain ⟨k0, hk0⟩ := List.getElem?_of_mem (List.mem_map.mpr ⟨(j, Sum.inr x), lget_mem hg, rfl⟩ : cv ad (j, Sum.inr x) ∈ lv.map (cv ad))
  exact lv_iinc F.1.1 F.1.2.1 hd hl hk0 (zI_add x n) h1 rfl (fun ls' hl' => k H locs ls' hP hD hS (lset_has (v := .inr (x + n)) hl'))
theorem Va.iadd (F : Fx p s m args c cc nL own Ts D cA A) {x y : Int} (hd : decode cc pc = .ok (.iadd, 1)) (k : Va p l e R s m args below meth c cells slots Q D cA ad L nL A (pc + 1, lv, .inr (x + y) :: st, σ)) : Va p l e R s m args below meth c cells slots Q D cA ad L nL A (pc, lv, .inr y :: .inr x :: st, σ) := by
  intro H locs ls hP hD hS hl
  refine lv_iadd F.1.1 F.1.2.1 hd ?_
  rw [zI_add]
  exact k H locs ls hP hD hS hl
theorem Va.isub (F : Fx p s m args c cc nL own Ts D cA A) {x y : Int} (hd : decode cc pc = .ok (.isub, 1)) (k : Va p l e R s m args below meth c cells slots Q D cA ad L nL A (pc + 1, lv, .inr (x - y) :: st, σ)) : Va p l e R s m args below meth c cells slots Q D cA ad L nL A (pc, lv, .inr y :: .inr x :: st, σ) := by
  intro H locs ls hP hD hS hl
  refine lv_isub F.1.1 F.1.2.1 hd ?_
  rw [zI_sub]
  exact k H locs ls hP hD hS hl
theorem Va.imul (F : Fx p s m args c cc nL own Ts D cA A) {x y : Int} (hd : decode cc pc = .ok (.imul, 1)) (k : Va p l e R s m args below meth c cells slots Q D cA ad L nL A (pc + 1, lv, .inr (x * y) :: st, σ)) : Va p l e R s m args below meth c cells slots Q D cA ad L nL A (pc, lv, .inr y :: .inr x :: st, σ) := by
  intro H locs ls hP hD hS hl
  refine lv_imul F.1.1 F.1.2.1 hd ?_
  rw [zI_mul]
  exact k H locs ls hP hD hS hl
theorem Va.iand (F : Fx p s m args c cc nL own Ts D cA A) {x y : Int} (hd : decode cc pc = .ok (.iand, 1)) (hy : y = 255) (h0 : 0 ≤ x) (h1 : x < 2147483648) (k : Va p l e R s m args below meth c cells slots Q D cA ad L nL A (pc + 1, lv, .inr (x % 256) :: st, σ)) : Va p l e R s m args below meth c cells slots Q D cA ad L nL A (pc, lv, .inr y :: .inr x :: st, σ) := by
  intro H locs ls hP hD hS hl
  subst hy
  refine lv_iand F.1.1 F.1.2.1 hd ?_
  rw [zI_and255 h0 h1]
  exact k H locs ls hP hD hS hl
theorem zI_ne0 {y : Int} (h : 0 < y) (h2 : y < 2147483648) : ¬ zI y = 0 := by
  rw [zI_0, zI_eq ⟨by omega, h2⟩ inR_0]
  omega
theorem Va.idiv (F : Fx p s m args c cc nL own Ts D cA A) {x y : Int} (hd : decode cc pc = .ok (.idiv, 1)) (h0 : 0 ≤ x) (h1 : x < 2147483648) (h2 : 0 < y) (h3 : y < 2147483648) (k : Va p l e R s m args below meth c cells slots Q D cA ad L nL A (pc + 1, lv, .inr (x / y) :: st, σ)) : Va p l e R s m args below meth c cells slots Q D cA ad L nL A (pc, lv, .inr y :: .inr x :: st, σ) := by
  intro H locs ls hP hD hS hl
  refine lv_idiv F.1.1 F.1.2.1 hd (zI_ne0 h2 h3) ?_
  rw [zI_div h0 h1 h2 h3]
  exact k H locs ls hP hD hS hl
theorem Va.irem (F : Fx p s m args c cc nL own Ts D cA A) {x y : Int} (hd : decode cc pc = .ok (.irem, 1)) (h0 : 0 ≤ x) (h1 : x < 2147483648) (h2 : 0 < y) (h3 : y < 2147483648) (k : Va p l e R s m args below meth c cells slots Q D cA ad L nL A (pc + 1, lv, .inr (x % y) :: st, σ)) : Va p l e R s m args below meth c cells slots Q D cA ad L nL A (pc, lv, .inr y :: .inr x :: st, σ) := by
  intro H locs ls hP hD hS hl
  refine lv_irem F.1.1 F.1.2.1 hd (zI_ne0 h2 h3) ?_
  rw [zI_rem h0 h1 h2 h3]
  exact k H locs ls hP hD hS hl
theorem Va.dup (F : Fx p s m args c cc nL own Ts D cA A) {v : aV} (hd : decode cc pc = .ok (.dup, 1)) (k : Va p l e R s m args below meth c cells slots Q D cA ad L nL A (pc + 1, lv, v :: v :: st, σ)) : Va p l e R s m args below meth c cells slots Q D cA ad L nL A (pc, lv, v :: st, σ) :=
  fun H locs ls hP hD hS hl => lv_dup F.1.1 F.1.2.1 hd (aval_cat ad v) (k H locs ls hP hD hS hl)
theorem Va.dup2 (F : Fx p s m args c cc nL own Ts D cA A) {v w : aV} (hd : decode cc pc = .ok (.dup2, 1)) (k : Va p l e R s m args below meth c cells slots Q D cA ad L nL A (pc + 1, lv, v :: w :: v :: w :: st, σ)) : Va p l e R s m args below meth c cells slots Q D cA ad L nL A (pc, lv, v :: w :: st, σ) :=
  fun H locs ls hP hD hS hl => lv_dup2_11 F.1.1 F.1.2.1 hd (aval_cat ad v) (aval_cat ad w) (k H locs ls hP hD hS hl)
theorem Va.pop (F : Fx p s m args c cc nL own Ts D cA A) {v : aV} (hd : decode cc pc = .ok (.pop, 1)) (k : Va p l e R s m args below meth c cells slots Q D cA ad L nL A (pc + 1, lv, st, σ)) : Va p l e R s m args below meth c cells slots Q D cA ad L nL A (pc, lv, v :: st, σ) :=
  fun H locs ls hP hD hS hl => lv_pop F.1.1 F.1.2.1 hd (aval_cat ad v) (k H locs ls hP hD hS hl)
theorem Va.goto (F : Fx p s m args c cc nL own Ts D cA A) {off : Int} (hd : decode cc pc = .ok (.goto off, 3)) (ht : (pc : Int) + off = (tgt : Int)) (k : Va p l e R s m args below meth c cells slots Q D cA ad L nL A (tgt, lv, st, σ)) : Va p l e R s m args below meth c cells slots Q D cA ad L nL A (pc, lv, st, σ) :=
  fun H locs ls hP hD hS hl => lv_goto F.1.1 F.1.2.1 hd ht (k H locs ls hP hD hS hl)
theorem gT_get {a : Nat × Nat} (h : a.1 < 2) : ∃ (t0 : Nat) (ty : FieldType), (gT cA)[t0]? = some (cA a.1, ty) := by
  rcases (show a.1 = 0 ∨ a.1 = 1 by omega) with h0 | h0 <;> rw [h0]
  · exact ⟨0, _, rfl⟩
  · exact ⟨1, _, rfl⟩
theorem Va.alen (F : Fx p s m args c cc nL own Ts D cA A) {j : Nat} {a : Nat × Nat} (ha : a.1 < 2) (hd : decode cc pc = .ok (.arraylength, 1)) (hj : L[j]? = some (.inr a)) (k : Va p l e R s m args below meth c cells slots Q D cA ad L nL A (pc + 1, lv, .inr (a.2 : Int) :: st, σ)) : Va p l e R s m args below meth c cells slots Q D cA ad L nL A (pc, lv, .inl j :: st, σ) := by
  intro H locs ls hP hD hS hl
  obtain ⟨t0, ty, ht⟩ := gT_get (cA := cA) ha
  exact va_alen F.1.1 F.1.2.1 F.2.1 hP j t0 (wL_at hj) ht (zI_nat a.2).symm hd (k H locs ls hP hD hS hl)
theorem Va.iaload (F : Fx p s m args c cc nL own Ts D cA A) {j n : Nat} {x : Int} (hd : decode cc pc = .ok (.iaload, 1)) (hj : L[j]? = some (.inr (0, n))) (hn : n < 2147483648) (h0 : 0 ≤ x) (h1 : x < (n : Int)) (k : Va p l e R s m args below meth c cells slots Q D cA ad L nL A (pc + 1, lv, .inr (σ j x.toNat) :: st, σ)) : Va p l e R s m args below meth c cells slots Q D cA ad L nL A (pc, lv, .inr x :: .inl j :: st, σ) := by
  intro H locs ls hP hD hS hl
  refine va_iald F.1.1 F.1.2.1 F.2.1 hP j 0 (wL_at hj) rfl (zI_in h0 h1 hn) hd ?_
  show W p l e R s m args below meth c H locs cells slots Q (F0 m (pc + 1) ls (.int (zI (σ j (zI x).toNatClampNeg)) :: st.map (aval ad)))
  rw [zI_cl ⟨by omega, by omega⟩]
  exact k H locs ls hP hD hS hl
theorem Va.baload (F : Fx p s m args c cc nL own Ts D cA A) {j n : Nat} {x : Int} (hd : decode cc pc = .ok (.baload, 1)) (hj : L[j]? = some (.inr (1, n))) (hn : n < 2147483648) (h0 : 0 ≤ x) (h1 : x < (n : Int)) (k : Va p l e R s m args below meth c cells slots Q D cA ad L nL A (pc + 1, lv, .inr (σ j x.toNat) :: st, σ)) : Va p l e R s m args below meth c cells slots Q D cA ad L nL A (pc, lv, .inr x :: .inl j :: st, σ) := by
  intro H locs ls hP hD hS hl
  refine va_zald F.1.1 F.1.2.1 F.2.1 hP j 1 (wL_at hj) rfl (zI_in h0 h1 hn) hd ?_
  show W p l e R s m args below meth c H locs cells slots Q (F0 m (pc + 1) ls (.int (zI (σ j (zI x).toNatClampNeg)) :: st.map (aval ad)))
  rw [zI_cl ⟨by omega, by omega⟩]
  exact k H locs ls hP hD hS hl
theorem Va.iastore (F : Fx p s m args c cc nL own Ts D cA A) {j n : Nat} {x v : Int} (hd : decode cc pc = .ok (.iastore, 1)) (hj : L[j]? = some (.inr (0, n))) (hn : n < 2147483648) (h0 : 0 ≤ x) (h1 : x < (n : Int)) (k : Va p l e R s m args below meth c cells slots Q D cA ad L nL A (pc + 1, lv, st, stu σ j x.toNat v)) : Va p l e R s m args below meth c cells slots Q D cA ad L nL A (pc, lv, .inr v :: .inr x :: .inl j :: st, σ) := by
  intro H locs ls hP hD hS hl
  refine va_iast F.1.1 F.1.2.1 F.2.1 hP hD hS j 0 (wL_at hj) rfl (zI_in h0 h1 hn) hd (fun H1 locs1 hP1 hD1 hS1 => ?_)
  have e : (wL cA ad σ 0 L).set j (ad j, .inl (cA 0, n, .inl (upd (zA (σ j)) (zI x).toNatClampNeg (zI v)))) = wL cA ad (stu σ j x.toNat v) 0 L := by
    rw [zI_cl ⟨by omega, by omega⟩, zA_up]
    exact wL_set hj
  have hP1 := Eq.subst (motive := fun w => va_P D vwCl w H1) e hP1
  have hD1 := Eq.subst (motive := fun w => va_D A w) e hD1
  exact k H1 locs1 ls hP1 hD1 hS1 hl
theorem Va.bastore (F : Fx p s m args c cc nL own Ts D cA A) {j n : Nat} {x v : Int} (hd : decode cc pc = .ok (.bastore, 1)) (hj : L[j]? = some (.inr (1, n))) (hn : n < 2147483648) (h0 : 0 ≤ x) (h1 : x < (n : Int)) (hv : v = 0 ∨ v = 1) (k : Va p l e R s m args below meth c cells slots Q D cA ad L nL A (pc + 1, lv, st, stu σ j x.toNat v)) : Va p l e R s m args below meth c cells slots Q D cA ad L nL A (pc, lv, .inr v :: .inr x :: .inl j :: st, σ) := by
  intro H locs ls hP hD hS hl
  refine va_zast F.1.1 F.1.2.1 F.2.1 hP hD hS j 1 (wL_at hj) rfl (zI_in h0 h1 hn) hd (fun H1 locs1 hP1 hD1 hS1 => ?_)
  have e : (wL cA ad σ 0 L).set j (ad j, .inl (cA 1, n, .inl (upd (zA (σ j)) (zI x).toNatClampNeg (vp_nar .boolean (zI v))))) = wL cA ad (stu σ j x.toNat v) 0 L := by
    rw [zI_cl ⟨by omega, by omega⟩, zI_bool hv, zA_up]
    exact wL_set hj
  have hP1 := Eq.subst (motive := fun w => va_P D vwCl w H1) e hP1
  have hD1 := Eq.subst (motive := fun w => va_D A w) e hD1
  exact k H1 locs1 ls hP1 hD1 hS1 hl
theorem Va.getR (F : Fx p s m args c cc nL own Ts D cA A) (hfl : flOk own Ts fl) {x j j' ci f : Nat} {sl : List (Nat ⊕ Bool)} (hd : decode cc pc = .ok (.getfield x, 3)) (hx : (x, ci, f) ∈ fl) (hj : L[j]? = some (.inl (ci, sl))) (hf : sl[f]? = some (.inl j')) (k : Va p l e R s m args below meth c cells slots Q D cA ad L nL A (pc + 3, lv, .inl j' :: st, σ)) : Va p l e R s m args below meth c cells slots Q D cA ad L nL A (pc, lv, .inl j :: st, σ) := by
  intro H locs ls hP hD hS hl
  obtain ⟨C, T, N, hc, hN, hlk, hin⟩ := hfl _ hx
  exact va_get F.1.1 F.1.2.1 F.1.2.2.2.2 hin F.1.2.2.2.1 F.2.1 hP j (wL_at hj) hc f hN (F.1.2.2.2.2 _ hlk) (fun _ h9 => h9) (v := .ref (ad j')) (by rw [aslots_get, hf]; rfl) hd (k H locs ls hP hD hS hl)
theorem Va.getI (F : Fx p s m args c cc nL own Ts D cA A) (hfl : flOk own Ts fl) {x j ci f : Nat} {sl : List (Nat ⊕ Bool)} (hd : decode cc pc = .ok (.getfield x, 3)) (hx : (x, ci, f) ∈ fl) (hj : L[j]? = some (.inl (ci, sl))) (hf : sl[f]? = some (.inr true)) (k : Va p l e R s m args below meth c cells slots Q D cA ad L nL A (pc + 3, lv, .inr (σ j f) :: st, σ)) : Va p l e R s m args below meth c cells slots Q D cA ad L nL A (pc, lv, .inl j :: st, σ) := by
  intro H locs ls hP hD hS hl
  obtain ⟨C, T, N, hc, hN, hlk, hin⟩ := hfl _ hx
  exact va_get F.1.1 F.1.2.1 F.1.2.2.2.2 hin F.1.2.2.2.1 F.2.1 hP j (wL_at hj) hc f hN (F.1.2.2.2.2 _ hlk) (fun _ h9 => h9) (v := .int (zI (σ j f))) (by rw [aslots_get, hf]; simp [aslot]) hd (k H locs ls hP hD hS hl)
theorem Va.putI (F : Fx p s m args c cc nL own Ts D cA A) (hpl : plOk own Ts pl) {x j ci f : Nat} {v : Int} {sl : List (Nat ⊕ Bool)} (hd : decode cc pc = .ok (.putfield x, 3)) (hx : (x, ci, f) ∈ pl) (hj : L[j]? = some (.inl (ci, sl))) (hf : sl[f]? = some (.inr true)) (k : Va p l e R s m args below meth c cells slots Q D cA ad L nL A (pc + 3, lv, st, stu σ j f v)) : Va p l e R s m args below meth c cells slots Q D cA ad L nL A (pc, lv, .inr v :: .inl j :: st, σ) := by
  intro H locs ls hP hD hS hl
  obtain ⟨C, T, N, ty, hc, hN, hlk, hin, hty, hnm, hfin, hdc⟩ := hpl _ hx
  refine va_put F.1.1 F.1.2.1 F.1.2.2.2.2 hin ty hty hnm F.1.2.2.2.1 F.2.1 hP hD hS j (wL_at hj) hc f hN (F.1.2.2.2.2 _ hlk) (fun _ h9 => h9) hfin hdc rfl rfl (by rw [aslots_len]; exact (List.getElem?_eq_some_iff.mp hf).1) hd (fun H1 locs1 hP1 hD1 hS1 => ?_)
  have e : (wL cA ad σ 0 L).set j (ad j, .inr (ci, (aslots ad (σ j) 0 sl).set f (.int (zI v)))) = wL cA ad (stu σ j f v) 0 L := by
    rw [aslots_setG sl 0 f hf, Nat.zero_add]
    exact wL_set hj
  have hP1 := Eq.subst (motive := fun w => va_P D vwCl w H1) e hP1
  have hD1 := Eq.subst (motive := fun w => va_D A w) e hD1
  exact k H1 locs1 ls hP1 hD1 hS1 hl
end Mach
end
section
section Mach2
variable {p : Program} {l : Launch} {e : Env} {R : Room} {s : State} {m : MethodId} {args : Array Value} {below : List Frame} {meth : Method} {c : Code} {cells slots : Nat} {Q : State → Prop} {D : va_G} {cA : Nat → ClassId} {ad : Nat → Nat} {L : Lay} {nL : Nat} {A : Nat → Prop} {cc : ByteArray} {own : String} {Ts : List Cond} {tab : TB} {fl pl : FL} {kl : List (Nat × Int)} {pc nxt tgt : Nat} {lv : List (Nat × aV)} {st : List aV} {σ : St}
theorem Va.icmp_eq (F : Fx p s m args c cc nL own Ts D cA A) {x y off : Int} (hd : decode cc pc = .ok (.if_icmp .eq off, 3)) (ht : (pc : Int) + off = (tgt : Int)) (hx : inR x) (hy : inR y) (kt : x = y → Va p l e R s m args below meth c cells slots Q D cA ad L nL A (tgt, lv, st, σ)) (kf : ¬ x = y → Va p l e R s m args below meth c cells slots Q D cA ad L nL A (pc + 3, lv, st, σ)) : Va p l e R s m args below meth c cells slots Q D cA ad L nL A (pc, lv, .inr y :: .inr x :: st, σ) :=
  fun H locs ls hP hD hS hl => lv_icmp_eq F.1.1 F.1.2.1 hd ht (fun h => kt ((zI_eq hx hy).mp h) H locs ls hP hD hS hl) (fun h => kf (fun h9 => h ((zI_eq hx hy).mpr h9)) H locs ls hP hD hS hl)
theorem Va.if_eq (F : Fx p s m args c cc nL own Ts D cA A) {x off : Int} (hd : decode cc pc = .ok (.ifCond .eq off, 3)) (ht : (pc : Int) + off = (tgt : Int)) (hx : inR x) (kt : x = 0 → Va p l e R s m args below meth c cells slots Q D cA ad L nL A (tgt, lv, st, σ)) (kf : ¬ x = 0 → Va p l e R s m args below meth c cells slots Q D cA ad L nL A (pc + 3, lv, st, σ)) : Va p l e R s m args below meth c cells slots Q D cA ad L nL A (pc, lv, .inr x :: st, σ) :=
  fun H locs ls hP hD hS hl => lv_if_eq F.1.1 F.1.2.1 hd ht (fun h => kt ((zI_eq hx inR_0).mp h) H locs ls hP hD hS hl) (fun h => kf (fun h9 => h ((zI_eq hx inR_0).mpr h9)) H locs ls hP hD hS hl)
theorem Va.icmp_ne (F : Fx p s m args c cc nL own Ts D cA A) {x y off : Int} (hd : decode cc pc = .ok (.if_icmp .ne off, 3)) (ht : (pc : Int) + off = (tgt : Int)) (hx : inR x) (hy : inR y) (kt : ¬ x = y → Va p l e R s m args below meth c cells slots Q D cA ad L nL A (tgt, lv, st, σ)) (kf : x = y → Va p l e R s m args below meth c cells slots Q D cA ad L nL A (pc + 3, lv, st, σ)) : Va p l e R s m args below meth c cells slots Q D cA ad L nL A (pc, lv, .inr y :: .inr x :: st, σ) :=
  fun H locs ls hP hD hS hl => lv_icmp_ne F.1.1 F.1.2.1 hd ht (fun h => kt (fun h9 => h ((zI_eq hx hy).mpr h9)) H locs ls hP hD hS hl) (fun h => kf ((zI_eq hx hy).mp h) H locs ls hP hD hS hl)
theorem Va.if_ne (F : Fx p s m args c cc nL own Ts D cA A) {x off : Int} (hd : decode cc pc = .ok (.ifCond .ne off, 3)) (ht : (pc : Int) + off = (tgt : Int)) (hx : inR x) (kt : ¬ x = 0 → Va p l e R s m args below meth c cells slots Q D cA ad L nL A (tgt, lv, st, σ)) (kf : x = 0 → Va p l e R s m args below meth c cells slots Q D cA ad L nL A (pc + 3, lv, st, σ)) : Va p l e R s m args below meth c cells slots Q D cA ad L nL A (pc, lv, .inr x :: st, σ) :=
  fun H locs ls hP hD hS hl => lv_if_ne F.1.1 F.1.2.1 hd ht (fun h => kt (fun h9 => h ((zI_eq hx inR_0).mpr h9)) H locs ls hP hD hS hl) (fun h => kf ((zI_eq hx inR_0).mp h) H locs ls hP hD hS hl)
theorem Va.icmp_lt (F : Fx p s m args c cc nL own Ts D cA A) {x y off : Int} (hd : decode cc pc = .ok (.if_icmp .lt off, 3)) (ht : (pc : Int) + off = (tgt : Int)) (hx : inR x) (hy : inR y) (kt : x < y → Va p l e R s m args below meth c cells slots Q D cA ad L nL A (tgt, lv, st, σ)) (kf : ¬ x < y → Va p l e R s m args below meth c cells slots Q D cA ad L nL A (pc + 3, lv, st, σ)) : Va p l e R s m args below meth c cells slots Q D cA ad L nL A (pc, lv, .inr y :: .inr x :: st, σ) :=
  fun H locs ls hP hD hS hl => lv_icmp_lt F.1.1 F.1.2.1 hd ht (fun h => kt ((zI_lt hx hy).mp h) H locs ls hP hD hS hl) (fun h => kf (fun h9 => h ((zI_lt hx hy).mpr h9)) H locs ls hP hD hS hl)
theorem Va.if_lt (F : Fx p s m args c cc nL own Ts D cA A) {x off : Int} (hd : decode cc pc = .ok (.ifCond .lt off, 3)) (ht : (pc : Int) + off = (tgt : Int)) (hx : inR x) (kt : x < 0 → Va p l e R s m args below meth c cells slots Q D cA ad L nL A (tgt, lv, st, σ)) (kf : ¬ x < 0 → Va p l e R s m args below meth c cells slots Q D cA ad L nL A (pc + 3, lv, st, σ)) : Va p l e R s m args below meth c cells slots Q D cA ad L nL A (pc, lv, .inr x :: st, σ) :=
  fun H locs ls hP hD hS hl => lv_if_lt F.1.1 F.1.2.1 hd ht (fun h => kt ((zI_lt hx inR_0).mp h) H locs ls hP hD hS hl) (fun h => kf (fun h9 => h ((zI_lt hx inR_0).mpr h9)) H locs ls hP hD hS hl)
theorem Va.icmp_ge (F : Fx p s m args c cc nL own Ts D cA A) {x y off : Int} (hd : decode cc pc = .ok (.if_icmp .ge off, 3)) (ht : (pc : Int) + off = (tgt : Int)) (hx : inR x) (hy : inR y) (kt : y ≤ x → Va p l e R s m args below meth c cells slots Q D cA ad L nL A (tgt, lv, st, σ)) (kf : ¬ y ≤ x → Va p l e R s m args below meth c cells slots Q D cA ad L nL A (pc + 3, lv, st, σ)) : Va p l e R s m args below meth c cells slots Q D cA ad L nL A (pc, lv, .inr y :: .inr x :: st, σ) :=
  fun H locs ls hP hD hS hl => lv_icmp_ge F.1.1 F.1.2.1 hd ht (fun h => kt ((zI_le hy hx).mp h) H locs ls hP hD hS hl) (fun h => kf (fun h9 => h ((zI_le hy hx).mpr h9)) H locs ls hP hD hS hl)
theorem Va.if_ge (F : Fx p s m args c cc nL own Ts D cA A) {x off : Int} (hd : decode cc pc = .ok (.ifCond .ge off, 3)) (ht : (pc : Int) + off = (tgt : Int)) (hx : inR x) (kt : 0 ≤ x → Va p l e R s m args below meth c cells slots Q D cA ad L nL A (tgt, lv, st, σ)) (kf : ¬ 0 ≤ x → Va p l e R s m args below meth c cells slots Q D cA ad L nL A (pc + 3, lv, st, σ)) : Va p l e R s m args below meth c cells slots Q D cA ad L nL A (pc, lv, .inr x :: st, σ) :=
  fun H locs ls hP hD hS hl => lv_if_ge F.1.1 F.1.2.1 hd ht (fun h => kt ((zI_le inR_0 hx).mp h) H locs ls hP hD hS hl) (fun h => kf (fun h9 => h ((zI_le inR_0 hx).mpr h9)) H locs ls hP hD hS hl)
theorem Va.icmp_gt (F : Fx p s m args c cc nL own Ts D cA A) {x y off : Int} (hd : decode cc pc = .ok (.if_icmp .gt off, 3)) (ht : (pc : Int) + off = (tgt : Int)) (hx : inR x) (hy : inR y) (kt : y < x → Va p l e R s m args below meth c cells slots Q D cA ad L nL A (tgt, lv, st, σ)) (kf : ¬ y < x → Va p l e R s m args below meth c cells slots Q D cA ad L nL A (pc + 3, lv, st, σ)) : Va p l e R s m args below meth c cells slots Q D cA ad L nL A (pc, lv, .inr y :: .inr x :: st, σ) :=
  fun H locs ls hP hD hS hl => lv_icmp_gt F.1.1 F.1.2.1 hd ht (fun h => kt ((zI_lt hy hx).mp h) H locs ls hP hD hS hl) (fun h => kf (fun h9 => h ((zI_lt hy hx).mpr h9)) H locs ls hP hD hS hl)
theorem Va.if_gt (F : Fx p s m args c cc nL own Ts D cA A) {x off : Int} (hd : decode cc pc = .ok (.ifCond .gt off, 3)) (ht : (pc : Int) + off = (tgt : Int)) (hx : inR x) (kt : 0 < x → Va p l e R s m args below meth c cells slots Q D cA ad L nL A (tgt, lv, st, σ)) (kf : ¬ 0 < x → Va p l e R s m args below meth c cells slots Q D cA ad L nL A (pc + 3, lv, st, σ)) : Va p l e R s m args below meth c cells slots Q D cA ad L nL A (pc, lv, .inr x :: st, σ) :=
  fun H locs ls hP hD hS hl => lv_if_gt F.1.1 F.1.2.1 hd ht (fun h => kt ((zI_lt inR_0 hx).mp h) H locs ls hP hD hS hl) (fun h => kf (fun h9 => h ((zI_lt inR_0 hx).mpr h9)) H locs ls hP hD hS hl)
theorem Va.icmp_le (F : Fx p s m args c cc nL own Ts D cA A) {x y off : Int} (hd : decode cc pc = .ok (.if_icmp .le off, 3)) (ht : (pc : Int) + off = (tgt : Int)) (hx : inR x) (hy : inR y) (kt : x ≤ y → Va p l e R s m args below meth c cells slots Q D cA ad L nL A (tgt, lv, st, σ)) (kf : ¬ x ≤ y → Va p l e R s m args below meth c cells slots Q D cA ad L nL A (pc + 3, lv, st, σ)) : Va p l e R s m args below meth c cells slots Q D cA ad L nL A (pc, lv, .inr y :: .inr x :: st, σ) :=
  fun H locs ls hP hD hS hl => lv_icmp_le F.1.1 F.1.2.1 hd ht (fun h => kt ((zI_le hx hy).mp h) H locs ls hP hD hS hl) (fun h => kf (fun h9 => h ((zI_le hx hy).mpr h9)) H locs ls hP hD hS hl)
theorem Va.if_le (F : Fx p s m args c cc nL own Ts D cA A) {x off : Int} (hd : decode cc pc = .ok (.ifCond .le off, 3)) (ht : (pc : Int) + off = (tgt : Int)) (hx : inR x) (kt : x ≤ 0 → Va p l e R s m args below meth c cells slots Q D cA ad L nL A (tgt, lv, st, σ)) (kf : ¬ x ≤ 0 → Va p l e R s m args below meth c cells slots Q D cA ad L nL A (pc + 3, lv, st, σ)) : Va p l e R s m args below meth c cells slots Q D cA ad L nL A (pc, lv, .inr x :: st, σ) :=
  fun H locs ls hP hD hS hl => lv_if_le F.1.1 F.1.2.1 hd ht (fun h => kt ((zI_le hx inR_0).mp h) H locs ls hP hD hS hl) (fun h => kf (fun h9 => h ((zI_le hx inR_0).mpr h9)) H locs ls hP hD hS hl)
theorem tchk_n {pc : Nat} {i : Instr} {nxt tgt : Nat} (h : tchk (pc, i, nxt, tgt) = true) : pc + ilen i = nxt := by
  unfold tchk at h
  rw [Bool.and_eq_true] at h
  exact of_decide_eq_true h.1
theorem tchk_g {pc : Nat} {off : Int} {nxt tgt : Nat} (h : tchk (pc, .goto off, nxt, tgt) = true) : (pc : Int) + off = (tgt : Int) := by
  unfold tchk at h
  rw [Bool.and_eq_true] at h
  exact of_decide_eq_true h.2
theorem tchk_i {pc : Nat} {cn : Jvm.ClassFile.Cond} {off : Int} {nxt tgt : Nat} (h : tchk (pc, .if_icmp cn off, nxt, tgt) = true) : (pc : Int) + off = (tgt : Int) := by
  unfold tchk at h
  rw [Bool.and_eq_true] at h
  exact of_decide_eq_true h.2
theorem tchk_c {pc : Nat} {cn : Jvm.ClassFile.Cond} {off : Int} {nxt tgt : Nat} (h : tchk (pc, .ifCond cn off, nxt, tgt) = true) : (pc : Int) + off = (tgt : Int) := by
  unfold tchk at h
  rw [Bool.and_eq_true] at h
  exact of_decide_eq_true h.2
theorem tchk_b {pc : Nat} {n : Int} {nxt tgt : Nat} (h : tchk (pc, .bipush n, nxt, tgt) = true) : -128 ≤ n ∧ n ≤ 127 := by
  unfold tchk at h
  rw [Bool.and_eq_true, Bool.and_eq_true] at h
  exact ⟨of_decide_eq_true h.2.1, of_decide_eq_true h.2.2⟩
theorem tchk_s {pc : Nat} {n : Int} {nxt tgt : Nat} (h : tchk (pc, .sipush n, nxt, tgt) = true) : -32768 ≤ n ∧ n ≤ 32767 := by
  unfold tchk at h
  rw [Bool.and_eq_true, Bool.and_eq_true] at h
  exact ⟨of_decide_eq_true h.2.1, of_decide_eq_true h.2.2⟩
theorem sx_ok (F : Fx p s m args c cc nL own Ts D cA A) (hL : layOk L) (ht : tabOk cc tab) (hfl : flOk own Ts fl) (hpl : plOk own Ts pl) (hkl : klOk own Ts kl) {i : Instr} (hg : nget pc tab = some (i, nxt, tgt)) {k : aS → Prop} (h : sx fl pl kl L nL nxt tgt i lv st σ k) (hk : ∀ b, k b → Va p l e R s m args below meth c cells slots Q D cA ad L nL A b) : Va p l e R s m args below meth c cells slots Q D cA ad L nL A (pc, lv, st, σ) := by
  obtain ⟨hd, hc⟩ := ht _ (nget_mem hg)
  have hn := tchk_n hc
  subst hn
  unfold sx at h
  split at h
  · exact Va.iconst F hd (hk _ h)
  · exact Va.bipush F hd (tchk_b hc).1 (tchk_b hc).2 (hk _ h)
  · exact Va.sipush F hd (tchk_s hc).1 (tchk_s hc).2 (hk _ h)
  · split at h
    · rename_i hx
      exact Va.ldc F hd (hkl _ (nget_mem hx)) (hk _ h)
    · exact h.elim
  · split at h
    · rename_i hx
      exact Va.iload_n F hd hx (hk _ h)
    · exact h.elim
  · split at h
    · rename_i hx
      exact Va.iload F hd hx (hk _ h)
    · exact h.elim
  · split at h
    · rename_i hx
      exact Va.aload_n F hd hx (hk _ h)
    · exact h.elim
  · split at h
    · rename_i hx
      exact Va.aload F hd hx (hk _ h)
    · exact h.elim
  · split at h
    · rename_i hx
      exact Va.istore_n F hd (Nat.blt_eq.mp hx) (hk _ h)
    · exact h.elim
  · split at h
    · rename_i hx
      exact Va.istore F hd (Nat.blt_eq.mp hx) (hk _ h)
    · exact h.elim
  · split at h
    · rename_i hx hy
      exact Va.iinc F hd (Nat.blt_eq.mp hx) hy (hk _ h)
    · exact h.elim
  · split at h
    · exact Va.iadd F hd (hk _ h)
    · exact h.elim
  · split at h
    · exact Va.isub F hd (hk _ h)
    · exact h.elim
  · split at h
    · exact Va.imul F hd (hk _ h)
    · exact h.elim
  · split at h
    · exact Va.iand F hd h.1.1 h.1.2.1 h.1.2.2 (hk _ h.2)
    · exact h.elim
  · split at h
    · exact Va.idiv F hd h.1.1 h.1.2.1 h.1.2.2.1 h.1.2.2.2 (hk _ h.2)
    · exact h.elim
  · split at h
    · exact Va.irem F hd h.1.1 h.1.2.1 h.1.2.2.1 h.1.2.2.2 (hk _ h.2)
    · exact h.elim
  · split at h
    · exact Va.dup F hd (hk _ h)
    · exact h.elim
  · split at h
    · exact Va.dup2 F hd (hk _ h)
    · exact h.elim
  · split at h
    · exact Va.pop F hd (hk _ h)
    · exact h.elim
  · exact Va.goto F hd (tchk_g hc) (hk _ h)
  · split at h
    · split at h
      · rename_i hx
        exact Va.alen F (hL _ _ hx).2 hd hx (hk _ h)
      · exact h.elim
    · exact h.elim
  · split at h
    · split at h
      · rename_i hx
        exact Va.iaload F hd hx (hL _ _ hx).1 h.1.1 h.1.2 (hk _ h.2)
      · exact h.elim
    · exact h.elim
  · split at h
    · split at h
      · rename_i hx
        exact Va.baload F hd hx (hL _ _ hx).1 h.1.1 h.1.2 (hk _ h.2)
      · exact h.elim
    · exact h.elim
  · split at h
    · split at h
      · rename_i hx
        exact Va.iastore F hd hx (hL _ _ hx).1 h.1.1 h.1.2 (hk _ h.2)
      · exact h.elim
    · exact h.elim
  · split at h
    · split at h
      · rename_i hx
        exact Va.bastore F hd hx (hL _ _ hx).1 h.1.1 h.1.2.1 h.1.2.2 (hk _ h.2)
      · exact h.elim
    · exact h.elim
  · split at h
    · split at h
      · rename_i ci f co sl hx hj
        split at h
        · rename_i h1 h2
          have e : ci = co := Nat.eq_of_beq_eq_true h1
          subst e
          exact Va.getR F hfl hd (nget_mem hx) hj h2 (hk _ h)
        · rename_i h1 h2
          have e : ci = co := Nat.eq_of_beq_eq_true h1
          subst e
          exact Va.getI F hfl hd (nget_mem hx) hj h2 (hk _ h)
        · exact h.elim
      · exact h.elim
    · exact h.elim
  · split at h
    · split at h
      · rename_i ci f co sl hx hj
        split at h
        · rename_i h1 h2
          have e : ci = co := Nat.eq_of_beq_eq_true h1
          subst e
          exact Va.putI F hpl hd (nget_mem hx) hj h2 (hk _ h)
        · exact h.elim
      · exact h.elim
    · exact h.elim
  · split at h
    · obtain ⟨hx, h⟩ := h
      split at h
      · exact Va.if_eq F hd (tchk_c hc) hx (fun q => hk _ (h.1 q)) (fun q => hk _ (h.2 q))
      · exact Va.if_ne F hd (tchk_c hc) hx (fun q => hk _ (h.1 q)) (fun q => hk _ (h.2 q))
      · exact Va.if_lt F hd (tchk_c hc) hx (fun q => hk _ (h.1 q)) (fun q => hk _ (h.2 q))
      · exact Va.if_ge F hd (tchk_c hc) hx (fun q => hk _ (h.1 q)) (fun q => hk _ (h.2 q))
      · exact Va.if_gt F hd (tchk_c hc) hx (fun q => hk _ (h.1 q)) (fun q => hk _ (h.2 q))
      · exact Va.if_le F hd (tchk_c hc) hx (fun q => hk _ (h.1 q)) (fun q => hk _ (h.2 q))
    · exact h.elim
  · split at h
    · obtain ⟨⟨hx, hy⟩, h⟩ := h
      split at h
      · exact Va.icmp_eq F hd (tchk_i hc) hx hy (fun q => hk _ (h.1 q)) (fun q => hk _ (h.2 q))
      · exact Va.icmp_ne F hd (tchk_i hc) hx hy (fun q => hk _ (h.1 q)) (fun q => hk _ (h.2 q))
      · exact Va.icmp_lt F hd (tchk_i hc) hx hy (fun q => hk _ (h.1 q)) (fun q => hk _ (h.2 q))
      · exact Va.icmp_ge F hd (tchk_i hc) hx hy (fun q => hk _ (h.1 q)) (fun q => hk _ (h.2 q))
      · exact Va.icmp_gt F hd (tchk_i hc) hx hy (fun q => hk _ (h.1 q)) (fun q => hk _ (h.2 q))
      · exact Va.icmp_le F hd (tchk_i hc) hx hy (fun q => hk _ (h.1 q)) (fun q => hk _ (h.2 q))
    · exact h.elim
  · exact h.elim
theorem wp_ok (F : Fx p s m args c cc nL own Ts D cA A) (hL : layOk L) (ht : tabOk cc tab) (hfl : flOk own Ts fl) (hpl : plOk own Ts pl) (hkl : klOk own Ts kl) (stops : List Nat) : ∀ (n : Nat) (a : aS), wp tab fl pl kl L nL stops n a (Va p l e R s m args below meth c cells slots Q D cA ad L nL A) → Va p l e R s m args below meth c cells slots Q D cA ad L nL A a
  | 0, a, h => h
  | n + 1, (pc, lv, st, σ), h => by
    unfold wp at h
    split at h
    · rename_i i nxt tgt hg
      refine sx_ok F hL ht hfl hpl hkl hg h (fun b hb => ?_)
      split at hb
      · exact hb
      · exact wp_ok F hL ht hfl hpl hkl stops n b hb
    · exact h.elim
end Mach2
end
section
/-! contracts over a layout: Ci answers an int (or a boolean as 0, 1), Cv nothing; no cell is made -/
def qI (D : va_G) (cA : Nat → ClassId) (ad : Nat → Nat) (L : Lay) (post : Int → St → Prop) (A : Nat → Prop) : Array Value → State → Outcome → State → Prop := va_Qi (fun (r : Int32) (u : Int × St) => r = zI u.1 ∧ inR u.1 ∧ post u.1 u.2) (fun (u : Int × St) (t : State) => va_P D vwCl (wL cA ad u.2 0 L) t.heap) A
def qV (D : va_G) (cA : Nat → ClassId) (ad : Nat → Nat) (L : Lay) (post : St → Prop) (A : Nat → Prop) : Array Value → State → Outcome → State → Prop := va_Qv post (fun (u : St) (t : State) => va_P D vwCl (wL cA ad u 0 L) t.heap) A
def Ci (l : Launch) (y : MethodName) (ws : List Cond) (rm : Room) (D : va_G) (cA : Nat → ClassId) (ad : Nat → Nat) (L : Lay) (vs : List aV) (σ : St) (post : Int → St → Prop) : Prop :=
  ∀ sz : Nat, Met l y ws rm (va_Pc (vs.map (aval ad)) (fun U => U.heap.size = sz ∧ va_P D vwCl (wL cA ad σ 0 L) U.heap ∧ va_K D vwCl (gT cA) U ∧ va_D (fun _ => True) (wL cA ad σ 0 L))) (qI D cA ad L post (va_A (wL cA ad σ 0 L) sz)) 0 0 (va_A (wL cA ad σ 0 L) sz)
def Cv (l : Launch) (y : MethodName) (ws : List Cond) (rm : Room) (D : va_G) (cA : Nat → ClassId) (ad : Nat → Nat) (L : Lay) (vs : List aV) (σ : St) (post : St → Prop) : Prop :=
  ∀ sz : Nat, Met l y ws rm (va_Pc (vs.map (aval ad)) (fun U => U.heap.size = sz ∧ va_P D vwCl (wL cA ad σ 0 L) U.heap ∧ va_K D vwCl (gT cA) U ∧ va_D (fun _ => True) (wL cA ad σ 0 L))) (qV D cA ad L post (va_A (wL cA ad σ 0 L) sz)) 0 0 (va_A (wL cA ad σ 0 L) sz)
def okV (R : Room) (own : String) (Ts : List Cond) (idx : Nat) (C : String) (y : MethodName) (ws : List Cond) (rm : Room) (n : Nat) : Prop :=
  ∃ (bytes : ByteArray) (maxL : Nat) (ret : Option FieldType) (ws' : List Cond), GoodIn Ts (wsV own idx C y ws) ∧ ws = .code y bytes maxL ret :: ws' ∧ rm.cells = 0 ∧ rm.slots = 0 ∧ (y.cls = C ∧ y.cls ≠ "java/lang/invoke/MethodHandle" ∧ y.cls ≠ "java/lang/invoke/VarHandle" ∧ (parseMethodDescriptor y.desc).map (fun d => d.parameters.length) = some n) ∧ (rm.frames + 1 ≤ R.frames ∧ 8 + (maxL + 11) + rm.locals ≤ R.locals)
def okS (R : Room) (own : String) (Ts : List Cond) (idx : Nat) (y : MethodName) (ws : List Cond) (rm : Room) (n : Nat) : Prop :=
  ∃ (bytes : ByteArray) (maxL : Nat) (ret : Option FieldType) (ws' : List Cond), GoodIn Ts (va_wsS own idx y ws) ∧ ws = .code y bytes maxL ret :: ws' ∧ rm.cells = 0 ∧ rm.slots = 0 ∧ (y.cls ≠ "java/lang/invoke/MethodHandle" ∧ y.cls ≠ "java/lang/invoke/VarHandle" ∧ (parseMethodDescriptor y.desc).map (fun d => d.parameters.length) = some n) ∧ (rm.frames + 1 ≤ R.frames ∧ 8 + (maxL + 11) + rm.locals ≤ R.locals)
def minW (own : String) (idx : Nat) : List Cond := [.methodLink own idx Lib.Math.min.name, .static Lib.Math.min.name, .initialized "java/lang/Math", .code Lib.Math.min.name Lib.Math.min.code 2 (some .int)]
def cpyW (own : String) (idx : Nat) : List Cond := [.methodLink own idx arraycopyName, .native arraycopyName, .static arraycopyName, .initialized "java/lang/System"]
def lnum : Nat → List aV → List (Nat × aV)
  | _, [] => []
  | i, v :: vs => (i, v) :: lnum (i + 1) vs
theorem lnum_args (ad : Nat → Nat) : ∀ (vs : List aV) (i : Nat), lv_args i (vs.map (aval ad)) = (lnum i vs).map (cv ad)
  | [], _ => rfl
  | v :: vs, i => by
    show (i, aval ad v) :: lv_args (if (aval ad v).category = 2 then i + 2 else i + 1) (vs.map (aval ad)) = cv ad (i, v) :: (lnum (i + 1) vs).map (cv ad)
    rw [aval_cat, if_neg (by decide), lnum_args ad vs (i + 1)]
    rfl
theorem lg_len (ad : Nat → Nat) : ∀ (vs : List aV), (lg_sl (vs.map (aval ad))).length = vs.length
  | [] => rfl
  | v :: vs => by
    have h := lg_len ad vs
    unfold lg_sl at h ⊢
    rw [List.map_cons, List.flatMap_cons, aval_cat, if_neg (by decide), List.length_append, h, List.length_singleton, List.length_cons]
    omega
theorem cat_sum (ad : Nat → Nat) : ∀ (vs : List aV), ((vs.map (aval ad)).map fun v => v.category).sum = vs.length
  | [] => rfl
  | v :: vs => by
    rw [List.map_cons, List.map_cons, List.sum_cons, cat_sum ad vs, aval_cat, List.length_cons]
    omega
theorem inR_z {x : Int} (h : x = 0 ∨ x = 1) : inR x := by
  unfold inR
  omega
section Mach3
variable {p : Program} {l : Launch} {e : Env} {R : Room} {s : State} {m : MethodId} {args : Array Value} {below : List Frame} {meth : Method} {c : Code} {cells slots : Nat} {Q : State → Prop} {D : va_G} {cA : Nat → ClassId} {ad : Nat → Nat} {L : Lay} {nL : Nat} {A : Nat → Prop} {cc : ByteArray} {own : String} {Ts : List Cond} {tab : TB} {fl pl : FL} {kl : List (Nat × Int)} {pc nxt tgt : Nat} {lv : List (Nat × aV)} {st : List aV} {σ : St}
theorem Fx.free (F : Fx p s m args c cc nL own Ts D cA A) {H : Heap} {locs : List Loc} (hD : va_D A (wL cA ad σ 0 L)) (hS : va_S A s.heap H locs) : ∀ q, va_A (wL cA ad σ 0 L) H.size q → A q := by
  intro q h
  rcases h with ⟨k, x, hk⟩ | h
  · exact hD.2 k _ hk
  · exact F.2.2 q (Nat.le_trans hS.1 h)
theorem Va.callVi (F : Fx p s m args c cc nL own Ts D cA A) {idx j : Nat} {C : String} {T : u_T} {N : Nat} {o : Nat × List (Nat ⊕ Bool)} {y : MethodName} {ws : List Cond} {rm : Room} {vs rest : List aV} {post : Int → St → Prop} (ok : okV R own Ts idx C y ws rm vs.length) (hd : decode cc pc = .ok (.invokevirtual idx, 3)) (hj : L[j]? = some (.inl o)) (hc : vwCl[o.1]? = some (C, T, N)) (hlen : rest.length ≤ 8) (hcs : cells ≤ R.cells ∧ slots ≤ R.slots) (hM : Ci l y ws rm D cA ad L (.inl j :: vs) σ post) (k : ∀ (r : Int) (τ : St), inR r → post r τ → Va p l e R s m args below meth c cells slots Q D cA ad L nL A (pc + 3, lv, .inr r :: rest, τ)) : Va p l e R s m args below meth c cells slots Q D cA ad L nL A (pc, lv, vs.reverse ++ .inl j :: rest, σ) := by
  intro H locs ls hP hD hS hl
  obtain ⟨bytes, maxL, ret, ws', hg, hw, hrc, hrs, hdd, hR⟩ := ok
  have hFc := F.free hD hS
  refine va_calli (va_runV (As := vs.map (aval ad)) (rest := rest.map (aval ad)) (b := ad j) F.1 (hM H.size) (cwV vs.length F.1.2.2.2.2 hg hw hrc hrs hdd hR) ⟨fun a U g mk q => by obtain ⟨q0, q1, qP, qK, qD⟩ := q; exact ⟨q0, q1, qP, va_K.moved (u := U) (U := U.calling g mk a) (Vm.Alike.refl U.vm) qK, qD⟩, va_recv F.2.1 hP hc (wL_at hj), fun U hU hW => ⟨rfl, by rw [hU], by rw [hU]; exact hP, va_K.moved hW.alike F.2.1, hD.weaken (fun _ _ _ _ => trivial)⟩⟩ rfl (by simp) hl.1 (by simp [aval, List.map_reverse]) (lv_room (by rw [cat_sum]; exact hlen)) hd hcs) hS (fun q _ h => hFc q h) hFc (fun r u t H1 locs1 ht hvm hw hB hz1 hk1 hS1 => ?_)
  obtain ⟨hr, hin, hp⟩ := hw
  subst hr
  exact k u.1 u.2 hin hp H1 locs1 ls (by rw [← ht]; exact hB) (wL_D hD) hS1 hl
theorem Va.callVv (F : Fx p s m args c cc nL own Ts D cA A) {idx j : Nat} {C : String} {T : u_T} {N : Nat} {o : Nat × List (Nat ⊕ Bool)} {y : MethodName} {ws : List Cond} {rm : Room} {vs rest : List aV} {post : St → Prop} (ok : okV R own Ts idx C y ws rm vs.length) (hd : decode cc pc = .ok (.invokevirtual idx, 3)) (hj : L[j]? = some (.inl o)) (hc : vwCl[o.1]? = some (C, T, N)) (hlen : rest.length ≤ 8) (hcs : cells ≤ R.cells ∧ slots ≤ R.slots) (hM : Cv l y ws rm D cA ad L (.inl j :: vs) σ post) (k : ∀ (τ : St), post τ → Va p l e R s m args below meth c cells slots Q D cA ad L nL A (pc + 3, lv, rest, τ)) : Va p l e R s m args below meth c cells slots Q D cA ad L nL A (pc, lv, vs.reverse ++ .inl j :: rest, σ) := by
  intro H locs ls hP hD hS hl
  obtain ⟨bytes, maxL, ret, ws', hg, hw, hrc, hrs, hdd, hR⟩ := ok
  have hFc := F.free hD hS
  refine va_callv (va_runV (As := vs.map (aval ad)) (rest := rest.map (aval ad)) (b := ad j) F.1 (hM H.size) (cwV vs.length F.1.2.2.2.2 hg hw hrc hrs hdd hR) ⟨fun a U g mk q => by obtain ⟨q0, q1, qP, qK, qD⟩ := q; exact ⟨q0, q1, qP, va_K.moved (u := U) (U := U.calling g mk a) (Vm.Alike.refl U.vm) qK, qD⟩, va_recv F.2.1 hP hc (wL_at hj), fun U hU hW => ⟨rfl, by rw [hU], by rw [hU]; exact hP, va_K.moved hW.alike F.2.1, hD.weaken (fun _ _ _ _ => trivial)⟩⟩ rfl (by simp) hl.1 (by simp [aval, List.map_reverse]) (lv_room (by rw [cat_sum]; exact hlen)) hd hcs) hS (fun q _ h => hFc q h) hFc (fun u t H1 locs1 ht hvm hw hB hz1 hk1 hS1 => ?_)
  exact k u hw H1 locs1 ls (by rw [← ht]; exact hB) (wL_D hD) hS1 hl
theorem Va.callSi (F : Fx p s m args c cc nL own Ts D cA A) {idx : Nat} {y : MethodName} {ws : List Cond} {rm : Room} {vs rest : List aV} {post : Int → St → Prop} (ok : okS R own Ts idx y ws rm vs.length) (hd : decode cc pc = .ok (.invokestatic idx, 3)) (hlen : rest.length ≤ 8) (hcs : cells ≤ R.cells ∧ slots ≤ R.slots) (hM : Ci l y ws rm D cA ad L vs σ post) (k : ∀ (r : Int) (τ : St), inR r → post r τ → Va p l e R s m args below meth c cells slots Q D cA ad L nL A (pc + 3, lv, .inr r :: rest, τ)) : Va p l e R s m args below meth c cells slots Q D cA ad L nL A (pc, lv, vs.reverse ++ rest, σ) := by
  intro H locs ls hP hD hS hl
  obtain ⟨bytes, maxL, ret, ws', hg, hw, hrc, hrs, hdd, hR⟩ := ok
  have hFc := F.free hD hS
  refine va_calli (va_runS (As := vs.map (aval ad)) (rest := rest.map (aval ad)) F.1 (hM H.size) (va_cwS vs.length F.1.2.2.2.2 hg hw hrc hrs hdd hR) ⟨fun a U g mk q => by obtain ⟨q0, q1, qP, qK, qD⟩ := q; exact ⟨q0, q1, qP, va_K.moved (u := U) (U := U.calling g mk a) (Vm.Alike.refl U.vm) qK, qD⟩, fun U hU hW => ⟨rfl, by rw [hU], by rw [hU]; exact hP, va_K.moved hW.alike F.2.1, hD.weaken (fun _ _ _ _ => trivial)⟩⟩ rfl (by simp) hl.1 (by simp [List.map_reverse]) (lv_room (by rw [cat_sum]; exact hlen)) hd hcs) hS (fun q _ h => hFc q h) hFc (fun r u t H1 locs1 ht hvm hw hB hz1 hk1 hS1 => ?_)
  obtain ⟨hr, hin, hp⟩ := hw
  subst hr
  exact k u.1 u.2 hin hp H1 locs1 ls (by rw [← ht]; exact hB) (wL_D hD) hS1 hl
theorem Va.callSv (F : Fx p s m args c cc nL own Ts D cA A) {idx : Nat} {y : MethodName} {ws : List Cond} {rm : Room} {vs rest : List aV} {post : St → Prop} (ok : okS R own Ts idx y ws rm vs.length) (hd : decode cc pc = .ok (.invokestatic idx, 3)) (hlen : rest.length ≤ 8) (hcs : cells ≤ R.cells ∧ slots ≤ R.slots) (hM : Cv l y ws rm D cA ad L vs σ post) (k : ∀ (τ : St), post τ → Va p l e R s m args below meth c cells slots Q D cA ad L nL A (pc + 3, lv, rest, τ)) : Va p l e R s m args below meth c cells slots Q D cA ad L nL A (pc, lv, vs.reverse ++ rest, σ) := by
  intro H locs ls hP hD hS hl
  obtain ⟨bytes, maxL, ret, ws', hg, hw, hrc, hrs, hdd, hR⟩ := ok
  have hFc := F.free hD hS
  refine va_callv (va_runS (As := vs.map (aval ad)) (rest := rest.map (aval ad)) F.1 (hM H.size) (va_cwS vs.length F.1.2.2.2.2 hg hw hrc hrs hdd hR) ⟨fun a U g mk q => by obtain ⟨q0, q1, qP, qK, qD⟩ := q; exact ⟨q0, q1, qP, va_K.moved (u := U) (U := U.calling g mk a) (Vm.Alike.refl U.vm) qK, qD⟩, fun U hU hW => ⟨rfl, by rw [hU], by rw [hU]; exact hP, va_K.moved hW.alike F.2.1, hD.weaken (fun _ _ _ _ => trivial)⟩⟩ rfl (by simp) hl.1 (by simp [List.map_reverse]) (lv_room (by rw [cat_sum]; exact hlen)) hd hcs) hS (fun q _ h => hFc q h) hFc (fun u t H1 locs1 ht hvm hw hB hz1 hk1 hS1 => ?_)
  exact k u hw H1 locs1 ls (by rw [← ht]; exact hB) (wL_D hD) hS1 hl
theorem Va.reti (F : Fx p s m args c cc nL own Ts D cA A) {post : Int → St → Prop} {x : Int} (hd : decode cc pc = .ok (.ireturn, 1)) (hr : meth.sig.returnType = some .int) (hlk : meth.locks = false) (hx : inR x) (hp : post x σ) : Va p l e R s m args below meth c cells slots (MQ below (qI D cA ad L post A) args s cells slots A) D cA ad L nL A (pc, lv, [.inr x], σ) :=
  fun H locs ls hP hD hS hl => W.iret (v := zI x) F.1.1 F.1.2.1 hr (fun t ht hW => ⟨⟨zI x, (x, σ), rfl, ⟨rfl, hx, hp⟩, (by show va_P D vwCl (wL cA ad σ 0 L) t.heap; rw [ht]; exact hP)⟩, hS.F ht⟩) hS.2.2 hd hlk
theorem Va.retz (F : Fx p s m args c cc nL own Ts D cA A) {post : Int → St → Prop} {x : Int} (hd : decode cc pc = .ok (.ireturn, 1)) (hr : meth.sig.returnType = some .boolean) (hlk : meth.locks = false) (hx : x = 0 ∨ x = 1) (hp : post x σ) : Va p l e R s m args below meth c cells slots (MQ below (qI D cA ad L post A) args s cells slots A) D cA ad L nL A (pc, lv, [.inr x], σ) :=
  fun H locs ls hP hD hS hl => W.zret (v := zI x) F.1.1 F.1.2.1 hr (zI_narZ hx) (fun t ht hW => ⟨⟨zI x, (x, σ), rfl, ⟨rfl, inR_z hx, hp⟩, (by show va_P D vwCl (wL cA ad σ 0 L) t.heap; rw [ht]; exact hP)⟩, hS.F ht⟩) hS.2.2 hd hlk
theorem Va.retv (F : Fx p s m args c cc nL own Ts D cA A) {post : St → Prop} (hd : decode cc pc = .ok (.return_, 1)) (hr : meth.sig.returnType = none) (hlk : meth.locks = false) (hp : post σ) : Va p l e R s m args below meth c cells slots (MQ below (qV D cA ad L post A) args s cells slots A) D cA ad L nL A (pc, lv, [], σ) :=
  fun H locs ls hP hD hS hl => W.vret F.1.1 F.1.2.1 hr (fun t ht hW => ⟨⟨σ, rfl, hp, (by show va_P D vwCl (wL cA ad σ 0 L) t.heap; rw [ht]; exact hP)⟩, hS.F ht⟩) hS.2.2 hd hlk
theorem Va.drop {lv' : List (Nat × aV)} (h : ∀ q ∈ lv', q ∈ lv) (k : Va p l e R s m args below meth c cells slots Q D cA ad L nL A (pc, lv', st, σ)) : Va p l e R s m args below meth c cells slots Q D cA ad L nL A (pc, lv, st, σ) := by
  intro H locs ls hP hD hS hl
  refine k H locs ls hP hD hS ⟨hl.1, hl.2.1, fun q hq => ?_⟩
  obtain ⟨a, ha, rfl⟩ := List.mem_map.mp hq
  exact hl.2.2 _ (List.mem_map.mpr ⟨a, h a ha, rfl⟩)
theorem Va.mmin (F : Fx p s m args c cc nL own Ts D cA A) {idx : Nat} {x y : Int} {rest : List aV} (hd : decode cc pc = .ok (.invokestatic idx, 3)) (hw : ∀ w ∈ minW own idx, w ∈ Ts) (hcs : cells ≤ R.cells ∧ slots ≤ R.slots) (hf : 1 ≤ R.frames) (hlo : rest.length + 13 ≤ R.locals) (hx : inR x) (hy : inR y) (k : Va p l e R s m args below meth c cells slots Q D cA ad L nL A (pc + 3, lv, .inr (if y < x then y else x) :: rest, σ)) : Va p l e R s m args below meth c cells slots Q D cA ad L nL A (pc, lv, .inr y :: .inr x :: rest, σ) := by
  intro H locs ls hP hD hS hl
  have ht := F.1.2.2.2.2
  refine va_mmin F.1.1 F.1.2.1 (by rw [hl.1]; exact F.1.2.2.1) F.1.2.2.2.1 (ht _ (hw _ List.mem_cons_self)) (ht _ (hw _ (List.mem_cons_of_mem _ List.mem_cons_self))) (ht _ (hw _ (List.mem_cons_of_mem _ (List.mem_cons_of_mem _ List.mem_cons_self)))) (ht _ (hw _ (List.mem_cons_of_mem _ (List.mem_cons_of_mem _ (List.mem_cons_of_mem _ List.mem_cons_self))))) hf (by rw [cat_sum]; exact hlo) hcs.1 hcs.2 hd ?_
  have e : (if zI y < zI x then zI y else zI x) = zI (if y < x then y else x) := by
    by_cases h : y < x
    · rw [if_pos h, if_pos ((zI_lt hy hx).mpr h)]
    · rw [if_neg h, if_neg (fun q => h ((zI_lt hy hx).mp q))]
  rw [e]
  exact k H locs ls hP hD hS hl
theorem zA_cpy (f g : Nat → Int) (a b n : Nat) : va_cpy (zA f) (zA g) a b n = zA (va_cpy f g a b n) := by
  funext i
  simp only [va_cpy, zA]
  split <;> rfl
theorem Va.copy (F : Fx p s m args c cc nL own Ts D cA A) {idx j0 j1 n0 n1 : Nat} {n : Int} {rest : List aV} (hd : decode cc pc = .ok (.invokestatic idx, 3)) (hw : ∀ w ∈ cpyW own idx, w ∈ Ts) (hf : 1 ≤ R.frames) (hlo : rest.length + (nativeFrameWords "java/lang/System" "arraycopy" 5 + 11) ≤ R.locals) (h0 : L[j0]? = some (.inr (0, n0))) (h1 : L[j1]? = some (.inr (0, n1))) (hn : 0 ≤ n) (hn0 : n ≤ n0) (hn1 : n ≤ n1) (hn2 : n < 2147483648) (k : Va p l e R s m args below meth c cells slots Q D cA ad L nL A (pc + 3, lv, rest, va_up σ j1 (va_cpy (σ j0) (σ j1) 0 0 n.toNat))) : Va p l e R s m args below meth c cells slots Q D cA ad L nL A (pc, lv, .inr n :: .inr 0 :: .inl j1 :: .inr 0 :: .inl j0 :: rest, σ) := by
  intro H locs ls hP hD hS hl
  have ht := F.1.2.2.2.2
  have hcl : (zI n).toNatClampNeg = n.toNat := zI_cl ⟨by omega, hn2⟩
  have hc0 : (zI 0).toNatClampNeg = 0 := zI_cl inR_0
  refine va_copyi F.1.1 F.1.2.1 (by rw [hl.1]; exact F.1.2.2.1) F.1.2.2.2.1 (ht _ (hw _ List.mem_cons_self)) (ht _ (hw _ (List.mem_cons_of_mem _ List.mem_cons_self))) (ht _ (hw _ (List.mem_cons_of_mem _ (List.mem_cons_of_mem _ List.mem_cons_self)))) (ht _ (hw _ (List.mem_cons_of_mem _ (List.mem_cons_of_mem _ (List.mem_cons_of_mem _ List.mem_cons_self))))) F.2.1 hP hD hS j0 j1 0 0 (wL_at h0) (wL_at h1) rfl rfl rfl (by decide) (by decide) (by rw [zI_0, zI_lt ⟨by omega, hn2⟩ inR_0]; omega) (by rw [hcl, hc0]; omega) (by rw [hcl, hc0]; omega) (fun _ _ => rfl) hf (by rw [cat_sum]; exact hlo) hd (fun H1 locs1 hP1 hD1 hS1 => ?_)
  have e : (wL cA ad σ 0 L).set j1 (ad j1, .inl (cA 0, n1, .inl (va_cpy (zA (σ j0)) (zA (σ j1)) (zI 0).toNatClampNeg (zI 0).toNatClampNeg (zI n).toNatClampNeg))) = wL cA ad (va_up σ j1 (va_cpy (σ j0) (σ j1) 0 0 n.toNat)) 0 L := by
    rw [hcl, hc0, zA_cpy]
    exact wL_set h1
  have hP1 := Eq.subst (motive := fun w => va_P D vwCl w H1) e hP1
  have hD1 := Eq.subst (motive := fun w => va_D A w) e hD1
  exact k H1 locs1 ls hP1 hD1 hS1 hl
end Mach3
/-! what a walk may use of the machine: V holds where the rest of the run goes well -/
def Mach (l : Launch) (R : Room) (own : String) (Ts : List Cond) (tab : TB) (fl pl : FL) (kl : List (Nat × Int)) (D : va_G) (cA : Nat → ClassId) (ad : Nat → Nat) (L : Lay) (nL : Nat) (V : aS → Prop) : Prop :=
  (∀ (stops : List Nat) (n : Nat) (a : aS), wp tab fl pl kl L nL stops n a V → V a) ∧
  (∀ {idx j : Nat} {C : String} {T : u_T} {N : Nat} {o : Nat × List (Nat ⊕ Bool)} {y : MethodName} {ws : List Cond} {rm : Room} {vs rest : List aV} {post : Int → St → Prop} {pc nxt tgt : Nat} {lv : List (Nat × aV)} {st : List aV} {σ : St}, nget pc tab = some (.invokevirtual idx, nxt, tgt) → okV R own Ts idx C y ws rm vs.length → L[j]? = some (.inl o) → vwCl[o.1]? = some (C, T, N) → rest.length ≤ 8 → st = vs.reverse ++ .inl j :: rest → Ci l y ws rm D cA ad L (.inl j :: vs) σ post → (∀ (r : Int) (τ : St), inR r → post r τ → V (nxt, lv, .inr r :: rest, τ)) → V (pc, lv, st, σ)) ∧
  (∀ {idx j : Nat} {C : String} {T : u_T} {N : Nat} {o : Nat × List (Nat ⊕ Bool)} {y : MethodName} {ws : List Cond} {rm : Room} {vs rest : List aV} {post : St → Prop} {pc nxt tgt : Nat} {lv : List (Nat × aV)} {st : List aV} {σ : St}, nget pc tab = some (.invokevirtual idx, nxt, tgt) → okV R own Ts idx C y ws rm vs.length → L[j]? = some (.inl o) → vwCl[o.1]? = some (C, T, N) → rest.length ≤ 8 → st = vs.reverse ++ .inl j :: rest → Cv l y ws rm D cA ad L (.inl j :: vs) σ post → (∀ (τ : St), post τ → V (nxt, lv, rest, τ)) → V (pc, lv, st, σ)) ∧
  (∀ {idx : Nat} {y : MethodName} {ws : List Cond} {rm : Room} {vs rest : List aV} {post : Int → St → Prop} {pc nxt tgt : Nat} {lv : List (Nat × aV)} {st : List aV} {σ : St}, nget pc tab = some (.invokestatic idx, nxt, tgt) → okS R own Ts idx y ws rm vs.length → rest.length ≤ 8 → st = vs.reverse ++ rest → Ci l y ws rm D cA ad L vs σ post → (∀ (r : Int) (τ : St), inR r → post r τ → V (nxt, lv, .inr r :: rest, τ)) → V (pc, lv, st, σ)) ∧
  (∀ {idx : Nat} {y : MethodName} {ws : List Cond} {rm : Room} {vs rest : List aV} {post : St → Prop} {pc nxt tgt : Nat} {lv : List (Nat × aV)} {st : List aV} {σ : St}, nget pc tab = some (.invokestatic idx, nxt, tgt) → okS R own Ts idx y ws rm vs.length → rest.length ≤ 8 → st = vs.reverse ++ rest → Cv l y ws rm D cA ad L vs σ post → (∀ (τ : St), post τ → V (nxt, lv, rest, τ)) → V (pc, lv, st, σ)) ∧
  (∀ {pc : Nat} {lv : List (Nat × aV)} (lv' : List (Nat × aV)) {st : List aV} {σ : St}, (∀ q ∈ lv', q ∈ lv) → V (pc, lv', st, σ) → V (pc, lv, st, σ)) ∧
  (∀ {idx pc nxt tgt : Nat} {x y : Int} {lv : List (Nat × aV)} {rest : List aV} {σ : St}, nget pc tab = some (.invokestatic idx, nxt, tgt) → (∀ w ∈ minW own idx, w ∈ Ts) → 1 ≤ R.frames → rest.length + 13 ≤ R.locals → inR x → inR y → V (nxt, lv, .inr (if y < x then y else x) :: rest, σ) → V (pc, lv, .inr y :: .inr x :: rest, σ)) ∧
  (∀ {idx pc nxt tgt j0 j1 n0 n1 : Nat} {n : Int} {lv : List (Nat × aV)} {rest : List aV} {σ : St}, nget pc tab = some (.invokestatic idx, nxt, tgt) → (∀ w ∈ cpyW own idx, w ∈ Ts) → 1 ≤ R.frames → rest.length + (nativeFrameWords "java/lang/System" "arraycopy" 5 + 11) ≤ R.locals → L[j0]? = some (.inr (0, n0)) → L[j1]? = some (.inr (0, n1)) → 0 ≤ n → n ≤ n0 → n ≤ n1 → n < 2147483648 → V (nxt, lv, rest, va_up σ j1 (va_cpy (σ j0) (σ j1) 0 0 n.toNat)) → V (pc, lv, .inr n :: .inr 0 :: .inl j1 :: .inr 0 :: .inl j0 :: rest, σ))
section Mach4
variable {p : Program} {l : Launch} {e : Env} {R : Room} {s : State} {m : MethodId} {args : Array Value} {below : List Frame} {meth : Method} {c : Code} {cells slots : Nat} {Q : State → Prop} {D : va_G} {cA : Nat → ClassId} {ad : Nat → Nat} {L : Lay} {nL : Nat} {A : Nat → Prop} {cc : ByteArray} {own : String} {Ts : List Cond} {tab : TB} {fl pl : FL} {kl : List (Nat × Int)} {pc nxt tgt : Nat} {lv : List (Nat × aV)} {st : List aV} {σ : St}
theorem Mach.of (F : Fx p s m args c cc nL own Ts D cA A) (hL : layOk L) (ht : tabOk cc tab) (hfl : flOk own Ts fl) (hpl : plOk own Ts pl) (hkl : klOk own Ts kl) (hcs : cells ≤ R.cells ∧ slots ≤ R.slots) : Mach l R own Ts tab fl pl kl D cA ad L nL (Va p l e R s m args below meth c cells slots Q D cA ad L nL A) := by
  have dec : ∀ {pc : Nat} {i : Instr} {nxt tgt : Nat}, nget pc tab = some (i, nxt, tgt) → decode cc pc = .ok (i, ilen i) ∧ pc + ilen i = nxt := fun h => ⟨(ht _ (nget_mem h)).1, tchk_n (ht _ (nget_mem h)).2⟩
  refine ⟨fun stops n a h => wp_ok F hL ht hfl hpl hkl stops n a h, ?_, ?_, ?_, ?_, ?_, ?_, ?_⟩
  · intro idx j C T N o y ws rm vs rest post pc nxt tgt lv st σ hg ok hj hc hlen hst hM k
    obtain ⟨hd, hn⟩ := dec hg
    subst hn hst
    exact Va.callVi F ok hd hj hc hlen hcs hM k
  · intro idx j C T N o y ws rm vs rest post pc nxt tgt lv st σ hg ok hj hc hlen hst hM k
    obtain ⟨hd, hn⟩ := dec hg
    subst hn hst
    exact Va.callVv F ok hd hj hc hlen hcs hM k
  · intro idx y ws rm vs rest post pc nxt tgt lv st σ hg ok hlen hst hM k
    obtain ⟨hd, hn⟩ := dec hg
    subst hn hst
    exact Va.callSi F ok hd hlen hcs hM k
  · intro idx y ws rm vs rest post pc nxt tgt lv st σ hg ok hlen hst hM k
    obtain ⟨hd, hn⟩ := dec hg
    subst hn hst
    exact Va.callSv F ok hd hlen hcs hM k
  · intro pc lv lv' st σ h k
    exact Va.drop h k
  · intro idx pc nxt tgt x y lv rest σ hg hw hf hlo hx hy k
    obtain ⟨hd, hn⟩ := dec hg
    subst hn
    exact Va.mmin F hd hw hcs hf hlo hx hy k
  · intro idx pc nxt tgt j0 j1 n0 n1 n lv rest σ hg hw hf hlo h0 h1 hn hn0 hn1 hn2 k
    obtain ⟨hd, hn'⟩ := dec hg
    subst hn'
    exact Va.copy F hd hw hf hlo h0 h1 hn hn0 hn1 hn2 k
end Mach4
theorem Ci.walk {l : Launch} {y : MethodName} {ws ws' : List Cond} {rm : Room} {D : va_G} {cA : Nat → ClassId} {ad : Nat → Nat} {L : Lay} {vs : List aV} {σ : St} {post : Int → St → Prop} {cc : ByteArray} {maxL : Nat} {tab : TB} (fl pl : FL) (kl : List (Nat × Int)) (hy : plainName y.cls = true) (hw : ws = .code y cc maxL (some .int) :: ws') (hL : layOk L) (ht : tabOk cc tab) (hfl : flOk y.cls ws fl) (hpl : plOk y.cls ws pl) (hkl : klOk y.cls ws kl) (hlen : vs.length ≤ maxL)
    (body : ∀ V : aS → Prop, Mach l rm y.cls ws tab fl pl kl D cA ad L maxL V → (∀ {pc nxt tgt : Nat} {lv : List (Nat × aV)} {x : Int} {τ : St}, nget pc tab = some (.ireturn, nxt, tgt) → inR x → post x τ → V (pc, lv, [.inr x], τ)) → V (0, lnum 0 vs, [], σ)) : Ci l y ws rm D cA ad L vs σ post := by
  intro sz
  refine Met.ofW (cc := cc) (maxL := maxL) (ret := (some .int)) hy hw ?_
  intro p e s m args below meth c s₁ B hml hv
  obtain ⟨rfl, hsz, hP, hK, hD0⟩ := hv
  have hts := atoms_spec (ws := ws) B.pre
  have hown : s.vm.findClass y.cls = some m.cls := findClass_of_methodNamed B.named
  subst hsz
  have hD := hD0.self (sz := s.heap.size)
  have F : Fx p s m (vs.map (aval ad)).toArray c cc maxL y.cls ws D cA (va_A (wL cA ad σ 0 L) s.heap.size) := ⟨⟨B.exec, B.bytes, hml, hown, hts⟩, hK, fun q h => Or.inr h⟩
  have dec : ∀ {pc : Nat} {i : Instr} {nxt tgt : Nat}, nget pc tab = some (i, nxt, tgt) → decode cc pc = .ok (i, ilen i) := fun h => (ht _ (nget_mem h)).1
  have key := body (Va p l e rm s m (vs.map (aval ad)).toArray below meth c 0 0 (MQ below (qI D cA ad L post (va_A (wL cA ad σ 0 L) s.heap.size)) (vs.map (aval ad)).toArray s 0 0 (va_A (wL cA ad σ 0 L) s.heap.size)) D cA ad L maxL (va_A (wL cA ad σ 0 L) s.heap.size)) (Mach.of F hL ht hfl hpl hkl ⟨Nat.zero_le _, Nat.zero_le _⟩) (fun hg hx hp => Va.reti F (dec hg) B.returns B.notSynchronized hx hp)
  have hl := lv_entry (vs.map (aval ad)) (n := maxL) (by rw [lg_len]; exact hlen)
  rw [lnum_args] at hl
  rw [lg_entry_eq]
  exact key s.heap [] _ hP hD va_S.rf hl
theorem Ci.walkZ {l : Launch} {y : MethodName} {ws ws' : List Cond} {rm : Room} {D : va_G} {cA : Nat → ClassId} {ad : Nat → Nat} {L : Lay} {vs : List aV} {σ : St} {post : Int → St → Prop} {cc : ByteArray} {maxL : Nat} {tab : TB} (fl pl : FL) (kl : List (Nat × Int)) (hy : plainName y.cls = true) (hw : ws = .code y cc maxL (some .boolean) :: ws') (hL : layOk L) (ht : tabOk cc tab) (hfl : flOk y.cls ws fl) (hpl : plOk y.cls ws pl) (hkl : klOk y.cls ws kl) (hlen : vs.length ≤ maxL)
    (body : ∀ V : aS → Prop, Mach l rm y.cls ws tab fl pl kl D cA ad L maxL V → (∀ {pc nxt tgt : Nat} {lv : List (Nat × aV)} {x : Int} {τ : St}, nget pc tab = some (.ireturn, nxt, tgt) → (x = 0 ∨ x = 1) → post x τ → V (pc, lv, [.inr x], τ)) → V (0, lnum 0 vs, [], σ)) : Ci l y ws rm D cA ad L vs σ post := by
  intro sz
  refine Met.ofW (cc := cc) (maxL := maxL) (ret := (some .boolean)) hy hw ?_
  intro p e s m args below meth c s₁ B hml hv
  obtain ⟨rfl, hsz, hP, hK, hD0⟩ := hv
  have hts := atoms_spec (ws := ws) B.pre
  have hown : s.vm.findClass y.cls = some m.cls := findClass_of_methodNamed B.named
  subst hsz
  have hD := hD0.self (sz := s.heap.size)
  have F : Fx p s m (vs.map (aval ad)).toArray c cc maxL y.cls ws D cA (va_A (wL cA ad σ 0 L) s.heap.size) := ⟨⟨B.exec, B.bytes, hml, hown, hts⟩, hK, fun q h => Or.inr h⟩
  have dec : ∀ {pc : Nat} {i : Instr} {nxt tgt : Nat}, nget pc tab = some (i, nxt, tgt) → decode cc pc = .ok (i, ilen i) := fun h => (ht _ (nget_mem h)).1
  have key := body (Va p l e rm s m (vs.map (aval ad)).toArray below meth c 0 0 (MQ below (qI D cA ad L post (va_A (wL cA ad σ 0 L) s.heap.size)) (vs.map (aval ad)).toArray s 0 0 (va_A (wL cA ad σ 0 L) s.heap.size)) D cA ad L maxL (va_A (wL cA ad σ 0 L) s.heap.size)) (Mach.of F hL ht hfl hpl hkl ⟨Nat.zero_le _, Nat.zero_le _⟩) (fun hg hx hp => Va.retz F (dec hg) B.returns B.notSynchronized hx hp)
  have hl := lv_entry (vs.map (aval ad)) (n := maxL) (by rw [lg_len]; exact hlen)
  rw [lnum_args] at hl
  rw [lg_entry_eq]
  exact key s.heap [] _ hP hD va_S.rf hl
theorem Cv.walk {l : Launch} {y : MethodName} {ws ws' : List Cond} {rm : Room} {D : va_G} {cA : Nat → ClassId} {ad : Nat → Nat} {L : Lay} {vs : List aV} {σ : St} {post : St → Prop} {cc : ByteArray} {maxL : Nat} {tab : TB} (fl pl : FL) (kl : List (Nat × Int)) (hy : plainName y.cls = true) (hw : ws = .code y cc maxL none :: ws') (hL : layOk L) (ht : tabOk cc tab) (hfl : flOk y.cls ws fl) (hpl : plOk y.cls ws pl) (hkl : klOk y.cls ws kl) (hlen : vs.length ≤ maxL)
    (body : ∀ V : aS → Prop, Mach l rm y.cls ws tab fl pl kl D cA ad L maxL V → (∀ {pc nxt tgt : Nat} {lv : List (Nat × aV)} {τ : St}, nget pc tab = some (.return_, nxt, tgt) → post τ → V (pc, lv, [], τ)) → V (0, lnum 0 vs, [], σ)) : Cv l y ws rm D cA ad L vs σ post := by
  intro sz
  refine Met.ofW (cc := cc) (maxL := maxL) (ret := none) hy hw ?_
  intro p e s m args below meth c s₁ B hml hv
  obtain ⟨rfl, hsz, hP, hK, hD0⟩ := hv
  have hts := atoms_spec (ws := ws) B.pre
  have hown : s.vm.findClass y.cls = some m.cls := findClass_of_methodNamed B.named
  subst hsz
  have hD := hD0.self (sz := s.heap.size)
  have F : Fx p s m (vs.map (aval ad)).toArray c cc maxL y.cls ws D cA (va_A (wL cA ad σ 0 L) s.heap.size) := ⟨⟨B.exec, B.bytes, hml, hown, hts⟩, hK, fun q h => Or.inr h⟩
  have dec : ∀ {pc : Nat} {i : Instr} {nxt tgt : Nat}, nget pc tab = some (i, nxt, tgt) → decode cc pc = .ok (i, ilen i) := fun h => (ht _ (nget_mem h)).1
  have key := body (Va p l e rm s m (vs.map (aval ad)).toArray below meth c 0 0 (MQ below (qV D cA ad L post (va_A (wL cA ad σ 0 L) s.heap.size)) (vs.map (aval ad)).toArray s 0 0 (va_A (wL cA ad σ 0 L) s.heap.size)) D cA ad L maxL (va_A (wL cA ad σ 0 L) s.heap.size)) (Mach.of F hL ht hfl hpl hkl ⟨Nat.zero_le _, Nat.zero_le _⟩) (fun hg hp => Va.retv F (dec hg) B.returns B.notSynchronized hp)
  have hl := lv_entry (vs.map (aval ad)) (n := maxL) (by rw [lg_len]; exact hlen)
  rw [lnum_args] at hl
  rw [lg_entry_eq]
  exact key s.heap [] _ hP hD va_S.rf hl
end
section
def rh (h : Nat) : Room := { frames := h, cells := 0, slots := 0, locals := 40 * h }
/-- the class's cells: 0 PairTokens, 1 Text, 2 Vocabulary, 3 Row, 4 PairCounter, 5 Choices, 6 octets, 7 firsts, 8 seconds, 9 counts, 10 sizes, 11 worth, 12 source, 13 places, 14 cells, 15 starts, 16 wordBegins, 17 keys, 18 counts, 19 places, 20 sums, 21 lengths, 22 manners, 23 chosen -/
def LC : Lay := [.inl (6, [.inl 1, .inl 2, .inl 3, .inl 4, .inl 5]), .inl (4, [.inl 6, .inr true]), .inl (5, [.inl 7, .inl 8, .inl 9, .inl 10, .inl 11, .inr true, .inl 12, .inl 13]), .inl (3, [.inl 14, .inl 15, .inr true, .inl 16]), .inl (2, [.inl 17, .inl 18, .inl 19]), .inl (1, [.inl 20, .inl 21, .inl 22, .inl 23]), .inr (0, 120), .inr (0, 32), .inr (0, 32), .inr (0, 32), .inr (0, 32), .inr (0, 288), .inr (0, 120), .inr (0, 32), .inr (0, 120), .inr (0, 120), .inr (1, 120), .inr (0, 256), .inr (0, 256), .inr (0, 256), .inr (0, 121), .inr (0, 121), .inr (0, 121), .inr (0, 121)]
/-- the reference's cells: 0 the object, 1 text, 2 first, 3 second, 4 counted, 5 length, 6 spelled, 7 points, 8 row, 9 places, 10 bestSum, 11 bestSize, 12 bestRow, 13 waysTo -/
def LM : Lay := [.inl (7, [.inr true, .inr true, .inl 1, .inr true, .inl 2, .inl 3, .inl 4, .inl 5, .inl 6, .inl 7, .inr true, .inl 8, .inl 9, .inl 10, .inl 11, .inl 12, .inl 13]), .inr (0, 120), .inr (0, 32), .inr (0, 32), .inr (0, 32), .inr (0, 32), .inr (0, 3840), .inr (0, 288), .inr (0, 120), .inr (0, 120), .inr (0, 121), .inr (0, 121), .inr (0, 14520), .inr (0, 121)]
def layB (L : Lay) : Bool := L.all (fun x => match x with
  | .inr a => decide (a.2 < 2147483648) && decide (a.1 < 2)
  | .inl _ => true)
theorem layOk_of {L : Lay} (h : layB L = true) : layOk L := by
  intro j a hj
  have h1 := List.all_eq_true.mp h _ (List.mem_of_getElem? hj)
  simp only [Bool.and_eq_true, decide_eq_true_eq] at h1
  exact h1
theorem LC_ok : layOk LC := layOk_of (by decide +kernel)
theorem LM_ok : layOk LM := layOk_of (by decide +kernel)
theorem flOk_0 {own : String} {Ts : List Cond} : flOk own Ts [] := fun q h => by cases h
theorem plOk_0 {own : String} {Ts : List Cond} : plOk own Ts [] := fun q h => by cases h
theorem klOk_0 {own : String} {Ts : List Cond} : klOk own Ts [] := fun q h => by cases h
theorem flOk_c {own : String} {Ts : List Cond} {fl : FL} {x ci f : Nat} (C : String) (T : u_T) (N : Nat) (h1 : vwCl[ci]? = some (C, T, N)) (h2 : f < N) (h3 : Cond.fieldLink own x (T f).1 (T f).2.1 (T f).2.2.1 ∈ Ts) (h4 : ∀ w ∈ u_ws C T N, w ∈ Ts) (h : flOk own Ts fl) : flOk own Ts ((x, ci, f) :: fl) :=
  List.forall_mem_cons.mpr ⟨⟨C, T, N, h1, h2, h3, h4⟩, h⟩
theorem plOk_c {own : String} {Ts : List Cond} {fl : FL} {x ci f : Nat} (C : String) (T : u_T) (N : Nat) (ty : Nat → FieldType) (h1 : vwCl[ci]? = some (C, T, N)) (h2 : f < N) (h3 : Cond.fieldLink own x (T f).1 (T f).2.1 (T f).2.2.1 ∈ Ts) (h4 : ∀ w ∈ u_ws C T N, w ∈ Ts) (h5 : ∀ k, k < N → parseFieldDescriptor (T k).2.2.1 = some (ty k)) (h6 : ∀ a, a < N → ∀ b, b < N → a ≠ b → (T a).2.1 ≠ (T b).2.1) (h7 : (T f).2.2.2 = false) (h8 : parseFieldDescriptor (T f).2.2.1 = some .int) (h : plOk own Ts fl) : plOk own Ts ((x, ci, f) :: fl) :=
  List.forall_mem_cons.mpr ⟨⟨C, T, N, ty, h1, h2, h3, h4, h5, h6, h7, h8⟩, h⟩
theorem klOk_c {own : String} {Ts : List Cond} {kl : List (Nat × Int)} {x : Nat} {n : Int} (h3 : Cond.constant own x (zI n) ∈ Ts) (h : klOk own Ts kl) : klOk own Ts ((x, n) :: kl) :=
  List.forall_mem_cons.mpr ⟨h3, h⟩
def fX0_weigh : FL := [(24, 4, 1), (9, 1, 0), (15, 1, 1), (18, 1, 2), (30, 4, 0), (37, 5, 5)]
theorem fX0_weigh_ok : flOk RX0 wsX0_weigh fX0_weigh := flOk_c RX3 TX3 2 rfl (by decide) lX0_weigh_24 iX0_weigh_X3 (flOk_c RX0 TX0 4 rfl (by decide) lX0_weigh_9 iX0_weigh_X0 (flOk_c RX0 TX0 4 rfl (by decide) lX0_weigh_15 iX0_weigh_X0 (flOk_c RX0 TX0 4 rfl (by decide) lX0_weigh_18 iX0_weigh_X0 (flOk_c RX3 TX3 2 rfl (by decide) lX0_weigh_30 iX0_weigh_X3 (flOk_c RX4 TX4 8 rfl (by decide) lX0_weigh_37 iX0_weigh_X4 (flOk_0))))))
def pX0_weigh : FL := []
theorem pX0_weigh_ok : plOk RX0 wsX0_weigh pX0_weigh := plOk_0
def fX0_chosenAfter : FL := [(21, 1, 3)]
theorem fX0_chosenAfter_ok : flOk RX0 wsX0_chosenAfter fX0_chosenAfter := flOk_c RX0 TX0 4 rfl (by decide) lX0_chosenAfter_21 iX0_chosenAfter_X0 (flOk_0)
def pX0_chosenAfter : FL := []
theorem pX0_chosenAfter_ok : plOk RX0 wsX0_chosenAfter pX0_chosenAfter := plOk_0
def fX0_startWithByte : FL := [(9, 1, 0), (53, 5, 4), (15, 1, 1), (18, 1, 2), (21, 1, 3)]
theorem fX0_startWithByte_ok : flOk RX0 wsX0_startWithByte fX0_startWithByte := flOk_c RX0 TX0 4 rfl (by decide) lX0_startWithByte_9 iX0_startWithByte_X0 (flOk_c RX4 TX4 8 rfl (by decide) lX0_startWithByte_53 iX0_startWithByte_X4 (flOk_c RX0 TX0 4 rfl (by decide) lX0_startWithByte_15 iX0_startWithByte_X0 (flOk_c RX0 TX0 4 rfl (by decide) lX0_startWithByte_18 iX0_startWithByte_X0 (flOk_c RX0 TX0 4 rfl (by decide) lX0_startWithByte_21 iX0_startWithByte_X0 (flOk_0)))))
def pX0_startWithByte : FL := []
theorem pX0_startWithByte_ok : plOk RX0 wsX0_startWithByte pX0_startWithByte := plOk_0
def fX0_startWithLearned : FL := [(53, 5, 4), (9, 1, 0), (15, 1, 1), (18, 1, 2), (21, 1, 3)]
theorem fX0_startWithLearned_ok : flOk RX0 wsX0_startWithLearned fX0_startWithLearned := flOk_c RX4 TX4 8 rfl (by decide) lX0_startWithLearned_53 iX0_startWithLearned_X4 (flOk_c RX0 TX0 4 rfl (by decide) lX0_startWithLearned_9 iX0_startWithLearned_X0 (flOk_c RX0 TX0 4 rfl (by decide) lX0_startWithLearned_15 iX0_startWithLearned_X0 (flOk_c RX0 TX0 4 rfl (by decide) lX0_startWithLearned_18 iX0_startWithLearned_X0 (flOk_c RX0 TX0 4 rfl (by decide) lX0_startWithLearned_21 iX0_startWithLearned_X0 (flOk_0)))))
def pX0_startWithLearned : FL := []
theorem pX0_startWithLearned_ok : plOk RX0 wsX0_startWithLearned pX0_startWithLearned := plOk_0
def kX0_startWithLearned : List (Nat × Int) := [(56, 1000000)]
theorem kX0_startWithLearned_ok : klOk RX0 wsX0_startWithLearned kX0_startWithLearned := klOk_c (by decide +kernel) (klOk_0)
def fX1_countPairs : FL := [(15, 2, 1), (27, 3, 2), (37, 3, 0), (40, 3, 1)]
theorem fX1_countPairs_ok : flOk RX1 wsX1_countPairs fX1_countPairs := flOk_c RX1 TX1 3 rfl (by decide) lX1_countPairs_15 iX1_countPairs_X1 (flOk_c RX2 TX2 4 rfl (by decide) lX1_countPairs_27 iX1_countPairs_X2 (flOk_c RX2 TX2 4 rfl (by decide) lX1_countPairs_37 iX1_countPairs_X2 (flOk_c RX2 TX2 4 rfl (by decide) lX1_countPairs_40 iX1_countPairs_X2 (flOk_0))))
def pX1_countPairs : FL := []
theorem pX1_countPairs_ok : plOk RX1 wsX1_countPairs pX1_countPairs := plOk_0
def fX1_mostFrequent : FL := [(15, 2, 1)]
theorem fX1_mostFrequent_ok : flOk RX1 wsX1_mostFrequent fX1_mostFrequent := flOk_c RX1 TX1 3 rfl (by decide) lX1_mostFrequent_15 iX1_mostFrequent_X1 (flOk_0)
def pX1_mostFrequent : FL := []
theorem pX1_mostFrequent_ok : plOk RX1 wsX1_mostFrequent pX1_mostFrequent := plOk_0
def fX1_isAhead : FL := [(15, 2, 1), (9, 2, 0)]
theorem fX1_isAhead_ok : flOk RX1 wsX1_isAhead fX1_isAhead := flOk_c RX1 TX1 3 rfl (by decide) lX1_isAhead_15 iX1_isAhead_X1 (flOk_c RX1 TX1 3 rfl (by decide) lX1_isAhead_9 iX1_isAhead_X1 (flOk_0))
def pX1_isAhead : FL := []
theorem pX1_isAhead_ok : plOk RX1 wsX1_isAhead pX1_isAhead := plOk_0
def fX1_add : FL := [(15, 2, 1), (9, 2, 0), (18, 2, 2)]
theorem fX1_add_ok : flOk RX1 wsX1_add fX1_add := flOk_c RX1 TX1 3 rfl (by decide) lX1_add_15 iX1_add_X1 (flOk_c RX1 TX1 3 rfl (by decide) lX1_add_9 iX1_add_X1 (flOk_c RX1 TX1 3 rfl (by decide) lX1_add_18 iX1_add_X1 (flOk_0)))
def pX1_add : FL := []
theorem pX1_add_ok : plOk RX1 wsX1_add pX1_add := plOk_0
def fX2_spell : FL := [(26, 4, 1), (18, 3, 2), (9, 3, 0), (29, 4, 0), (15, 3, 1), (22, 3, 3)]
theorem fX2_spell_ok : flOk RX2 wsX2_spell fX2_spell := flOk_c RX3 TX3 2 rfl (by decide) lX2_spell_26 iX2_spell_X3 (flOk_c RX2 TX2 4 rfl (by decide) lX2_spell_18 iX2_spell_X2 (flOk_c RX2 TX2 4 rfl (by decide) lX2_spell_9 iX2_spell_X2 (flOk_c RX3 TX3 2 rfl (by decide) lX2_spell_29 iX2_spell_X3 (flOk_c RX2 TX2 4 rfl (by decide) lX2_spell_15 iX2_spell_X2 (flOk_c RX2 TX2 4 rfl (by decide) lX2_spell_22 iX2_spell_X2 (flOk_0))))))
def pX2_spell : FL := [(18, 3, 2)]
theorem pX2_spell_ok : plOk RX2 wsX2_spell pX2_spell := plOk_c RX2 TX2 4 tyX2 rfl (by decide) lX2_spell_18 iX2_spell_X2 tyX2_ok nmX2 rfl (by decide +kernel) (plOk_0)
def fX2_hasNext : FL := [(18, 3, 2), (22, 3, 3)]
theorem fX2_hasNext_ok : flOk RX2 wsX2_hasNext fX2_hasNext := flOk_c RX2 TX2 4 rfl (by decide) lX2_hasNext_18 iX2_hasNext_X2 (flOk_c RX2 TX2 4 rfl (by decide) lX2_hasNext_22 iX2_hasNext_X2 (flOk_0))
def pX2_hasNext : FL := []
theorem pX2_hasNext_ok : plOk RX2 wsX2_hasNext pX2_hasNext := plOk_0
def fX2_merge : FL := [(18, 3, 2), (9, 3, 0), (15, 3, 1), (22, 3, 3)]
theorem fX2_merge_ok : flOk RX2 wsX2_merge fX2_merge := flOk_c RX2 TX2 4 rfl (by decide) lX2_merge_18 iX2_merge_X2 (flOk_c RX2 TX2 4 rfl (by decide) lX2_merge_9 iX2_merge_X2 (flOk_c RX2 TX2 4 rfl (by decide) lX2_merge_15 iX2_merge_X2 (flOk_c RX2 TX2 4 rfl (by decide) lX2_merge_22 iX2_merge_X2 (flOk_0))))
def pX2_merge : FL := [(18, 3, 2)]
theorem pX2_merge_ok : plOk RX2 wsX2_merge pX2_merge := plOk_c RX2 TX2 4 tyX2 rfl (by decide) lX2_merge_18 iX2_merge_X2 tyX2_ok nmX2 rfl (by decide +kernel) (plOk_0)
def fX3_append : FL := [(15, 4, 1), (9, 4, 0)]
theorem fX3_append_ok : flOk RX3 wsX3_append fX3_append := flOk_c RX3 TX3 2 rfl (by decide) lX3_append_15 iX3_append_X3 (flOk_c RX3 TX3 2 rfl (by decide) lX3_append_9 iX3_append_X3 (flOk_0))
def pX3_append : FL := [(15, 4, 1)]
theorem pX3_append_ok : plOk RX3 wsX3_append pX3_append := plOk_c RX3 TX3 2 tyX3 rfl (by decide) lX3_append_15 iX3_append_X3 tyX3_ok nmX3 rfl (by decide +kernel) (plOk_0)
def fX3_beginsWord : FL := [(15, 4, 1), (9, 4, 0)]
theorem fX3_beginsWord_ok : flOk RX3 wsX3_beginsWord fX3_beginsWord := flOk_c RX3 TX3 2 rfl (by decide) lX3_beginsWord_15 iX3_beginsWord_X3 (flOk_c RX3 TX3 2 rfl (by decide) lX3_beginsWord_9 iX3_beginsWord_X3 (flOk_0))
def pX3_beginsWord : FL := []
theorem pX3_beginsWord_ok : plOk RX3 wsX3_beginsWord pX3_beginsWord := plOk_0
def fX4_startFrom : FL := [(43, 4, 0), (31, 5, 6)]
theorem fX4_startFrom_ok : flOk RX4 wsX4_startFrom fX4_startFrom := flOk_c RX3 TX3 2 rfl (by decide) lX4_startFrom_43 iX4_startFrom_X3 (flOk_c RX4 TX4 8 rfl (by decide) lX4_startFrom_31 iX4_startFrom_X4 (flOk_0))
def pX4_startFrom : FL := [(27, 5, 5)]
theorem pX4_startFrom_ok : plOk RX4 wsX4_startFrom pX4_startFrom := plOk_c RX4 TX4 8 tyX4 rfl (by decide) lX4_startFrom_27 iX4_startFrom_X4 tyX4_ok nmX4 rfl (by decide +kernel) (plOk_0)
def fX4_isToken : FL := [(27, 5, 5)]
theorem fX4_isToken_ok : flOk RX4 wsX4_isToken fX4_isToken := flOk_c RX4 TX4 8 rfl (by decide) lX4_isToken_27 iX4_isToken_X4 (flOk_0)
def pX4_isToken : FL := []
theorem pX4_isToken_ok : plOk RX4 wsX4_isToken pX4_isToken := plOk_0
def fX4_isLearned : FL := [(27, 5, 5)]
theorem fX4_isLearned_ok : flOk RX4 wsX4_isLearned fX4_isLearned := flOk_c RX4 TX4 8 rfl (by decide) lX4_isLearned_27 iX4_isLearned_X4 (flOk_0)
def pX4_isLearned : FL := []
theorem pX4_isLearned_ok : plOk RX4 wsX4_isLearned pX4_isLearned := plOk_0
def fX4_add : FL := [(27, 5, 5), (9, 5, 0), (15, 5, 1), (18, 5, 2), (21, 5, 3), (34, 5, 7), (24, 5, 4)]
theorem fX4_add_ok : flOk RX4 wsX4_add fX4_add := flOk_c RX4 TX4 8 rfl (by decide) lX4_add_27 iX4_add_X4 (flOk_c RX4 TX4 8 rfl (by decide) lX4_add_9 iX4_add_X4 (flOk_c RX4 TX4 8 rfl (by decide) lX4_add_15 iX4_add_X4 (flOk_c RX4 TX4 8 rfl (by decide) lX4_add_18 iX4_add_X4 (flOk_c RX4 TX4 8 rfl (by decide) lX4_add_21 iX4_add_X4 (flOk_c RX4 TX4 8 rfl (by decide) lX4_add_34 iX4_add_X4 (flOk_c RX4 TX4 8 rfl (by decide) lX4_add_24 iX4_add_X4 (flOk_0)))))))
def pX4_add : FL := [(27, 5, 5)]
theorem pX4_add_ok : plOk RX4 wsX4_add pX4_add := plOk_c RX4 TX4 8 tyX4 rfl (by decide) lX4_add_27 iX4_add_X4 tyX4_ok nmX4 rfl (by decide +kernel) (plOk_0)
def fX4_sizeOf : FL := [(21, 5, 3)]
theorem fX4_sizeOf_ok : flOk RX4 wsX4_sizeOf fX4_sizeOf := flOk_c RX4 TX4 8 rfl (by decide) lX4_sizeOf_21 iX4_sizeOf_X4 (flOk_0)
def pX4_sizeOf : FL := []
theorem pX4_sizeOf_ok : plOk RX4 wsX4_sizeOf pX4_sizeOf := plOk_0
def fX4_byteOf : FL := [(34, 5, 7), (31, 5, 6)]
theorem fX4_byteOf_ok : flOk RX4 wsX4_byteOf fX4_byteOf := flOk_c RX4 TX4 8 rfl (by decide) lX4_byteOf_34 iX4_byteOf_X4 (flOk_c RX4 TX4 8 rfl (by decide) lX4_byteOf_31 iX4_byteOf_X4 (flOk_0))
def pX4_byteOf : FL := []
theorem pX4_byteOf_ok : plOk RX4 wsX4_byteOf pX4_byteOf := plOk_0
def fX4_standsAt : FL := [(62, 4, 1), (43, 4, 0)]
theorem fX4_standsAt_ok : flOk RX4 wsX4_standsAt fX4_standsAt := flOk_c RX3 TX3 2 rfl (by decide) lX4_standsAt_62 iX4_standsAt_X3 (flOk_c RX3 TX3 2 rfl (by decide) lX4_standsAt_43 iX4_standsAt_X3 (flOk_0))
def pX4_standsAt : FL := []
theorem pX4_standsAt_ok : plOk RX4 wsX4_standsAt pX4_standsAt := plOk_0
def fX5_octet : FL := [(10, 6, 0), (44, 4, 1)]
theorem fX5_octet_ok : flOk RX5 wsX5_octet fX5_octet := flOk_c RX5 TX5 5 rfl (by decide) lX5_octet_10 iX5_octet_X5 (flOk_c RX3 TX3 2 rfl (by decide) lX5_octet_44 iX5_octet_X3 (flOk_0))
def pX5_octet : FL := []
theorem pX5_octet_ok : plOk RX5 wsX5_octet pX5_octet := plOk_0
def fX5_cut : FL := [(10, 6, 0), (44, 4, 1)]
theorem fX5_cut_ok : flOk RX5 wsX5_cut fX5_cut := flOk_c RX5 TX5 5 rfl (by decide) lX5_cut_10 iX5_cut_X5 (flOk_c RX3 TX3 2 rfl (by decide) lX5_cut_44 iX5_cut_X3 (flOk_0))
def pX5_cut : FL := [(44, 4, 1)]
theorem pX5_cut_ok : plOk RX5 wsX5_cut pX5_cut := plOk_c RX3 TX3 2 tyX3 rfl (by decide) lX5_cut_44 iX5_cut_X3 tyX3_ok nmX3 rfl (by decide +kernel) (plOk_0)
def fX5_byteAt : FL := [(10, 6, 0), (44, 4, 1), (52, 4, 0)]
theorem fX5_byteAt_ok : flOk RX5 wsX5_byteAt fX5_byteAt := flOk_c RX5 TX5 5 rfl (by decide) lX5_byteAt_10 iX5_byteAt_X5 (flOk_c RX3 TX3 2 rfl (by decide) lX5_byteAt_44 iX5_byteAt_X3 (flOk_c RX3 TX3 2 rfl (by decide) lX5_byteAt_52 iX5_byteAt_X3 (flOk_0)))
def pX5_byteAt : FL := []
theorem pX5_byteAt_ok : plOk RX5 wsX5_byteAt pX5_byteAt := plOk_0
def fX5_words : FL := [(10, 6, 0), (44, 4, 1)]
theorem fX5_words_ok : flOk RX5 wsX5_words fX5_words := flOk_c RX5 TX5 5 rfl (by decide) lX5_words_10 iX5_words_X5 (flOk_c RX3 TX3 2 rfl (by decide) lX5_words_44 iX5_words_X3 (flOk_0))
def pX5_words : FL := []
theorem pX5_words_ok : plOk RX5 wsX5_words pX5_words := plOk_0
def fX5_learn : FL := [(19, 6, 1), (10, 6, 0), (26, 6, 2), (71, 5, 5)]
theorem fX5_learn_ok : flOk RX5 wsX5_learn fX5_learn := flOk_c RX5 TX5 5 rfl (by decide) lX5_learn_19 iX5_learn_X5 (flOk_c RX5 TX5 5 rfl (by decide) lX5_learn_10 iX5_learn_X5 (flOk_c RX5 TX5 5 rfl (by decide) lX5_learn_26 iX5_learn_X5 (flOk_c RX4 TX4 8 rfl (by decide) lX5_learn_71 iX5_learn_X4 (flOk_0))))
def pX5_learn : FL := []
theorem pX5_learn_ok : plOk RX5 wsX5_learn pX5_learn := plOk_0
def fX5_pair : FL := [(19, 6, 1), (77, 5, 0), (80, 5, 1)]
theorem fX5_pair_ok : flOk RX5 wsX5_pair fX5_pair := flOk_c RX5 TX5 5 rfl (by decide) lX5_pair_19 iX5_pair_X5 (flOk_c RX4 TX4 8 rfl (by decide) lX5_pair_77 iX5_pair_X4 (flOk_c RX4 TX4 8 rfl (by decide) lX5_pair_80 iX5_pair_X4 (flOk_0)))
def pX5_pair : FL := []
theorem pX5_pair_ok : plOk RX5 wsX5_pair pX5_pair := plOk_0
def fX5_count : FL := [(19, 6, 1), (83, 5, 2)]
theorem fX5_count_ok : flOk RX5 wsX5_count fX5_count := flOk_c RX5 TX5 5 rfl (by decide) lX5_count_19 iX5_count_X5 (flOk_c RX4 TX4 8 rfl (by decide) lX5_count_83 iX5_count_X4 (flOk_0))
def pX5_count : FL := []
theorem pX5_count_ok : plOk RX5 wsX5_count pX5_count := plOk_0
def fX5_size : FL := [(19, 6, 1)]
theorem fX5_size_ok : flOk RX5 wsX5_size fX5_size := flOk_c RX5 TX5 5 rfl (by decide) lX5_size_19 iX5_size_X5 (flOk_0)
def pX5_size : FL := []
theorem pX5_size_ok : plOk RX5 wsX5_size pX5_size := plOk_0
def fX5_decode : FL := [(19, 6, 1)]
theorem fX5_decode_ok : flOk RX5 wsX5_decode fX5_decode := flOk_c RX5 TX5 5 rfl (by decide) lX5_decode_19 iX5_decode_X5 (flOk_0)
def pX5_decode : FL := []
theorem pX5_decode_ok : plOk RX5 wsX5_decode pX5_decode := plOk_0
def fX5_tokens : FL := [(26, 6, 2), (107, 3, 2)]
theorem fX5_tokens_ok : flOk RX5 wsX5_tokens fX5_tokens := flOk_c RX5 TX5 5 rfl (by decide) lX5_tokens_26 iX5_tokens_X5 (flOk_c RX2 TX2 4 rfl (by decide) lX5_tokens_107 iX5_tokens_X2 (flOk_0))
def pX5_tokens : FL := []
theorem pX5_tokens_ok : plOk RX5 wsX5_tokens pX5_tokens := plOk_0
def fX5_at : FL := [(26, 6, 2), (107, 3, 2), (108, 3, 0)]
theorem fX5_at_ok : flOk RX5 wsX5_at fX5_at := flOk_c RX5 TX5 5 rfl (by decide) lX5_at_26 iX5_at_X5 (flOk_c RX2 TX2 4 rfl (by decide) lX5_at_107 iX5_at_X2 (flOk_c RX2 TX2 4 rfl (by decide) lX5_at_108 iX5_at_X2 (flOk_0)))
def pX5_at : FL := []
theorem pX5_at_ok : plOk RX5 wsX5_at pX5_at := plOk_0
def fX5_from : FL := [(26, 6, 2), (107, 3, 2), (111, 3, 1)]
theorem fX5_from_ok : flOk RX5 wsX5_from fX5_from := flOk_c RX5 TX5 5 rfl (by decide) lX5_from_26 iX5_from_X5 (flOk_c RX2 TX2 4 rfl (by decide) lX5_from_107 iX5_from_X2 (flOk_c RX2 TX2 4 rfl (by decide) lX5_from_111 iX5_from_X2 (flOk_0)))
def pX5_from : FL := []
theorem pX5_from_ok : plOk RX5 wsX5_from pX5_from := plOk_0
def fX5_points : FL := [(19, 6, 1), (114, 5, 4)]
theorem fX5_points_ok : flOk RX5 wsX5_points fX5_points := flOk_c RX5 TX5 5 rfl (by decide) lX5_points_19 iX5_points_X5 (flOk_c RX4 TX4 8 rfl (by decide) lX5_points_114 iX5_points_X4 (flOk_0))
def pX5_points : FL := []
theorem pX5_points_ok : plOk RX5 wsX5_points pX5_points := plOk_0
def fX5_best : FL := [(40, 6, 4), (10, 6, 0), (19, 6, 1), (121, 1, 1)]
theorem fX5_best_ok : flOk RX5 wsX5_best fX5_best := flOk_c RX5 TX5 5 rfl (by decide) lX5_best_40 iX5_best_X5 (flOk_c RX5 TX5 5 rfl (by decide) lX5_best_10 iX5_best_X5 (flOk_c RX5 TX5 5 rfl (by decide) lX5_best_19 iX5_best_X5 (flOk_c RX0 TX0 4 rfl (by decide) lX5_best_121 iX5_best_X0 (flOk_0))))
def pX5_best : FL := []
theorem pX5_best_ok : plOk RX5 wsX5_best pX5_best := plOk_0
def fX5_bestAt : FL := [(40, 6, 4), (10, 6, 0), (19, 6, 1), (121, 1, 1)]
theorem fX5_bestAt_ok : flOk RX5 wsX5_bestAt fX5_bestAt := flOk_c RX5 TX5 5 rfl (by decide) lX5_bestAt_40 iX5_bestAt_X5 (flOk_c RX5 TX5 5 rfl (by decide) lX5_bestAt_10 iX5_bestAt_X5 (flOk_c RX5 TX5 5 rfl (by decide) lX5_bestAt_19 iX5_bestAt_X5 (flOk_c RX0 TX0 4 rfl (by decide) lX5_bestAt_121 iX5_bestAt_X0 (flOk_0))))
def pX5_bestAt : FL := []
theorem pX5_bestAt_ok : plOk RX5 wsX5_bestAt pX5_bestAt := plOk_0
def fX5_sum : FL := [(40, 6, 4), (10, 6, 0), (19, 6, 1), (128, 1, 0)]
theorem fX5_sum_ok : flOk RX5 wsX5_sum fX5_sum := flOk_c RX5 TX5 5 rfl (by decide) lX5_sum_40 iX5_sum_X5 (flOk_c RX5 TX5 5 rfl (by decide) lX5_sum_10 iX5_sum_X5 (flOk_c RX5 TX5 5 rfl (by decide) lX5_sum_19 iX5_sum_X5 (flOk_c RX0 TX0 4 rfl (by decide) lX5_sum_128 iX5_sum_X0 (flOk_0))))
def pX5_sum : FL := []
theorem pX5_sum_ok : plOk RX5 wsX5_sum pX5_sum := plOk_0
def fX5_ways : FL := [(40, 6, 4), (10, 6, 0), (19, 6, 1), (131, 1, 2)]
theorem fX5_ways_ok : flOk RX5 wsX5_ways fX5_ways := flOk_c RX5 TX5 5 rfl (by decide) lX5_ways_40 iX5_ways_X5 (flOk_c RX5 TX5 5 rfl (by decide) lX5_ways_10 iX5_ways_X5 (flOk_c RX5 TX5 5 rfl (by decide) lX5_ways_19 iX5_ways_X5 (flOk_c RX0 TX0 4 rfl (by decide) lX5_ways_131 iX5_ways_X0 (flOk_0))))
def pX5_ways : FL := []
theorem pX5_ways_ok : plOk RX5 wsX5_ways pX5_ways := plOk_0
def fX5_learnNext : FL := [(33, 6, 3), (26, 6, 2), (142, 2, 1), (19, 6, 1), (71, 5, 5), (143, 2, 0), (146, 2, 2)]
theorem fX5_learnNext_ok : flOk RX5 wsX5_learnNext fX5_learnNext := flOk_c RX5 TX5 5 rfl (by decide) lX5_learnNext_33 iX5_learnNext_X5 (flOk_c RX5 TX5 5 rfl (by decide) lX5_learnNext_26 iX5_learnNext_X5 (flOk_c RX1 TX1 3 rfl (by decide) lX5_learnNext_142 iX5_learnNext_X1 (flOk_c RX5 TX5 5 rfl (by decide) lX5_learnNext_19 iX5_learnNext_X5 (flOk_c RX4 TX4 8 rfl (by decide) lX5_learnNext_71 iX5_learnNext_X4 (flOk_c RX1 TX1 3 rfl (by decide) lX5_learnNext_143 iX5_learnNext_X1 (flOk_c RX1 TX1 3 rfl (by decide) lX5_learnNext_146 iX5_learnNext_X1 (flOk_0)))))))
def pX5_learnNext : FL := []
theorem pX5_learnNext_ok : plOk RX5 wsX5_learnNext pX5_learnNext := plOk_0
def fX5_tellText : FL := [(26, 6, 2), (10, 6, 0), (19, 6, 1), (71, 5, 5), (77, 5, 0), (80, 5, 1)]
theorem fX5_tellText_ok : flOk RX5 wsX5_tellText fX5_tellText := flOk_c RX5 TX5 5 rfl (by decide) lX5_tellText_26 iX5_tellText_X5 (flOk_c RX5 TX5 5 rfl (by decide) lX5_tellText_10 iX5_tellText_X5 (flOk_c RX5 TX5 5 rfl (by decide) lX5_tellText_19 iX5_tellText_X5 (flOk_c RX4 TX4 8 rfl (by decide) lX5_tellText_71 iX5_tellText_X4 (flOk_c RX4 TX4 8 rfl (by decide) lX5_tellText_77 iX5_tellText_X4 (flOk_c RX4 TX4 8 rfl (by decide) lX5_tellText_80 iX5_tellText_X4 (flOk_0))))))
def pX5_tellText : FL := []
theorem pX5_tellText_ok : plOk RX5 wsX5_tellText pX5_tellText := plOk_0
def fX6_thrown : FL := [(49, 7, 0)]
theorem fX6_thrown_ok : flOk RX6 wsX6_thrown fX6_thrown := flOk_c RX6 TX6 17 rfl (by decide) lX6_thrown_49 iX6_thrown_X6 (flOk_0)
def pX6_thrown : FL := []
theorem pX6_thrown_ok : plOk RX6 wsX6_thrown pX6_thrown := plOk_0
def fX6_in : FL := []
theorem fX6_in_ok : flOk RX6 wsX6_in fX6_in := flOk_0
def pX6_in : FL := []
theorem pX6_in_ok : plOk RX6 wsX6_in pX6_in := plOk_0
def fX6_octet : FL := [(57, 7, 1), (7, 7, 2)]
theorem fX6_octet_ok : flOk RX6 wsX6_octet fX6_octet := flOk_c RX6 TX6 17 rfl (by decide) lX6_octet_57 iX6_octet_X6 (flOk_c RX6 TX6 17 rfl (by decide) lX6_octet_7 iX6_octet_X6 (flOk_0))
def pX6_octet : FL := [(49, 7, 0), (57, 7, 1)]
theorem pX6_octet_ok : plOk RX6 wsX6_octet pX6_octet := plOk_c RX6 TX6 17 tyX6 rfl (by decide) lX6_octet_49 iX6_octet_X6 tyX6_ok nmX6 rfl (by decide +kernel) (plOk_c RX6 TX6 17 tyX6 rfl (by decide) lX6_octet_57 iX6_octet_X6 tyX6_ok nmX6 rfl (by decide +kernel) (plOk_0))
def fX6_cut : FL := [(57, 7, 1)]
theorem fX6_cut_ok : flOk RX6 wsX6_cut fX6_cut := flOk_c RX6 TX6 17 rfl (by decide) lX6_cut_57 iX6_cut_X6 (flOk_0)
def pX6_cut : FL := [(49, 7, 0), (57, 7, 1)]
theorem pX6_cut_ok : plOk RX6 wsX6_cut pX6_cut := plOk_c RX6 TX6 17 tyX6 rfl (by decide) lX6_cut_49 iX6_cut_X6 tyX6_ok nmX6 rfl (by decide +kernel) (plOk_c RX6 TX6 17 tyX6 rfl (by decide) lX6_cut_57 iX6_cut_X6 tyX6_ok nmX6 rfl (by decide +kernel) (plOk_0))
def fX6_byteAt : FL := [(57, 7, 1), (7, 7, 2)]
theorem fX6_byteAt_ok : flOk RX6 wsX6_byteAt fX6_byteAt := flOk_c RX6 TX6 17 rfl (by decide) lX6_byteAt_57 iX6_byteAt_X6 (flOk_c RX6 TX6 17 rfl (by decide) lX6_byteAt_7 iX6_byteAt_X6 (flOk_0))
def pX6_byteAt : FL := [(49, 7, 0)]
theorem pX6_byteAt_ok : plOk RX6 wsX6_byteAt pX6_byteAt := plOk_c RX6 TX6 17 tyX6 rfl (by decide) lX6_byteAt_49 iX6_byteAt_X6 tyX6_ok nmX6 rfl (by decide +kernel) (plOk_0)
def fX6_beginsWord : FL := [(7, 7, 2)]
theorem fX6_beginsWord_ok : flOk RX6 wsX6_beginsWord fX6_beginsWord := flOk_c RX6 TX6 17 rfl (by decide) lX6_beginsWord_7 iX6_beginsWord_X6 (flOk_0)
def pX6_beginsWord : FL := []
theorem pX6_beginsWord_ok : plOk RX6 wsX6_beginsWord pX6_beginsWord := plOk_0
def fX6_words : FL := [(57, 7, 1)]
theorem fX6_words_ok : flOk RX6 wsX6_words fX6_words := flOk_c RX6 TX6 17 rfl (by decide) lX6_words_57 iX6_words_X6 (flOk_0)
def pX6_words : FL := [(49, 7, 0)]
theorem pX6_words_ok : plOk RX6 wsX6_words pX6_words := plOk_c RX6 TX6 17 tyX6 rfl (by decide) lX6_words_49 iX6_words_X6 tyX6_ok nmX6 rfl (by decide +kernel) (plOk_0)
def fX6_layBytes : FL := [(57, 7, 1), (31, 7, 11), (7, 7, 2), (34, 7, 12)]
theorem fX6_layBytes_ok : flOk RX6 wsX6_layBytes fX6_layBytes := flOk_c RX6 TX6 17 rfl (by decide) lX6_layBytes_57 iX6_layBytes_X6 (flOk_c RX6 TX6 17 rfl (by decide) lX6_layBytes_31 iX6_layBytes_X6 (flOk_c RX6 TX6 17 rfl (by decide) lX6_layBytes_7 iX6_layBytes_X6 (flOk_c RX6 TX6 17 rfl (by decide) lX6_layBytes_34 iX6_layBytes_X6 (flOk_0))))
def pX6_layBytes : FL := [(64, 7, 10)]
theorem pX6_layBytes_ok : plOk RX6 wsX6_layBytes pX6_layBytes := plOk_c RX6 TX6 17 tyX6 rfl (by decide) lX6_layBytes_64 iX6_layBytes_X6 tyX6_ok nmX6 rfl (by decide +kernel) (plOk_0)
def fX6_isPair : FL := [(64, 7, 10), (31, 7, 11), (34, 7, 12)]
theorem fX6_isPair_ok : flOk RX6 wsX6_isPair fX6_isPair := flOk_c RX6 TX6 17 rfl (by decide) lX6_isPair_64 iX6_isPair_X6 (flOk_c RX6 TX6 17 rfl (by decide) lX6_isPair_31 iX6_isPair_X6 (flOk_c RX6 TX6 17 rfl (by decide) lX6_isPair_34 iX6_isPair_X6 (flOk_0)))
def pX6_isPair : FL := []
theorem pX6_isPair_ok : plOk RX6 wsX6_isPair pX6_isPair := plOk_0
def fX6_join : FL := [(64, 7, 10), (34, 7, 12), (31, 7, 11)]
theorem fX6_join_ok : flOk RX6 wsX6_join fX6_join := flOk_c RX6 TX6 17 rfl (by decide) lX6_join_64 iX6_join_X6 (flOk_c RX6 TX6 17 rfl (by decide) lX6_join_34 iX6_join_X6 (flOk_c RX6 TX6 17 rfl (by decide) lX6_join_31 iX6_join_X6 (flOk_0)))
def pX6_join : FL := [(64, 7, 10)]
theorem pX6_join_ok : plOk RX6 wsX6_join pX6_join := plOk_c RX6 TX6 17 tyX6 rfl (by decide) lX6_join_64 iX6_join_X6 tyX6_ok nmX6 rfl (by decide +kernel) (plOk_0)
def fX6_sizeOf : FL := [(22, 7, 7)]
theorem fX6_sizeOf_ok : flOk RX6 wsX6_sizeOf fX6_sizeOf := flOk_c RX6 TX6 17 rfl (by decide) lX6_sizeOf_22 iX6_sizeOf_X6 (flOk_0)
def pX6_sizeOf : FL := []
theorem pX6_sizeOf_ok : plOk RX6 wsX6_sizeOf pX6_sizeOf := plOk_0
def fX6_byteOf : FL := [(25, 7, 8)]
theorem fX6_byteOf_ok : flOk RX6 wsX6_byteOf fX6_byteOf := flOk_c RX6 TX6 17 rfl (by decide) lX6_byteOf_25 iX6_byteOf_X6 (flOk_0)
def pX6_byteOf : FL := []
theorem pX6_byteOf_ok : plOk RX6 wsX6_byteOf pX6_byteOf := plOk_0
def fX6_keep : FL := [(70, 7, 3), (13, 7, 4), (16, 7, 5), (19, 7, 6), (22, 7, 7), (25, 7, 8), (28, 7, 9)]
theorem fX6_keep_ok : flOk RX6 wsX6_keep fX6_keep := flOk_c RX6 TX6 17 rfl (by decide) lX6_keep_70 iX6_keep_X6 (flOk_c RX6 TX6 17 rfl (by decide) lX6_keep_13 iX6_keep_X6 (flOk_c RX6 TX6 17 rfl (by decide) lX6_keep_16 iX6_keep_X6 (flOk_c RX6 TX6 17 rfl (by decide) lX6_keep_19 iX6_keep_X6 (flOk_c RX6 TX6 17 rfl (by decide) lX6_keep_22 iX6_keep_X6 (flOk_c RX6 TX6 17 rfl (by decide) lX6_keep_25 iX6_keep_X6 (flOk_c RX6 TX6 17 rfl (by decide) lX6_keep_28 iX6_keep_X6 (flOk_0)))))))
def pX6_keep : FL := [(70, 7, 3)]
theorem pX6_keep_ok : plOk RX6 wsX6_keep pX6_keep := plOk_c RX6 TX6 17 tyX6 rfl (by decide) lX6_keep_70 iX6_keep_X6 tyX6_ok nmX6 rfl (by decide +kernel) (plOk_0)
def fX6_countOf : FL := [(64, 7, 10)]
theorem fX6_countOf_ok : flOk RX6 wsX6_countOf fX6_countOf := flOk_c RX6 TX6 17 rfl (by decide) lX6_countOf_64 iX6_countOf_X6 (flOk_0)
def pX6_countOf : FL := []
theorem pX6_countOf_ok : plOk RX6 wsX6_countOf pX6_countOf := plOk_0
def fX6_learn : FL := [(70, 7, 3), (64, 7, 10), (31, 7, 11)]
theorem fX6_learn_ok : flOk RX6 wsX6_learn fX6_learn := flOk_c RX6 TX6 17 rfl (by decide) lX6_learn_70 iX6_learn_X6 (flOk_c RX6 TX6 17 rfl (by decide) lX6_learn_64 iX6_learn_X6 (flOk_c RX6 TX6 17 rfl (by decide) lX6_learn_31 iX6_learn_X6 (flOk_0)))
def pX6_learn : FL := [(49, 7, 0), (70, 7, 3)]
theorem pX6_learn_ok : plOk RX6 wsX6_learn pX6_learn := plOk_c RX6 TX6 17 tyX6 rfl (by decide) lX6_learn_49 iX6_learn_X6 tyX6_ok nmX6 rfl (by decide +kernel) (plOk_c RX6 TX6 17 tyX6 rfl (by decide) lX6_learn_70 iX6_learn_X6 tyX6_ok nmX6 rfl (by decide +kernel) (plOk_0))
def fX6_isLearned : FL := [(70, 7, 3)]
theorem fX6_isLearned_ok : flOk RX6 wsX6_isLearned fX6_isLearned := flOk_c RX6 TX6 17 rfl (by decide) lX6_isLearned_70 iX6_isLearned_X6 (flOk_0)
def pX6_isLearned : FL := []
theorem pX6_isLearned_ok : plOk RX6 wsX6_isLearned pX6_isLearned := plOk_0
def fX6_isToken : FL := [(70, 7, 3)]
theorem fX6_isToken_ok : flOk RX6 wsX6_isToken fX6_isToken := flOk_c RX6 TX6 17 rfl (by decide) lX6_isToken_70 iX6_isToken_X6 (flOk_0)
def pX6_isToken : FL := []
theorem pX6_isToken_ok : plOk RX6 wsX6_isToken pX6_isToken := plOk_0
def fX6_pair : FL := [(13, 7, 4), (16, 7, 5)]
theorem fX6_pair_ok : flOk RX6 wsX6_pair fX6_pair := flOk_c RX6 TX6 17 rfl (by decide) lX6_pair_13 iX6_pair_X6 (flOk_c RX6 TX6 17 rfl (by decide) lX6_pair_16 iX6_pair_X6 (flOk_0))
def pX6_pair : FL := [(49, 7, 0)]
theorem pX6_pair_ok : plOk RX6 wsX6_pair pX6_pair := plOk_c RX6 TX6 17 tyX6 rfl (by decide) lX6_pair_49 iX6_pair_X6 tyX6_ok nmX6 rfl (by decide +kernel) (plOk_0)
def fX6_count : FL := [(19, 7, 6)]
theorem fX6_count_ok : flOk RX6 wsX6_count fX6_count := flOk_c RX6 TX6 17 rfl (by decide) lX6_count_19 iX6_count_X6 (flOk_0)
def pX6_count : FL := [(49, 7, 0)]
theorem pX6_count_ok : plOk RX6 wsX6_count pX6_count := plOk_c RX6 TX6 17 tyX6 rfl (by decide) lX6_count_49 iX6_count_X6 tyX6_ok nmX6 rfl (by decide +kernel) (plOk_0)
def fX6_size : FL := []
theorem fX6_size_ok : flOk RX6 wsX6_size fX6_size := flOk_0
def pX6_size : FL := [(49, 7, 0)]
theorem pX6_size_ok : plOk RX6 wsX6_size pX6_size := plOk_c RX6 TX6 17 tyX6 rfl (by decide) lX6_size_49 iX6_size_X6 tyX6_ok nmX6 rfl (by decide +kernel) (plOk_0)
def fX6_decode : FL := []
theorem fX6_decode_ok : flOk RX6 wsX6_decode fX6_decode := flOk_0
def pX6_decode : FL := [(49, 7, 0)]
theorem pX6_decode_ok : plOk RX6 wsX6_decode pX6_decode := plOk_c RX6 TX6 17 tyX6 rfl (by decide) lX6_decode_49 iX6_decode_X6 tyX6_ok nmX6 rfl (by decide +kernel) (plOk_0)
def fX6_tell : FL := [(70, 7, 3), (13, 7, 4), (16, 7, 5)]
theorem fX6_tell_ok : flOk RX6 wsX6_tell fX6_tell := flOk_c RX6 TX6 17 rfl (by decide) lX6_tell_70 iX6_tell_X6 (flOk_c RX6 TX6 17 rfl (by decide) lX6_tell_13 iX6_tell_X6 (flOk_c RX6 TX6 17 rfl (by decide) lX6_tell_16 iX6_tell_X6 (flOk_0)))
def pX6_tell : FL := []
theorem pX6_tell_ok : plOk RX6 wsX6_tell pX6_tell := plOk_0
def fX6_tokens : FL := [(64, 7, 10)]
theorem fX6_tokens_ok : flOk RX6 wsX6_tokens fX6_tokens := flOk_c RX6 TX6 17 rfl (by decide) lX6_tokens_64 iX6_tokens_X6 (flOk_0)
def pX6_tokens : FL := [(49, 7, 0)]
theorem pX6_tokens_ok : plOk RX6 wsX6_tokens pX6_tokens := plOk_c RX6 TX6 17 tyX6 rfl (by decide) lX6_tokens_49 iX6_tokens_X6 tyX6_ok nmX6 rfl (by decide +kernel) (plOk_0)
def fX6_at : FL := [(64, 7, 10), (31, 7, 11)]
theorem fX6_at_ok : flOk RX6 wsX6_at fX6_at := flOk_c RX6 TX6 17 rfl (by decide) lX6_at_64 iX6_at_X6 (flOk_c RX6 TX6 17 rfl (by decide) lX6_at_31 iX6_at_X6 (flOk_0))
def pX6_at : FL := [(49, 7, 0)]
theorem pX6_at_ok : plOk RX6 wsX6_at pX6_at := plOk_c RX6 TX6 17 tyX6 rfl (by decide) lX6_at_49 iX6_at_X6 tyX6_ok nmX6 rfl (by decide +kernel) (plOk_0)
def fX6_from : FL := [(64, 7, 10), (34, 7, 12)]
theorem fX6_from_ok : flOk RX6 wsX6_from fX6_from := flOk_c RX6 TX6 17 rfl (by decide) lX6_from_64 iX6_from_X6 (flOk_c RX6 TX6 17 rfl (by decide) lX6_from_34 iX6_from_X6 (flOk_0))
def pX6_from : FL := [(49, 7, 0)]
theorem pX6_from_ok : plOk RX6 wsX6_from pX6_from := plOk_c RX6 TX6 17 tyX6 rfl (by decide) lX6_from_49 iX6_from_X6 tyX6_ok nmX6 rfl (by decide +kernel) (plOk_0)
def fX6_points : FL := [(28, 7, 9)]
theorem fX6_points_ok : flOk RX6 wsX6_points fX6_points := flOk_c RX6 TX6 17 rfl (by decide) lX6_points_28 iX6_points_X6 (flOk_0)
def pX6_points : FL := [(49, 7, 0)]
theorem pX6_points_ok : plOk RX6 wsX6_points pX6_points := plOk_c RX6 TX6 17 tyX6 rfl (by decide) lX6_points_49 iX6_points_X6 tyX6_ok nmX6 rfl (by decide +kernel) (plOk_0)
def fX6_fits : FL := [(57, 7, 1), (7, 7, 2)]
theorem fX6_fits_ok : flOk RX6 wsX6_fits fX6_fits := flOk_c RX6 TX6 17 rfl (by decide) lX6_fits_57 iX6_fits_X6 (flOk_c RX6 TX6 17 rfl (by decide) lX6_fits_7 iX6_fits_X6 (flOk_0))
def pX6_fits : FL := []
theorem pX6_fits_ok : plOk RX6 wsX6_fits pX6_fits := plOk_0
def fX6_isBefore : FL := [(40, 7, 14), (43, 7, 15)]
theorem fX6_isBefore_ok : flOk RX6 wsX6_isBefore fX6_isBefore := flOk_c RX6 TX6 17 rfl (by decide) lX6_isBefore_40 iX6_isBefore_X6 (flOk_c RX6 TX6 17 rfl (by decide) lX6_isBefore_43 iX6_isBefore_X6 (flOk_0))
def pX6_isBefore : FL := []
theorem pX6_isBefore_ok : plOk RX6 wsX6_isBefore pX6_isBefore := plOk_0
def fX6_come : FL := [(37, 7, 13), (28, 7, 9), (40, 7, 14), (46, 7, 16), (43, 7, 15)]
theorem fX6_come_ok : flOk RX6 wsX6_come fX6_come := flOk_c RX6 TX6 17 rfl (by decide) lX6_come_37 iX6_come_X6 (flOk_c RX6 TX6 17 rfl (by decide) lX6_come_28 iX6_come_X6 (flOk_c RX6 TX6 17 rfl (by decide) lX6_come_40 iX6_come_X6 (flOk_c RX6 TX6 17 rfl (by decide) lX6_come_46 iX6_come_X6 (flOk_c RX6 TX6 17 rfl (by decide) lX6_come_43 iX6_come_X6 (flOk_0)))))
def pX6_come : FL := []
theorem pX6_come_ok : plOk RX6 wsX6_come pX6_come := plOk_0
def kX6_come : List (Nat × Int) := [(103, 1000000)]
theorem kX6_come_ok : klOk RX6 wsX6_come kX6_come := klOk_c (by decide +kernel) (klOk_0)
def fX6_findBest : FL := [(57, 7, 1), (37, 7, 13), (40, 7, 14), (46, 7, 16), (7, 7, 2), (70, 7, 3)]
theorem fX6_findBest_ok : flOk RX6 wsX6_findBest fX6_findBest := flOk_c RX6 TX6 17 rfl (by decide) lX6_findBest_57 iX6_findBest_X6 (flOk_c RX6 TX6 17 rfl (by decide) lX6_findBest_37 iX6_findBest_X6 (flOk_c RX6 TX6 17 rfl (by decide) lX6_findBest_40 iX6_findBest_X6 (flOk_c RX6 TX6 17 rfl (by decide) lX6_findBest_46 iX6_findBest_X6 (flOk_c RX6 TX6 17 rfl (by decide) lX6_findBest_7 iX6_findBest_X6 (flOk_c RX6 TX6 17 rfl (by decide) lX6_findBest_70 iX6_findBest_X6 (flOk_0))))))
def pX6_findBest : FL := []
theorem pX6_findBest_ok : plOk RX6 wsX6_findBest pX6_findBest := plOk_0
def fX6_best : FL := [(40, 7, 14), (57, 7, 1)]
theorem fX6_best_ok : flOk RX6 wsX6_best fX6_best := flOk_c RX6 TX6 17 rfl (by decide) lX6_best_40 iX6_best_X6 (flOk_c RX6 TX6 17 rfl (by decide) lX6_best_57 iX6_best_X6 (flOk_0))
def pX6_best : FL := [(49, 7, 0)]
theorem pX6_best_ok : plOk RX6 wsX6_best pX6_best := plOk_c RX6 TX6 17 tyX6 rfl (by decide) lX6_best_49 iX6_best_X6 tyX6_ok nmX6 rfl (by decide +kernel) (plOk_0)
def fX6_bestAt : FL := [(40, 7, 14), (57, 7, 1), (43, 7, 15)]
theorem fX6_bestAt_ok : flOk RX6 wsX6_bestAt fX6_bestAt := flOk_c RX6 TX6 17 rfl (by decide) lX6_bestAt_40 iX6_bestAt_X6 (flOk_c RX6 TX6 17 rfl (by decide) lX6_bestAt_57 iX6_bestAt_X6 (flOk_c RX6 TX6 17 rfl (by decide) lX6_bestAt_43 iX6_bestAt_X6 (flOk_0)))
def pX6_bestAt : FL := [(49, 7, 0)]
theorem pX6_bestAt_ok : plOk RX6 wsX6_bestAt pX6_bestAt := plOk_c RX6 TX6 17 tyX6 rfl (by decide) lX6_bestAt_49 iX6_bestAt_X6 tyX6_ok nmX6 rfl (by decide +kernel) (plOk_0)
def fX6_sum : FL := [(37, 7, 13), (57, 7, 1)]
theorem fX6_sum_ok : flOk RX6 wsX6_sum fX6_sum := flOk_c RX6 TX6 17 rfl (by decide) lX6_sum_37 iX6_sum_X6 (flOk_c RX6 TX6 17 rfl (by decide) lX6_sum_57 iX6_sum_X6 (flOk_0))
def pX6_sum : FL := [(49, 7, 0)]
theorem pX6_sum_ok : plOk RX6 wsX6_sum pX6_sum := plOk_c RX6 TX6 17 tyX6 rfl (by decide) lX6_sum_49 iX6_sum_X6 tyX6_ok nmX6 rfl (by decide +kernel) (plOk_0)
def fX6_ways : FL := [(46, 7, 16), (57, 7, 1)]
theorem fX6_ways_ok : flOk RX6 wsX6_ways fX6_ways := flOk_c RX6 TX6 17 rfl (by decide) lX6_ways_46 iX6_ways_X6 (flOk_c RX6 TX6 17 rfl (by decide) lX6_ways_57 iX6_ways_X6 (flOk_0))
def pX6_ways : FL := [(49, 7, 0)]
theorem pX6_ways_ok : plOk RX6 wsX6_ways pX6_ways := plOk_c RX6 TX6 17 tyX6 rfl (by decide) lX6_ways_49 iX6_ways_X6 tyX6_ok nmX6 rfl (by decide +kernel) (plOk_0)
def fJ7_fill_53178 : FL := []
def pJ7_fill_53178 : FL := []
theorem oX0_weigh_X0_startWithByte : okV (rh 3) RX0 wsX0_weigh 33 RX0 yX0_startWithByte wsX0_startWithByte (rh 0) 3 := ⟨_, _, _, _, gX0_weigh_X0_startWithByte, rfl, rfl, rfl, by decide +kernel, by decide⟩
theorem oX0_weigh_X4_standsAt : okV (rh 3) RX0 wsX0_weigh 42 RX4 yX4_standsAt wsX4_standsAt (rh 2) 3 := ⟨_, _, _, _, gX0_weigh_X4_standsAt, rfl, rfl, rfl, by decide +kernel, by decide⟩
theorem oX0_weigh_X0_startWithLearned : okV (rh 3) RX0 wsX0_weigh 46 RX0 yX0_startWithLearned wsX0_startWithLearned (rh 2) 3 := ⟨_, _, _, _, gX0_weigh_X0_startWithLearned, rfl, rfl, rfl, by decide +kernel, by decide⟩
theorem oX0_chosenAfter_X4_sizeOf : okV (rh 2) RX0 wsX0_chosenAfter 49 RX4 yX4_sizeOf wsX4_sizeOf (rh 1) 1 := ⟨_, _, _, _, gX0_chosenAfter_X4_sizeOf, rfl, rfl, rfl, by decide +kernel, by decide⟩
theorem oX0_startWithLearned_X4_sizeOf : okV (rh 2) RX0 wsX0_startWithLearned 49 RX4 yX4_sizeOf wsX4_sizeOf (rh 1) 1 := ⟨_, _, _, _, gX0_startWithLearned_X4_sizeOf, rfl, rfl, rfl, by decide +kernel, by decide⟩
theorem oX1_countPairs_J7_fill_53178 : okS (rh 1) RX1 wsX1_countPairs 21 yJ7_fill_53178 wsJ7_fill_53178 (rh 0) 2 := ⟨_, _, _, _, gX1_countPairs_J7_fill_53178, rfl, rfl, rfl, by decide +kernel, by decide⟩
theorem oX1_countPairs_X2_hasNext : okV (rh 1) RX1 wsX1_countPairs 33 RX2 yX2_hasNext wsX2_hasNext (rh 0) 1 := ⟨_, _, _, _, gX1_countPairs_X2_hasNext, rfl, rfl, rfl, by decide +kernel, by decide⟩
theorem oX1_countPairs_X1_add : okV (rh 1) RX1 wsX1_countPairs 43 RX1 yX1_add wsX1_add (rh 0) 3 := ⟨_, _, _, _, gX1_countPairs_X1_add, rfl, rfl, rfl, by decide +kernel, by decide⟩
theorem oX1_mostFrequent_X1_isAhead : okV (rh 1) RX1 wsX1_mostFrequent 47 RX1 yX1_isAhead wsX1_isAhead (rh 0) 2 := ⟨_, _, _, _, gX1_mostFrequent_X1_isAhead, rfl, rfl, rfl, by decide +kernel, by decide⟩
theorem oX2_spell_X3_beginsWord : okV (rh 1) RX2 wsX2_spell 32 RX3 yX3_beginsWord wsX3_beginsWord (rh 0) 1 := ⟨_, _, _, _, gX2_spell_X3_beginsWord, rfl, rfl, rfl, by decide +kernel, by decide⟩
theorem oX2_merge_X2_hasNext : okV (rh 1) RX2 wsX2_merge 36 RX2 yX2_hasNext wsX2_hasNext (rh 0) 1 := ⟨_, _, _, _, gX2_merge_X2_hasNext, rfl, rfl, rfl, by decide +kernel, by decide⟩
theorem oX4_add_X4_sizeOf : okV (rh 2) RX4 wsX4_add 54 RX4 yX4_sizeOf wsX4_sizeOf (rh 1) 1 := ⟨_, _, _, _, gX4_add_X4_sizeOf, rfl, rfl, rfl, by decide +kernel, by decide⟩
theorem oX4_sizeOf_X4_isLearned : okV (rh 1) RX4 wsX4_sizeOf 58 RX4 yX4_isLearned wsX4_isLearned (rh 0) 1 := ⟨_, _, _, _, gX4_sizeOf_X4_isLearned, rfl, rfl, rfl, by decide +kernel, by decide⟩
theorem oX4_byteOf_X4_isLearned : okV (rh 1) RX4 wsX4_byteOf 58 RX4 yX4_isLearned wsX4_isLearned (rh 0) 1 := ⟨_, _, _, _, gX4_byteOf_X4_isLearned, rfl, rfl, rfl, by decide +kernel, by decide⟩
theorem oX4_standsAt_X4_sizeOf : okV (rh 2) RX4 wsX4_standsAt 54 RX4 yX4_sizeOf wsX4_sizeOf (rh 1) 1 := ⟨_, _, _, _, gX4_standsAt_X4_sizeOf, rfl, rfl, rfl, by decide +kernel, by decide⟩
theorem oX4_standsAt_X4_byteOf : okV (rh 2) RX4 wsX4_standsAt 65 RX4 yX4_byteOf wsX4_byteOf (rh 1) 2 := ⟨_, _, _, _, gX4_standsAt_X4_byteOf, rfl, rfl, rfl, by decide +kernel, by decide⟩
theorem oX5_octet_X3_append : okV (rh 1) RX5 wsX5_octet 48 RX3 yX3_append wsX3_append (rh 0) 1 := ⟨_, _, _, _, gX5_octet_X3_append, rfl, rfl, rfl, by decide +kernel, by decide⟩
theorem oX5_words_X3_beginsWord : okV (rh 1) RX5 wsX5_words 56 RX3 yX3_beginsWord wsX3_beginsWord (rh 0) 1 := ⟨_, _, _, _, gX5_words_X3_beginsWord, rfl, rfl, rfl, by decide +kernel, by decide⟩
theorem oX5_learn_X4_startFrom : okV (rh 4) RX5 wsX5_learn 60 RX4 yX4_startFrom wsX4_startFrom (rh 1) 1 := ⟨_, _, _, _, gX5_learn_X4_startFrom, rfl, rfl, rfl, by decide +kernel, by decide⟩
theorem oX5_learn_X2_spell : okV (rh 4) RX5 wsX5_learn 64 RX2 yX2_spell wsX2_spell (rh 1) 1 := ⟨_, _, _, _, gX5_learn_X2_spell, rfl, rfl, rfl, by decide +kernel, by decide⟩
theorem oX5_learn_X5_learnNext : okV (rh 4) RX5 wsX5_learn 67 RX5 yX5_learnNext wsX5_learnNext (rh 3) 0 := ⟨_, _, _, _, gX5_learn_X5_learnNext, rfl, rfl, rfl, by decide +kernel, by decide⟩
theorem oX5_pair_X4_isLearned : okV (rh 1) RX5 wsX5_pair 74 RX4 yX4_isLearned wsX4_isLearned (rh 0) 1 := ⟨_, _, _, _, gX5_pair_X4_isLearned, rfl, rfl, rfl, by decide +kernel, by decide⟩
theorem oX5_count_X4_isLearned : okV (rh 1) RX5 wsX5_count 74 RX4 yX4_isLearned wsX4_isLearned (rh 0) 1 := ⟨_, _, _, _, gX5_count_X4_isLearned, rfl, rfl, rfl, by decide +kernel, by decide⟩
theorem oX5_size_X4_isToken : okV (rh 2) RX5 wsX5_size 86 RX4 yX4_isToken wsX4_isToken (rh 0) 1 := ⟨_, _, _, _, gX5_size_X4_isToken, rfl, rfl, rfl, by decide +kernel, by decide⟩
theorem oX5_size_X4_sizeOf : okV (rh 2) RX5 wsX5_size 89 RX4 yX4_sizeOf wsX4_sizeOf (rh 1) 1 := ⟨_, _, _, _, gX5_size_X4_sizeOf, rfl, rfl, rfl, by decide +kernel, by decide⟩
theorem oX5_decode_X4_isToken : okV (rh 2) RX5 wsX5_decode 86 RX4 yX4_isToken wsX4_isToken (rh 0) 1 := ⟨_, _, _, _, gX5_decode_X4_isToken, rfl, rfl, rfl, by decide +kernel, by decide⟩
theorem oX5_decode_X4_sizeOf : okV (rh 2) RX5 wsX5_decode 89 RX4 yX4_sizeOf wsX4_sizeOf (rh 1) 1 := ⟨_, _, _, _, gX5_decode_X4_sizeOf, rfl, rfl, rfl, by decide +kernel, by decide⟩
theorem oX5_decode_X4_byteOf : okV (rh 2) RX5 wsX5_decode 100 RX4 yX4_byteOf wsX4_byteOf (rh 1) 2 := ⟨_, _, _, _, gX5_decode_X4_byteOf, rfl, rfl, rfl, by decide +kernel, by decide⟩
theorem oX5_tokens_X5_tellText : okV (rh 3) RX5 wsX5_tokens 104 RX5 yX5_tellText wsX5_tellText (rh 2) 0 := ⟨_, _, _, _, gX5_tokens_X5_tellText, rfl, rfl, rfl, by decide +kernel, by decide⟩
theorem oX5_at_X5_tellText : okV (rh 3) RX5 wsX5_at 104 RX5 yX5_tellText wsX5_tellText (rh 2) 0 := ⟨_, _, _, _, gX5_at_X5_tellText, rfl, rfl, rfl, by decide +kernel, by decide⟩
theorem oX5_from_X5_tellText : okV (rh 3) RX5 wsX5_from 104 RX5 yX5_tellText wsX5_tellText (rh 2) 0 := ⟨_, _, _, _, gX5_from_X5_tellText, rfl, rfl, rfl, by decide +kernel, by decide⟩
theorem oX5_points_X4_isToken : okV (rh 1) RX5 wsX5_points 86 RX4 yX4_isToken wsX4_isToken (rh 0) 1 := ⟨_, _, _, _, gX5_points_X4_isToken, rfl, rfl, rfl, by decide +kernel, by decide⟩
theorem oX5_best_X0_weigh : okV (rh 4) RX5 wsX5_best 117 RX0 yX0_weigh wsX0_weigh (rh 3) 2 := ⟨_, _, _, _, gX5_best_X0_weigh, rfl, rfl, rfl, by decide +kernel, by decide⟩
theorem oX5_bestAt_X0_weigh : okV (rh 4) RX5 wsX5_bestAt 117 RX0 yX0_weigh wsX0_weigh (rh 3) 2 := ⟨_, _, _, _, gX5_bestAt_X0_weigh, rfl, rfl, rfl, by decide +kernel, by decide⟩
theorem oX5_bestAt_X0_chosenAfter : okV (rh 4) RX5 wsX5_bestAt 124 RX0 yX0_chosenAfter wsX0_chosenAfter (rh 2) 2 := ⟨_, _, _, _, gX5_bestAt_X0_chosenAfter, rfl, rfl, rfl, by decide +kernel, by decide⟩
theorem oX5_sum_X0_weigh : okV (rh 4) RX5 wsX5_sum 117 RX0 yX0_weigh wsX0_weigh (rh 3) 2 := ⟨_, _, _, _, gX5_sum_X0_weigh, rfl, rfl, rfl, by decide +kernel, by decide⟩
theorem oX5_ways_X0_weigh : okV (rh 4) RX5 wsX5_ways 117 RX0 yX0_weigh wsX0_weigh (rh 3) 2 := ⟨_, _, _, _, gX5_ways_X0_weigh, rfl, rfl, rfl, by decide +kernel, by decide⟩
theorem oX5_learnNext_X1_countPairs : okV (rh 3) RX5 wsX5_learnNext 134 RX1 yX1_countPairs wsX1_countPairs (rh 1) 1 := ⟨_, _, _, _, gX5_learnNext_X1_countPairs, rfl, rfl, rfl, by decide +kernel, by decide⟩
theorem oX5_learnNext_X1_mostFrequent : okV (rh 3) RX5 wsX5_learnNext 138 RX1 yX1_mostFrequent wsX1_mostFrequent (rh 1) 0 := ⟨_, _, _, _, gX5_learnNext_X1_mostFrequent, rfl, rfl, rfl, by decide +kernel, by decide⟩
theorem oX5_learnNext_X4_add : okV (rh 3) RX5 wsX5_learnNext 149 RX4 yX4_add wsX4_add (rh 2) 4 := ⟨_, _, _, _, gX5_learnNext_X4_add, rfl, rfl, rfl, by decide +kernel, by decide⟩
theorem oX5_learnNext_X2_merge : okV (rh 3) RX5 wsX5_learnNext 153 RX2 yX2_merge wsX2_merge (rh 1) 3 := ⟨_, _, _, _, gX5_learnNext_X2_merge, rfl, rfl, rfl, by decide +kernel, by decide⟩
theorem oX5_tellText_X2_spell : okV (rh 2) RX5 wsX5_tellText 64 RX2 yX2_spell wsX2_spell (rh 1) 1 := ⟨_, _, _, _, gX5_tellText_X2_spell, rfl, rfl, rfl, by decide +kernel, by decide⟩
theorem oX5_tellText_X2_merge : okV (rh 2) RX5 wsX5_tellText 153 RX2 yX2_merge wsX2_merge (rh 1) 3 := ⟨_, _, _, _, gX5_tellText_X2_merge, rfl, rfl, rfl, by decide +kernel, by decide⟩
theorem oX6_octet_X6_in : okS (rh 1) RX6 wsX6_octet 53 yX6_in wsX6_in (rh 0) 3 := ⟨_, _, _, _, gX6_octet_X6_in, rfl, rfl, rfl, by decide +kernel, by decide⟩
theorem oX6_cut_X6_in : okS (rh 1) RX6 wsX6_cut 53 yX6_in wsX6_in (rh 0) 3 := ⟨_, _, _, _, gX6_cut_X6_in, rfl, rfl, rfl, by decide +kernel, by decide⟩
theorem oX6_byteAt_X6_in : okS (rh 1) RX6 wsX6_byteAt 53 yX6_in wsX6_in (rh 0) 3 := ⟨_, _, _, _, gX6_byteAt_X6_in, rfl, rfl, rfl, by decide +kernel, by decide⟩
theorem oX6_words_X6_beginsWord : okV (rh 1) RX6 wsX6_words 60 RX6 yX6_beginsWord wsX6_beginsWord (rh 0) 1 := ⟨_, _, _, _, gX6_words_X6_beginsWord, rfl, rfl, rfl, by decide +kernel, by decide⟩
theorem oX6_isPair_X6_beginsWord : okV (rh 1) RX6 wsX6_isPair 60 RX6 yX6_beginsWord wsX6_beginsWord (rh 0) 1 := ⟨_, _, _, _, gX6_isPair_X6_beginsWord, rfl, rfl, rfl, by decide +kernel, by decide⟩
theorem oX6_join_X6_isPair : okV (rh 2) RX6 wsX6_join 67 RX6 yX6_isPair wsX6_isPair (rh 1) 3 := ⟨_, _, _, _, gX6_join_X6_isPair, rfl, rfl, rfl, by decide +kernel, by decide⟩
theorem oX6_keep_X6_sizeOf : okV (rh 1) RX6 wsX6_keep 73 RX6 yX6_sizeOf wsX6_sizeOf (rh 0) 1 := ⟨_, _, _, _, gX6_keep_X6_sizeOf, rfl, rfl, rfl, by decide +kernel, by decide⟩
theorem oX6_keep_X6_byteOf : okV (rh 1) RX6 wsX6_keep 77 RX6 yX6_byteOf wsX6_byteOf (rh 0) 2 := ⟨_, _, _, _, gX6_keep_X6_byteOf, rfl, rfl, rfl, by decide +kernel, by decide⟩
theorem oX6_countOf_X6_isPair : okV (rh 2) RX6 wsX6_countOf 67 RX6 yX6_isPair wsX6_isPair (rh 1) 3 := ⟨_, _, _, _, gX6_countOf_X6_isPair, rfl, rfl, rfl, by decide +kernel, by decide⟩
theorem oX6_learn_X6_in : okS (rh 3) RX6 wsX6_learn 53 yX6_in wsX6_in (rh 0) 3 := ⟨_, _, _, _, gX6_learn_X6_in, rfl, rfl, rfl, by decide +kernel, by decide⟩
theorem oX6_learn_X6_layBytes : okV (rh 3) RX6 wsX6_learn 81 RX6 yX6_layBytes wsX6_layBytes (rh 0) 0 := ⟨_, _, _, _, gX6_learn_X6_layBytes, rfl, rfl, rfl, by decide +kernel, by decide⟩
theorem oX6_learn_X6_isPair : okV (rh 3) RX6 wsX6_learn 67 RX6 yX6_isPair wsX6_isPair (rh 1) 3 := ⟨_, _, _, _, gX6_learn_X6_isPair, rfl, rfl, rfl, by decide +kernel, by decide⟩
theorem oX6_learn_X6_countOf : okV (rh 3) RX6 wsX6_learn 84 RX6 yX6_countOf wsX6_countOf (rh 2) 2 := ⟨_, _, _, _, gX6_learn_X6_countOf, rfl, rfl, rfl, by decide +kernel, by decide⟩
theorem oX6_learn_X6_keep : okV (rh 3) RX6 wsX6_learn 87 RX6 yX6_keep wsX6_keep (rh 1) 3 := ⟨_, _, _, _, gX6_learn_X6_keep, rfl, rfl, rfl, by decide +kernel, by decide⟩
theorem oX6_learn_X6_join : okV (rh 3) RX6 wsX6_learn 91 RX6 yX6_join wsX6_join (rh 2) 3 := ⟨_, _, _, _, gX6_learn_X6_join, rfl, rfl, rfl, by decide +kernel, by decide⟩
theorem oX6_isLearned_X6_in : okS (rh 1) RX6 wsX6_isLearned 53 yX6_in wsX6_in (rh 0) 3 := ⟨_, _, _, _, gX6_isLearned_X6_in, rfl, rfl, rfl, by decide +kernel, by decide⟩
theorem oX6_isToken_X6_in : okS (rh 1) RX6 wsX6_isToken 53 yX6_in wsX6_in (rh 0) 3 := ⟨_, _, _, _, gX6_isToken_X6_in, rfl, rfl, rfl, by decide +kernel, by decide⟩
theorem oX6_pair_X6_isLearned : okV (rh 2) RX6 wsX6_pair 94 RX6 yX6_isLearned wsX6_isLearned (rh 1) 1 := ⟨_, _, _, _, gX6_pair_X6_isLearned, rfl, rfl, rfl, by decide +kernel, by decide⟩
theorem oX6_count_X6_isLearned : okV (rh 2) RX6 wsX6_count 94 RX6 yX6_isLearned wsX6_isLearned (rh 1) 1 := ⟨_, _, _, _, gX6_count_X6_isLearned, rfl, rfl, rfl, by decide +kernel, by decide⟩
theorem oX6_size_X6_isToken : okV (rh 2) RX6 wsX6_size 97 RX6 yX6_isToken wsX6_isToken (rh 1) 1 := ⟨_, _, _, _, gX6_size_X6_isToken, rfl, rfl, rfl, by decide +kernel, by decide⟩
theorem oX6_size_X6_sizeOf : okV (rh 2) RX6 wsX6_size 73 RX6 yX6_sizeOf wsX6_sizeOf (rh 0) 1 := ⟨_, _, _, _, gX6_size_X6_sizeOf, rfl, rfl, rfl, by decide +kernel, by decide⟩
theorem oX6_decode_X6_isToken : okV (rh 2) RX6 wsX6_decode 97 RX6 yX6_isToken wsX6_isToken (rh 1) 1 := ⟨_, _, _, _, gX6_decode_X6_isToken, rfl, rfl, rfl, by decide +kernel, by decide⟩
theorem oX6_decode_X6_sizeOf : okV (rh 2) RX6 wsX6_decode 73 RX6 yX6_sizeOf wsX6_sizeOf (rh 0) 1 := ⟨_, _, _, _, gX6_decode_X6_sizeOf, rfl, rfl, rfl, by decide +kernel, by decide⟩
theorem oX6_decode_X6_in : okS (rh 2) RX6 wsX6_decode 53 yX6_in wsX6_in (rh 0) 3 := ⟨_, _, _, _, gX6_decode_X6_in, rfl, rfl, rfl, by decide +kernel, by decide⟩
theorem oX6_decode_X6_byteOf : okV (rh 2) RX6 wsX6_decode 77 RX6 yX6_byteOf wsX6_byteOf (rh 0) 2 := ⟨_, _, _, _, gX6_decode_X6_byteOf, rfl, rfl, rfl, by decide +kernel, by decide⟩
theorem oX6_tell_X6_layBytes : okV (rh 3) RX6 wsX6_tell 81 RX6 yX6_layBytes wsX6_layBytes (rh 0) 0 := ⟨_, _, _, _, gX6_tell_X6_layBytes, rfl, rfl, rfl, by decide +kernel, by decide⟩
theorem oX6_tell_X6_join : okV (rh 3) RX6 wsX6_tell 91 RX6 yX6_join wsX6_join (rh 2) 3 := ⟨_, _, _, _, gX6_tell_X6_join, rfl, rfl, rfl, by decide +kernel, by decide⟩
theorem oX6_tokens_X6_tell : okV (rh 4) RX6 wsX6_tokens 100 RX6 yX6_tell wsX6_tell (rh 3) 0 := ⟨_, _, _, _, gX6_tokens_X6_tell, rfl, rfl, rfl, by decide +kernel, by decide⟩
theorem oX6_at_X6_tell : okV (rh 4) RX6 wsX6_at 100 RX6 yX6_tell wsX6_tell (rh 3) 0 := ⟨_, _, _, _, gX6_at_X6_tell, rfl, rfl, rfl, by decide +kernel, by decide⟩
theorem oX6_at_X6_in : okS (rh 4) RX6 wsX6_at 53 yX6_in wsX6_in (rh 0) 3 := ⟨_, _, _, _, gX6_at_X6_in, rfl, rfl, rfl, by decide +kernel, by decide⟩
theorem oX6_from_X6_tell : okV (rh 4) RX6 wsX6_from 100 RX6 yX6_tell wsX6_tell (rh 3) 0 := ⟨_, _, _, _, gX6_from_X6_tell, rfl, rfl, rfl, by decide +kernel, by decide⟩
theorem oX6_from_X6_in : okS (rh 4) RX6 wsX6_from 53 yX6_in wsX6_in (rh 0) 3 := ⟨_, _, _, _, gX6_from_X6_in, rfl, rfl, rfl, by decide +kernel, by decide⟩
theorem oX6_points_X6_isToken : okV (rh 2) RX6 wsX6_points 97 RX6 yX6_isToken wsX6_isToken (rh 1) 1 := ⟨_, _, _, _, gX6_points_X6_isToken, rfl, rfl, rfl, by decide +kernel, by decide⟩
theorem oX6_points_X6_in : okS (rh 2) RX6 wsX6_points 53 yX6_in wsX6_in (rh 0) 3 := ⟨_, _, _, _, gX6_points_X6_in, rfl, rfl, rfl, by decide +kernel, by decide⟩
theorem oX6_fits_X6_sizeOf : okV (rh 1) RX6 wsX6_fits 73 RX6 yX6_sizeOf wsX6_sizeOf (rh 0) 1 := ⟨_, _, _, _, gX6_fits_X6_sizeOf, rfl, rfl, rfl, by decide +kernel, by decide⟩
theorem oX6_fits_X6_byteOf : okV (rh 1) RX6 wsX6_fits 77 RX6 yX6_byteOf wsX6_byteOf (rh 0) 2 := ⟨_, _, _, _, gX6_fits_X6_byteOf, rfl, rfl, rfl, by decide +kernel, by decide⟩
theorem oX6_fits_X6_beginsWord : okV (rh 1) RX6 wsX6_fits 60 RX6 yX6_beginsWord wsX6_beginsWord (rh 0) 1 := ⟨_, _, _, _, gX6_fits_X6_beginsWord, rfl, rfl, rfl, by decide +kernel, by decide⟩
theorem oX6_come_X6_sizeOf : okV (rh 1) RX6 wsX6_come 73 RX6 yX6_sizeOf wsX6_sizeOf (rh 0) 1 := ⟨_, _, _, _, gX6_come_X6_sizeOf, rfl, rfl, rfl, by decide +kernel, by decide⟩
theorem oX6_come_X6_isBefore : okV (rh 1) RX6 wsX6_come 104 RX6 yX6_isBefore wsX6_isBefore (rh 0) 3 := ⟨_, _, _, _, gX6_come_X6_isBefore, rfl, rfl, rfl, by decide +kernel, by decide⟩
theorem oX6_findBest_X6_come : okV (rh 2) RX6 wsX6_findBest 107 RX6 yX6_come wsX6_come (rh 1) 2 := ⟨_, _, _, _, gX6_findBest_X6_come, rfl, rfl, rfl, by decide +kernel, by decide⟩
theorem oX6_findBest_X6_fits : okV (rh 2) RX6 wsX6_findBest 111 RX6 yX6_fits wsX6_fits (rh 1) 2 := ⟨_, _, _, _, gX6_findBest_X6_fits, rfl, rfl, rfl, by decide +kernel, by decide⟩
theorem oX6_best_X6_findBest : okV (rh 3) RX6 wsX6_best 115 RX6 yX6_findBest wsX6_findBest (rh 2) 0 := ⟨_, _, _, _, gX6_best_X6_findBest, rfl, rfl, rfl, by decide +kernel, by decide⟩
theorem oX6_bestAt_X6_findBest : okV (rh 3) RX6 wsX6_bestAt 115 RX6 yX6_findBest wsX6_findBest (rh 2) 0 := ⟨_, _, _, _, gX6_bestAt_X6_findBest, rfl, rfl, rfl, by decide +kernel, by decide⟩
theorem oX6_bestAt_X6_in : okS (rh 3) RX6 wsX6_bestAt 53 yX6_in wsX6_in (rh 0) 3 := ⟨_, _, _, _, gX6_bestAt_X6_in, rfl, rfl, rfl, by decide +kernel, by decide⟩
theorem oX6_sum_X6_findBest : okV (rh 3) RX6 wsX6_sum 115 RX6 yX6_findBest wsX6_findBest (rh 2) 0 := ⟨_, _, _, _, gX6_sum_X6_findBest, rfl, rfl, rfl, by decide +kernel, by decide⟩
theorem oX6_ways_X6_findBest : okV (rh 3) RX6 wsX6_ways 115 RX6 yX6_findBest wsX6_findBest (rh 2) 0 := ⟨_, _, _, _, gX6_ways_X6_findBest, rfl, rfl, rfl, by decide +kernel, by decide⟩
end
section
def rng (σ : St) : Prop := ∀ j i, inR (σ j i)
theorem stu_s (σ : St) (j i : Nat) (v : Int) : stu σ j i v j i = v := by simp [stu, va_up]
theorem stu_j (σ : St) {j a : Nat} (i : Nat) (v : Int) (h : a ≠ j) : stu σ j i v a = σ a := by simp [stu, va_up, h]
theorem stu_i (σ : St) (j : Nat) {i b : Nat} (v : Int) (h : b ≠ i) : stu σ j i v j b = σ j b := by simp [stu, va_up, h]
theorem rng_stu {σ : St} (h : rng σ) {v : Int} (hv : inR v) (j i : Nat) : rng (stu σ j i v) := by
  intro a b
  by_cases hj : a = j
  · subst hj
    by_cases hi : b = i
    · subst hi
      rw [stu_s]
      exact hv
    · rw [stu_i _ _ _ hi]
      exact h _ _
  · rw [stu_j _ _ _ hj]
    exact h _ _
noncomputable def b01 (P : Prop) : Int := @ite _ P (Classical.propDecidable P) 1 0
theorem b01_t {P : Prop} (h : P) : b01 P = 1 := by unfold b01; rw [if_pos h]
theorem b01_f {P : Prop} (h : ¬ P) : b01 P = 0 := by unfold b01; rw [if_neg h]
theorem b01_0 {P : Prop} : b01 P = 0 ↔ ¬ P := by
  by_cases h : P
  · rw [b01_t h]; simp [h]
  · rw [b01_f h]; simp [h]
theorem b01_z (P : Prop) : b01 P = 0 ∨ b01 P = 1 := by
  by_cases h : P
  · exact Or.inr (b01_t h)
  · exact Or.inl (b01_f h)
theorem b01_r (P : Prop) : inR (b01 P) := inR_z (b01_z P)
theorem b01_c {P Q : Prop} (h : P ↔ Q) : b01 P = b01 Q := by rw [propext h]
def kC (σ : St) : Prop := rng σ ∧ 0 ≤ σ 1 1 ∧ σ 1 1 ≤ 120 ∧ 0 ≤ σ 2 5 ∧ σ 2 5 ≤ 32
def isL (σ : St) (t : Int) : Prop := 256 ≤ t ∧ t < 256 + σ 2 5
def bwP (t : Nat → Int) (n a : Int) : Prop := 0 ≤ a ∧ a < n ∧ (a = 0 ∨ (t a.toNat = 32 ∧ t (a - 1).toNat ≠ 32))
section CC
variable {l : Launch} {D : va_G} {cA : Nat → ClassId} {ad : Nat → Nat} {σ : St}
theorem c_X3_beginsWord {a : Int} (ha : inR a) (hk : kC σ) : Ci l yX3_beginsWord wsX3_beginsWord (rh 0) D cA ad LC [.inl 1, .inr a] σ (fun r τ => τ = σ ∧ r = b01 (bwP (σ 6) (σ 1 1) a)) := by
  obtain ⟨hr, hn0, hn, -, -⟩ := hk
  refine Ci.walkZ fX3_beginsWord pX3_beginsWord [] (by decide) rfl LC_ok tX3_beginsWord_ok fX3_beginsWord_ok pX3_beginsWord_ok klOk_0 (Nat.le_of_ble_eq_true rfl) (fun V M ret => ?_)
  refine M.1 [13, 47] 60 _ ?_
  refine ⟨ha, fun c1 => ?_, fun c1 => ?_⟩
  · exact ret rfl (Or.inl rfl) ⟨rfl, by rw [b01_f]; unfold bwP; omega⟩
  · refine ⟨⟨ha, hr 1 1⟩, fun c2 => ?_, fun c2 => ?_⟩
    · refine ⟨ha, fun c3 => ?_, fun c3 => ?_⟩
      · exact ret rfl (Or.inr rfl) ⟨rfl, by rw [b01_t]; unfold bwP; omega⟩
      · refine ⟨⟨by omega, by omega⟩, ⟨hr _ _, by constructor <;> decide⟩, fun c4 => ?_, fun c4 => ?_⟩
        · exact ret rfl (Or.inl rfl) ⟨rfl, by rw [b01_f]; unfold bwP; omega⟩
        · refine ⟨⟨by omega, by omega⟩, ⟨hr _ _, by constructor <;> decide⟩, fun c5 => ?_, fun c5 => ?_⟩
          · exact ret rfl (Or.inl rfl) ⟨rfl, by rw [b01_f]; unfold bwP; omega⟩
          · exact ret rfl (Or.inr rfl) ⟨rfl, by rw [b01_t]; unfold bwP; omega⟩
    · exact ret rfl (Or.inl rfl) ⟨rfl, by rw [b01_f]; unfold bwP; omega⟩
theorem c_X3_append {a : Int} (hk : kC σ) (h : σ 1 1 < 120) : Cv l yX3_append wsX3_append (rh 0) D cA ad LC [.inl 1, .inr a] σ (fun τ => τ = stu (stu σ 6 (σ 1 1).toNat a) 1 1 (σ 1 1 + 1)) := by
  obtain ⟨hr, hn0, hn, -, -⟩ := hk
  refine Cv.walk fX3_append pX3_append [] (by decide) rfl LC_ok tX3_append_ok fX3_append_ok pX3_append_ok klOk_0 (Nat.le_of_ble_eq_true rfl) (fun V M ret => ?_)
  refine M.1 [29] 60 _ ?_
  refine ⟨⟨hr _ _, by constructor <;> decide⟩, fun c1 => absurd c1 (by omega), fun c1 => ?_⟩
  refine ⟨⟨hn0, h⟩, ?_⟩
  exact ret rfl rfl
theorem c_X4_isToken {t : Int} (ht : inR t) (hk : kC σ) : Ci l yX4_isToken wsX4_isToken (rh 0) D cA ad LC [.inl 2, .inr t] σ (fun r τ => τ = σ ∧ r = b01 (0 ≤ t ∧ t < 256 + σ 2 5)) := by
  obtain ⟨hr, -, -, hl0, hl⟩ := hk
  refine Ci.walkZ fX4_isToken pX4_isToken [] (by decide) rfl LC_ok tX4_isToken_ok fX4_isToken_ok pX4_isToken_ok klOk_0 (Nat.le_of_ble_eq_true rfl) (fun V M ret => ?_)
  refine M.1 [21] 60 _ ?_
  refine ⟨ht, fun c1 => ?_, fun c1 => ?_⟩
  · exact ret rfl (Or.inl rfl) ⟨rfl, by rw [b01_f]; omega⟩
  · refine ⟨⟨ht, by unfold inR; omega⟩, fun c2 => ?_, fun c2 => ?_⟩
    · exact ret rfl (Or.inl rfl) ⟨rfl, by rw [b01_f]; omega⟩
    · exact ret rfl (Or.inr rfl) ⟨rfl, by rw [b01_t]; omega⟩
theorem c_X4_isLearned {t : Int} (ht : inR t) (hk : kC σ) : Ci l yX4_isLearned wsX4_isLearned (rh 0) D cA ad LC [.inl 2, .inr t] σ (fun r τ => τ = σ ∧ r = b01 (isL σ t)) := by
  obtain ⟨hr, -, -, hl0, hl⟩ := hk
  refine Ci.walkZ fX4_isLearned pX4_isLearned [] (by decide) rfl LC_ok tX4_isLearned_ok fX4_isLearned_ok pX4_isLearned_ok klOk_0 (Nat.le_of_ble_eq_true rfl) (fun V M ret => ?_)
  refine M.1 [24] 60 _ ?_
  refine ⟨⟨ht, by constructor <;> decide⟩, fun c1 => ?_, fun c1 => ?_⟩
  · exact ret rfl (Or.inl rfl) ⟨rfl, by rw [b01_f]; unfold isL; omega⟩
  · refine ⟨⟨ht, by unfold inR; omega⟩, fun c2 => ?_, fun c2 => ?_⟩
    · exact ret rfl (Or.inl rfl) ⟨rfl, by rw [b01_f]; unfold isL; omega⟩
    · exact ret rfl (Or.inr rfl) ⟨rfl, by rw [b01_t]; unfold isL; omega⟩
noncomputable def szC (σ : St) (t : Int) : Int := @ite _ (isL σ t) (Classical.propDecidable _) (σ 10 (t - 256).toNat) 1
theorem szC_l {t : Int} (h : isL σ t) : szC σ t = σ 10 (t - 256).toNat := by unfold szC; rw [if_pos h]
theorem szC_b {t : Int} (h : ¬ isL σ t) : szC σ t = 1 := by unfold szC; rw [if_neg h]
theorem c_X4_sizeOf {t : Int} (ht : inR t) (hk : kC σ) : Ci l yX4_sizeOf wsX4_sizeOf (rh 1) D cA ad LC [.inl 2, .inr t] σ (fun r τ => τ = σ ∧ r = szC σ t) := by
  have hk' := hk
  obtain ⟨hr, -, -, hl0, hl⟩ := hk
  refine Ci.walk fX4_sizeOf pX4_sizeOf [] (by decide) rfl LC_ok tX4_sizeOf_ok fX4_sizeOf_ok pX4_sizeOf_ok klOk_0 (Nat.le_of_ble_eq_true rfl) (fun V M ret => ?_)
  refine M.1 [2] 60 _ ?_
  refine M.2.1 (vs := [.inr t]) (rest := []) rfl oX4_sizeOf_X4_isLearned rfl rfl (by decide) rfl (c_X4_isLearned ht hk') (fun r τ _ hp => ?_)
  obtain ⟨rfl, rfl⟩ := hp
  refine M.1 [22] 60 _ ?_
  refine ⟨b01_r _, fun c1 => ?_, fun c1 => ?_⟩
  · exact ret rfl (by constructor <;> decide) ⟨rfl, (szC_b (b01_0.mp c1)).symm⟩
  · have h1 : isL τ t := Classical.not_not.mp (fun h => c1 (b01_f h))
    have h2 := h1
    unfold isL at h2
    refine ⟨⟨by omega, by omega⟩, ?_⟩
    exact ret rfl (hr _ _) ⟨rfl, (szC_l h1).symm⟩
noncomputable def byC (σ : St) (t i : Int) : Int := @ite _ (isL σ t) (Classical.propDecidable _) (if 0 ≤ σ 13 (t - 256).toNat + i ∧ σ 13 (t - 256).toNat + i < 120 then σ 12 (σ 13 (t - 256).toNat + i).toNat else -1) t
theorem byC_b {t i : Int} (h : ¬ isL σ t) : byC σ t i = t := by unfold byC; rw [if_neg h]
theorem byC_l {t i : Int} (h : isL σ t) : byC σ t i = if 0 ≤ σ 13 (t - 256).toNat + i ∧ σ 13 (t - 256).toNat + i < 120 then σ 12 (σ 13 (t - 256).toNat + i).toNat else -1 := by unfold byC; rw [if_pos h]
theorem c_X4_byteOf {t i : Int} (ht : inR t) (hk : kC σ) (hi : isL σ t → inR (σ 13 (t - 256).toNat + i)) : Ci l yX4_byteOf wsX4_byteOf (rh 1) D cA ad LC [.inl 2, .inr t, .inr i] σ (fun r τ => τ = σ ∧ r = byC σ t i) := by
  have hk' := hk
  obtain ⟨hr, -, -, hl0, hl⟩ := hk
  refine Ci.walk fX4_byteOf pX4_byteOf [] (by decide) rfl LC_ok tX4_byteOf_ok fX4_byteOf_ok pX4_byteOf_ok klOk_0 (Nat.le_of_ble_eq_true rfl) (fun V M ret => ?_)
  refine M.1 [2] 60 _ ?_
  refine M.2.1 (vs := [.inr t]) (rest := []) rfl oX4_byteOf_X4_isLearned rfl rfl (by decide) rfl (c_X4_isLearned ht hk') (fun r τ _ hp => ?_)
  obtain ⟨rfl, rfl⟩ := hp
  refine M.1 [9, 43] 60 _ ?_
  refine ⟨b01_r _, fun c1 => ?_, fun c1 => ?_⟩
  · have h1 : isL τ t := Classical.not_not.mp (fun h => c1 (b01_f h))
    have h2 := h1
    unfold isL at h2
    refine ⟨⟨by omega, by omega⟩, ?_⟩
    refine ⟨hi h1, fun c2 => ?_, fun c2 => ?_⟩
    · exact ret rfl (by constructor <;> decide) ⟨rfl, by rw [byC_l h1, if_neg (by omega)]⟩
    · refine ⟨⟨hi h1, by constructor <;> decide⟩, fun c3 => ?_, fun c3 => ?_⟩
      · exact ret rfl (by constructor <;> decide) ⟨rfl, by rw [byC_l h1, if_neg (by omega)]⟩
      · refine ⟨⟨by omega, by omega⟩, ?_⟩
        exact ret rfl (hr _ _) ⟨rfl, by rw [byC_l h1, if_pos (by omega)]⟩
  · exact ret rfl ht ⟨rfl, (byC_b (b01_0.mp c1)).symm⟩
end CC
end
section
/-! rows of tokens: (token, where it begins) -/
abbrev Rw : Type := List (Int × Int)
def hold (f g : Nat → Int) : Nat → Rw → Prop
  | _, [] => True
  | i, q :: r => f i = q.1 ∧ g i = q.2 ∧ hold f g (i + 1) r
theorem hold_congr {f g f' g' : Nat → Int} : ∀ {r : Rw} {i : Nat}, (∀ j, i ≤ j → j < i + r.length → f' j = f j ∧ g' j = g j) → hold f g i r → hold f' g' i r
  | [], _, _, _ => trivial
  | q :: r, i, h, hh => by
    obtain ⟨h1, h2, h3⟩ := hh
    have e := h i (Nat.le_refl i) (by simp)
    refine ⟨by rw [e.1, h1], by rw [e.2, h2], hold_congr (fun j hj hj2 => h j (by omega) (by simp only [List.length_cons]; omega)) h3⟩
theorem hold_app {f g : Nat → Int} : ∀ {o s : Rw} {i : Nat}, hold f g i (o ++ s) ↔ hold f g i o ∧ hold f g (i + o.length) s
  | [], s, i => by simp [hold]
  | q :: o, s, i => by
    simp only [List.cons_append, hold, List.length_cons]
    rw [hold_app (o := o) (s := s) (i := i + 1), show i + (o.length + 1) = i + 1 + o.length by omega]
    constructor
    · rintro ⟨a, b, c, d⟩
      exact ⟨⟨a, b, c⟩, d⟩
    · rintro ⟨⟨a, b, c⟩, d⟩
      exact ⟨a, b, c, d⟩
theorem hold_at {f g : Nat → Int} : ∀ {r : Rw} {i j : Nat} {q : Int × Int}, hold f g i r → r[j]? = some q → f (i + j) = q.1 ∧ g (i + j) = q.2
  | [], _, _, _, _, hq => by simp at hq
  | a :: r, i, 0, q, h, hq => by
    have e : a = q := by simpa using hq
    subst e
    exact ⟨h.1, h.2.1⟩
  | a :: r, i, j + 1, q, h, hq => by
    have hq' : r[j]? = some q := by simpa using hq
    have := hold_at h.2.2 hq'
    rw [show i + 1 + j = i + (j + 1) by omega] at this
    exact this
/-- the pair a b becomes t, from the left on; w q = 0: no word begins at q -/
def mrg (w : Int → Int) (a b t : Int) : Rw → Rw
  | [] => []
  | [q] => [q]
  | q :: q2 :: r => if q.1 = a ∧ q2.1 = b ∧ w q2.2 = 0 then (t, q.2) :: mrg w a b t r else q :: mrg w a b t (q2 :: r)
def eqx (js : List Nat) (σ τ : St) : Prop := ∀ j, j ∉ js → τ j = σ j
theorem eqx_rfl {js : List Nat} {σ : St} : eqx js σ σ := fun _ _ => rfl
theorem eqx_stu {js : List Nat} {σ τ : St} (h : eqx js σ τ) {j : Nat} (hj : j ∈ js) (i : Nat) (v : Int) : eqx js σ (stu τ j i v) := fun a ha => by
  rw [stu_j _ _ _ (fun e => ha (by rw [e]; exact hj))]
  exact h a ha
theorem eqx_trans {js : List Nat} {σ τ υ : St} (h : eqx js σ τ) (h2 : eqx js τ υ) : eqx js σ υ := fun a ha => (h2 a ha).trans (h a ha)
theorem eqx_mono {js ks : List Nat} {σ τ : St} (h : eqx js σ τ) (hs : ∀ j ∈ js, j ∈ ks) : eqx ks σ τ := fun a ha => h a (fun q => ha (hs a q))
def rowC (σ : St) (w : Int → Int) (r : Rw) : Prop := σ 3 2 = r.length ∧ r.length ≤ 120 ∧ hold (σ 14) (σ 15) 0 r ∧ ∀ i : Nat, i < r.length → σ 16 i = w (σ 15 i)
def lpick : List Nat → List (Nat × aV) → List (Nat × aV)
  | [], _ => []
  | k :: ks, lv => match lget k lv with
    | some v => (k, v) :: lpick ks lv
    | none => lpick ks lv
theorem lpick_mem : ∀ (ks : List Nat) {lv : List (Nat × aV)}, ∀ q ∈ lpick ks lv, q ∈ lv
  | [], lv, q, h => by simp [lpick] at h
  | k :: ks, lv, q, h => by
    unfold lpick at h
    split at h
    · rename_i v hv
      rcases List.mem_cons.mp h with rfl | h2
      · exact lget_mem hv
      · exact lpick_mem ks q h2
    · exact lpick_mem ks q h
end
section
section CR
variable {l : Launch} {D : va_G} {cA : Nat → ClassId} {ad : Nat → Nat} {σ : St}
theorem c_X2_hasNext {a : Int} (ha : inR a) (hk : kC σ) (h0 : 0 ≤ σ 3 2) (h1 : σ 3 2 ≤ 120) : Ci l yX2_hasNext wsX2_hasNext (rh 0) D cA ad LC [.inl 3, .inr a] σ (fun r τ => τ = σ ∧ r = b01 (0 ≤ a ∧ a + 1 < σ 3 2 ∧ σ 16 (a + 1).toNat = 0)) := by
  obtain ⟨hr, hn0, hn, -, -⟩ := hk
  refine Ci.walkZ fX2_hasNext pX2_hasNext [] (by decide) rfl LC_ok tX2_hasNext_ok fX2_hasNext_ok pX2_hasNext_ok klOk_0 (Nat.le_of_ble_eq_true rfl) (fun V M ret => ?_)
  refine M.1 [30] 60 _ ?_
  refine ⟨ha, fun c1 => ?_, fun c1 => ?_⟩
  · exact ret rfl (Or.inl rfl) ⟨rfl, by rw [b01_f]; omega⟩
  · refine ⟨⟨ha, by unfold inR; omega⟩, fun c2 => ?_, fun c2 => ?_⟩
    · exact ret rfl (Or.inl rfl) ⟨rfl, by rw [b01_f]; omega⟩
    · refine ⟨⟨by omega, by omega⟩, hr _ _, fun c3 => ?_, fun c3 => ?_⟩
      · exact ret rfl (Or.inl rfl) ⟨rfl, by rw [b01_f]; omega⟩
      · exact ret rfl (Or.inr rfl) ⟨rfl, by rw [b01_t]; omega⟩
def spl (f : Nat → Int) : Nat → Rw
  | 0 => []
  | n + 1 => spl f n ++ [(f n, (n : Int))]
theorem spl_len (f : Nat → Int) : ∀ n, (spl f n).length = n
  | 0 => rfl
  | n + 1 => by simp [spl, spl_len f n]
theorem hold_spl {f g h : Nat → Int} : ∀ {n : Nat}, (∀ j : Nat, j < n → f j = h j ∧ g j = (j : Int)) → hold f g 0 (spl h n)
  | 0, _ => trivial
  | n + 1, k => by
    unfold spl
    rw [hold_app, spl_len]
    refine ⟨hold_spl (fun j hj => k j (by omega)), ?_⟩
    have := k n (by omega)
    exact ⟨by rw [Nat.zero_add]; exact this.1, by rw [Nat.zero_add]; exact this.2, trivial⟩
theorem c_X2_spell (hk : kC σ) : Cv l yX2_spell wsX2_spell (rh 1) D cA ad LC [.inl 3, .inl 1] σ (fun τ => rng τ ∧ eqx [3, 14, 15, 16] σ τ ∧ rowC τ (fun p => b01 (bwP (σ 6) (σ 1 1) p)) (spl (σ 6) (σ 1 1).toNat)) := by
  have hk' := hk
  obtain ⟨hr, hn0, hn, hl0, hl1⟩ := hk
  refine Cv.walk fX2_spell pX2_spell [] (by decide) rfl LC_ok tX2_spell_ok fX2_spell_ok pX2_spell_ok klOk_0 (Nat.le_of_ble_eq_true rfl) (fun V M ret => ?_)
  have loop : ∀ (d i : Nat) (τ : St), (i : Int) + d = σ 1 1 → rng τ → eqx [3, 14, 15, 16] σ τ → τ 3 2 = σ 1 1 → (∀ j : Nat, j < i → τ 14 j = σ 6 j ∧ τ 15 j = (j : Int) ∧ τ 16 j = b01 (bwP (σ 6) (σ 1 1) (j : Int))) → V (10, [(0, .inl 3), (1, .inl 1), (2, .inr (i : Int))], [], τ) := by
    intro d
    induction d with
    | zero =>
      intro i τ hi hrt hx h32 hw
      refine M.1 [54] 60 _ ?_
      refine ⟨⟨by unfold inR; omega, hrt _ _⟩, fun c1 => ?_, fun c1 => absurd c1 (by omega)⟩
      have e : (σ 1 1).toNat = i := by omega
      refine ret rfl ⟨hrt, hx, by rw [h32, spl_len]; omega, by rw [spl_len]; omega, by rw [e]; exact hold_spl (fun j hj => ⟨(hw j hj).1, (hw j hj).2.1⟩), fun j hj => ?_⟩
      rw [spl_len] at hj
      rw [(hw j (by omega)).2.1, (hw j (by omega)).2.2]
    | succ d ih =>
      intro i τ hi hrt hx h32 hw
      have e6 : τ 6 = σ 6 := hx 6 (by decide)
      have e1 : τ 1 = σ 1 := hx 1 (by decide)
      have e2 : τ 2 = σ 2 := hx 2 (by decide)
      refine M.1 [44] 60 _ ?_
      refine ⟨⟨by unfold inR; omega, hrt _ _⟩, fun c1 => absurd c1 (by omega), fun c1 => ?_⟩
      refine ⟨⟨by omega, by omega⟩, ⟨by omega, by omega⟩, ⟨by omega, by omega⟩, ?_⟩
      rw [show stu τ 14 (i : Int).toNat (τ 6 (i : Int).toNat) = stu τ 14 i (σ 6 i) by rw [e6, Int.toNat_natCast], Int.toNat_natCast]
      have hr1 : rng (stu (stu τ 14 i (σ 6 i)) 15 i (i : Int)) := rng_stu (rng_stu hrt (hr _ _) _ _) (by unfold inR; omega) _ _
      have f1 : stu (stu τ 14 i (σ 6 i)) 15 i (i : Int) 1 = σ 1 := by rw [stu_j _ _ _ (by decide), stu_j _ _ _ (by decide), e1]
      have f2 : stu (stu τ 14 i (σ 6 i)) 15 i (i : Int) 2 = σ 2 := by rw [stu_j _ _ _ (by decide), stu_j _ _ _ (by decide), e2]
      have f6 : stu (stu τ 14 i (σ 6 i)) 15 i (i : Int) 6 = σ 6 := by rw [stu_j _ _ _ (by decide), stu_j _ _ _ (by decide), e6]
      refine M.2.1 (vs := [.inr (i : Int)]) (rest := [.inr (i : Int), .inl 16]) rfl oX2_spell_X3_beginsWord rfl rfl (Nat.le_of_ble_eq_true rfl) rfl (c_X3_beginsWord (by unfold inR; omega) ⟨hr1, by rw [f1]; omega, by rw [f1]; omega, by rw [f2]; omega, by rw [f2]; omega⟩) (fun r υ _ hp => ?_)
      obtain ⟨rfl, rfl⟩ := hp
      rw [f1, f6]
      refine M.1 [10] 60 _ ?_
      refine ⟨⟨by omega, by omega, b01_z _⟩, ?_⟩
      rw [Int.toNat_natCast]
      refine ih (i + 1) _ (by omega) (rng_stu hr1 (b01_r _) _ _) (eqx_stu (eqx_stu (eqx_stu hx (by decide) _ _) (by decide) _ _) (by decide) _ _) (by simp [stu, va_up, h32]) (fun j hj => ?_)
      by_cases e : j = i
      · subst e
        simp [stu, va_up]
      · have := hw j (by omega)
        simp [stu, va_up, e, this]
  refine M.1 [10] 60 _ ?_
  refine loop (σ 1 1).toNat 0 _ (by omega) (rng_stu hr (hr _ _) _ _) (eqx_stu eqx_rfl (by decide) _ _) (stu_s _ _ _ _) (fun j hj => absurd hj (by omega))
end CR
end
section
section CR2
variable {l : Launch} {D : va_G} {cA : Nat → ClassId} {ad : Nat → Nat} {σ : St}
theorem mrg_1 (w : Int → Int) (a b t : Int) (q : Int × Int) : mrg w a b t [q] = [q] := rfl
theorem mrg_y {w : Int → Int} {a b t : Int} {q q2 : Int × Int} {r : Rw} (h : q.1 = a ∧ q2.1 = b ∧ w q2.2 = 0) : mrg w a b t (q :: q2 :: r) = (t, q.2) :: mrg w a b t r := by
  rw [mrg, if_pos h]
theorem mrg_n {w : Int → Int} {a b t : Int} {q q2 : Int × Int} {r : Rw} (h : ¬ (q.1 = a ∧ q2.1 = b ∧ w q2.2 = 0)) : mrg w a b t (q :: q2 :: r) = q :: mrg w a b t (q2 :: r) := by
  rw [mrg, if_neg h]
theorem c_X2_merge {a b t : Int} {w : Int → Int} {R : Rw} (ha : inR a) (hb : inR b) (ht : inR t) (hk : kC σ) (hw01 : ∀ p, w p = 0 ∨ w p = 1) (hR : rowC σ w R) : Cv l yX2_merge wsX2_merge (rh 1) D cA ad LC [.inl 3, .inr a, .inr b, .inr t] σ (fun τ => rng τ ∧ eqx [3, 14, 15, 16] σ τ ∧ rowC τ w (mrg w a b t R)) := by
  have hk' := hk
  obtain ⟨hr, hn0, hn, hl0, hl1⟩ := hk
  obtain ⟨hN, hN2, hh0, hw0⟩ := hR
  refine Cv.walk fX2_merge pX2_merge [] (by decide) rfl LC_ok tX2_merge_ok fX2_merge_ok pX2_merge_ok klOk_0 (Nat.le_of_ble_eq_true rfl) (fun V M ret => ?_)
  have loop : ∀ (d : Nat) (o s : Rw) (i k : Nat) (τ : St), s.length ≤ d → i + s.length = R.length → o.length = k → k ≤ i → rng τ → eqx [14, 15, 16] σ τ → hold (τ 14) (τ 15) 0 o → hold (τ 14) (τ 15) i s → (∀ j : Nat, j < k → τ 16 j = w (τ 15 j)) → (∀ j : Nat, i ≤ j → j < R.length → τ 16 j = w (τ 15 j)) → o ++ mrg w a b t s = mrg w a b t R → V (6, [(0, .inl 3), (1, .inr a), (2, .inr b), (3, .inr t), (4, .inr (k : Int)), (5, .inr (i : Int))], [], τ) := by
    intro d
    induction d with
    | zero =>
      intro o s i k τ hd hi ho hki hrt hx hho hhs hwo hws hm
      have e : s = [] := List.length_eq_zero_iff.mp (by omega)
      subst e
      have e3 : τ 3 = σ 3 := hx 3 (by decide)
      refine M.1 [129] 60 _ ?_
      refine ⟨⟨by unfold inR; omega, hrt _ _⟩, fun c1 => ?_, fun c1 => absurd c1 (by rw [e3]; simp at hi; omega)⟩
      simp only [mrg, List.append_nil] at hm
      refine ret rfl ⟨rng_stu hrt (by unfold inR; omega) _ _, eqx_stu (eqx_mono hx (by decide)) (by decide) _ _, ?_⟩
      refine ⟨by rw [stu_s, ← hm, ho], by rw [← hm]; omega, ?_, ?_⟩
      · rw [← hm, stu_j _ _ _ (by decide), stu_j _ _ _ (by decide)]
        exact hho
      · intro j hj
        rw [← hm, ho] at hj
        rw [stu_j _ _ _ (by decide), stu_j _ _ _ (by decide)]
        exact hwo j hj
    | succ d ih =>
      intro o s i k τ hd hi ho hki hrt hx hho hhs hwo hws hm
      have e3 : τ 3 = σ 3 := hx 3 (by decide)
      have e1 : τ 1 = σ 1 := hx 1 (by decide)
      have e2 : τ 2 = σ 2 := hx 2 (by decide)
      cases s with
      | nil => exact ih o [] i k τ (by simp) hi ho hki hrt hx hho hhs hwo hws hm
      | cons q s =>
      simp only [List.length_cons] at hi hd
      obtain ⟨hq1, hq2, hhs'⟩ := hhs
      have hwi : τ 16 i = 0 ∨ τ 16 i = 1 := by rw [hws i (Nat.le_refl _) (by omega)]; exact hw01 _
      have fin : ∀ (m x : Int) (s2 : Rw) (i2 : Nat), ((m = 1 ∧ x = t ∧ i2 = i + 2) ∨ (m = 0 ∧ x = q.1 ∧ i2 = i + 1)) → hold (τ 14) (τ 15) i2 s2 → i2 + s2.length = R.length → (o ++ [(x, q.2)]) ++ mrg w a b t s2 = mrg w a b t R → V (53, [(0, .inl 3), (1, .inr a), (2, .inr b), (3, .inr t), (4, .inr (k : Int)), (5, .inr (i : Int))], [.inr m], τ) := by
        intro m x s2 i2 hmx hh2 hl2 hm2
        have hxr : inR x := by
          rcases hmx with h | h
          · rw [h.2.1]; exact ht
          · rw [h.2.1, ← hq1]; exact hrt _ _
        have next : V (6, [(0, .inl 3), (1, .inr a), (2, .inr b), (3, .inr t), (4, .inr ((k + 1 : Nat) : Int)), (5, .inr (i2 : Int))], [], stu (stu (stu τ 14 k x) 15 k (τ 15 i)) 16 k (τ 16 i)) := by
          refine ih (o ++ [(x, q.2)]) s2 i2 (k + 1) _ (by omega) hl2 (by simp [ho]) (by omega) (rng_stu (rng_stu (rng_stu hrt hxr _ _) (hrt _ _) _ _) (hrt _ _) _ _) (eqx_stu (eqx_stu (eqx_stu hx (by decide) _ _) (by decide) _ _) (by decide) _ _) ?_ ?_ ?_ ?_ hm2
          · rw [hold_app]
            refine ⟨hold_congr (fun j h1 h2 => ?_) hho, ?_, ?_, trivial⟩
            · have e : j ≠ k := by omega
              simp [stu, va_up, e]
            · simp [stu, va_up, ho]
            · simp [stu, va_up, ho, hq2]
          · refine hold_congr (fun j h1 h2 => ?_) hh2
            have e : j ≠ k := by omega
            simp [stu, va_up, e]
          · intro j hj
            by_cases e : j = k
            · subst e
              simp [stu, va_up]
              exact hws i (Nat.le_refl _) (by omega)
            · simp [stu, va_up, e]
              exact hwo j (by omega)
          · intro j h1 h2
            have e : j ≠ k := by omega
            simp [stu, va_up, e]
            exact hws j (by omega) h2
        rcases hmx with ⟨rfl, rfl, rfl⟩ | ⟨rfl, rfl, rfl⟩
        · refine M.1 [6] 80 _ ?_
          refine ⟨by constructor <;> decide, fun c => absurd c (by decide), fun _ => ?_⟩
          refine ⟨⟨by omega, by omega⟩, ⟨by omega, by omega⟩, ⟨by omega, by omega⟩, ⟨by omega, by omega⟩, ⟨by omega, by omega, hwi⟩, by constructor <;> decide, fun c => absurd c (by decide), fun _ => ?_⟩
          exact M.2.2.2.2.2.1 _ (lpick_mem [0, 1, 2, 3, 4, 5]) next
        · refine M.1 [6] 80 _ ?_
          refine ⟨by constructor <;> decide, fun _ => ?_, fun c => absurd rfl c⟩
          refine ⟨⟨by omega, by omega⟩, ⟨by omega, by omega⟩, ⟨by omega, by omega⟩, ⟨by omega, by omega⟩, ⟨by omega, by omega⟩, ⟨by omega, by omega, hwi⟩, by constructor <;> decide, fun _ => ?_, fun c => absurd rfl c⟩
          rw [← hq1] at next
          exact M.2.2.2.2.2.1 _ (lpick_mem [0, 1, 2, 3, 4, 5]) next
      have no : (∀ q2 s2, s = q2 :: s2 → ¬ (q.1 = a ∧ q2.1 = b ∧ w q2.2 = 0)) → V (53, [(0, .inl 3), (1, .inr a), (2, .inr b), (3, .inr t), (4, .inr (k : Int)), (5, .inr (i : Int))], [.inr 0], τ) := by
        intro hno
        refine fin 0 q.1 s (i + 1) (Or.inr ⟨rfl, rfl, rfl⟩) hhs' (by omega) ?_
        rw [← hm]
        cases s with
        | nil => simp [mrg]
        | cons q2 s2 => rw [mrg_n (hno q2 s2 rfl)]; simp
      refine M.1 [29, 53] 60 _ ?_
      refine ⟨⟨by unfold inR; omega, hrt _ _⟩, fun c1 => absurd c1 (by rw [e3]; omega), fun c1 => ?_⟩
      refine ⟨⟨by omega, by omega⟩, ⟨hrt _ _, ha⟩, fun c2 => ?_, fun c2 => ?_⟩
      · refine no (fun q2 s2 _ h => c2 ?_)
        rw [Int.toNat_natCast, hq1]
        exact h.1
      · rw [Int.toNat_natCast, hq1] at c2
        refine M.2.1 (vs := [.inr (i : Int)]) (rest := []) rfl oX2_merge_X2_hasNext rfl rfl (Nat.le_of_ble_eq_true rfl) rfl (c_X2_hasNext (by unfold inR; omega) ⟨hrt, by rw [e1]; omega, by rw [e1]; omega, by rw [e2]; omega, by rw [e2]; omega⟩ (by rw [e3]; omega) (by rw [e3]; omega)) (fun r υ _ hp => ?_)
        obtain ⟨rfl, rfl⟩ := hp
        rw [e3, hN]
        refine M.1 [53] 60 _ ?_
        refine ⟨b01_r _, fun c3 => ?_, fun c3 => ?_⟩
        · refine no (fun q2 s2 e h => b01_0.mp c3 ?_)
          subst e
          simp only [List.length_cons] at hi
          refine ⟨by omega, by omega, ?_⟩
          rw [show ((i : Int) + 1).toNat = i + 1 by omega, hws (i + 1) (by omega) (by omega), hhs'.2.1]
          exact h.2.2
        · have h3 := Classical.not_not.mp (fun h => c3 (b01_f h))
          obtain ⟨-, h3, h4⟩ := h3
          rw [show ((i : Int) + 1).toNat = i + 1 by omega] at h4
          refine ⟨⟨by omega, by omega⟩, ⟨hrt _ _, hb⟩, fun c4 => ?_, fun c4 => ?_⟩
          · rw [show ((i : Int) + 1).toNat = i + 1 by omega] at c4
            refine no (fun q2 s2 e h => c4 ?_)
            subst e
            rw [hhs'.1]
            exact h.2.1
          · rw [show ((i : Int) + 1).toNat = i + 1 by omega] at c4
            cases s with
            | nil => simp at hi; omega
            | cons q2 s2 =>
              simp only [List.length_cons] at hi
              obtain ⟨hz1, hz2, hz3⟩ := hhs'
              refine fin 1 t s2 (i + 2) (Or.inl ⟨rfl, rfl, rfl⟩) hz3 (by omega) ?_
              rw [← hm, mrg_y ⟨c2, by rw [← hz1]; exact c4, by rw [← hz2, ← hws (i + 1) (by omega) (by omega)]; exact h4⟩]
              simp
  refine M.1 [6] 60 _ ?_
  exact loop R.length [] R 0 0 σ (Nat.le_refl _) (by simp) rfl (Nat.le_refl _) hr eqx_rfl trivial hh0 (fun j hj => absurd hj (by omega)) (fun j _ hj => hw0 j hj) rfl
end CR2
end
section
/-! the pairs of a row as keys, and the table that counts them -/
def prs (w : Int → Int) : Rw → List (Int × Int)
  | [] => []
  | [_] => []
  | q :: q2 :: r => if w q2.2 = 0 then (q.1 * 512 + q2.1, q.2) :: prs w (q2 :: r) else prs w (q2 :: r)
def cnt (κ : Int) : List (Int × Int) → Int
  | [] => 0
  | q :: r => (if q.1 = κ then 1 else 0) + cnt κ r
theorem cnt_app (κ : Int) : ∀ (a b : List (Int × Int)), cnt κ (a ++ b) = cnt κ a + cnt κ b
  | [], b => by simp [cnt]
  | q :: a, b => by simp only [List.cons_append, cnt, cnt_app κ a b]; omega
theorem cnt_nn (κ : Int) : ∀ (a : List (Int × Int)), 0 ≤ cnt κ a
  | [] => by simp [cnt]
  | q :: a => by
    have := cnt_nn κ a
    unfold cnt
    split <;> omega
theorem cnt_le (κ : Int) : ∀ (a : List (Int × Int)), cnt κ a ≤ a.length
  | [] => by simp [cnt]
  | q :: a => by
    have := cnt_le κ a
    unfold cnt
    simp only [List.length_cons]
    split <;> omega
theorem cnt_0 {κ : Int} : ∀ {a : List (Int × Int)}, (∀ q ∈ a, q.1 ≠ κ) → cnt κ a = 0
  | [], _ => rfl
  | q :: a, h => by
    unfold cnt
    rw [if_neg (h q List.mem_cons_self), cnt_0 (fun z hz => h z (List.mem_cons_of_mem _ hz))]
    rfl
def occ (c : Nat → Int) : Nat → Nat
  | 0 => 0
  | n + 1 => occ c n + (if 0 < c n then 1 else 0)
theorem occ_full {c : Nat → Int} : ∀ {n : Nat}, (∀ i, i < n → 0 < c i) → occ c n = n
  | 0, _ => rfl
  | n + 1, h => by
    unfold occ
    rw [occ_full (fun i hi => h i (by omega)), if_pos (h n (by omega))]
theorem occ_up (c : Nat → Int) (j : Nat) (v : Int) : ∀ n : Nat, occ (va_up c j v) n ≤ occ c n + (if j < n then 1 else 0)
  | 0 => by simp [occ]
  | n + 1 => by
    have := occ_up c j v n
    unfold occ
    by_cases e : n = j
    · subst e
      rw [va_up_self]
      simp at this
      split <;> split <;> split <;> omega
    · rw [va_up_ne _ _ e]
      split <;> split at this <;> split <;> omega
theorem occ_same {c : Nat → Int} {j : Nat} {v : Int} (h : 0 < c j) : ∀ n : Nat, occ (va_up c j v) n ≤ occ c n
  | 0 => by simp [occ]
  | n + 1 => by
    have := occ_same (v := v) h n
    unfold occ
    by_cases e : n = j
    · subst e
      rw [va_up_self, if_pos h]
      split <;> omega
    · rw [va_up_ne _ _ e]
      omega
def hN (κ : Int) : Nat := ((κ / 512) * 31 + κ % 512).toNat % 256
def HT (σ : St) (o : List (Int × Int)) : Prop :=
  (∀ i, i < 256 → 0 ≤ σ 18 i) ∧
  (∀ i, i < 256 → 0 < σ 18 i → σ 18 i = cnt (σ 17 i) o ∧ (σ 17 i, σ 19 i) ∈ o ∧ ∃ u, u < 256 ∧ i = (hN (σ 17 i) + u) % 256 ∧ ∀ v, v < u → 0 < σ 18 ((hN (σ 17 i) + v) % 256)) ∧
  (∀ i j, i < 256 → j < 256 → 0 < σ 18 i → 0 < σ 18 j → σ 17 i = σ 17 j → i = j) ∧
  (∀ q ∈ o, ∃ i, i < 256 ∧ 0 < σ 18 i ∧ σ 17 i = q.1) ∧
  occ (σ 18) 256 ≤ o.length
theorem HT_new {σ τ : St} {o : List (Int × Int)} {κ p : Int} {u i : Nat} (h : HT σ o) (hu : u < 256) (hi : i = (hN κ + u) % 256) (hpr : ∀ v, v < u → 0 < σ 18 ((hN κ + v) % 256) ∧ σ 17 ((hN κ + v) % 256) ≠ κ) (h0 : σ 18 i = 0) (h17 : τ 17 = va_up (σ 17) i κ) (h18 : τ 18 = va_up (σ 18) i 1) (h19 : τ 19 = va_up (σ 19) i p) : HT τ (o ++ [(κ, p)]) := by
  obtain ⟨a1, a2, a3, a4, a5⟩ := h
  have hi2 : i < 256 := by omega
  have fresh : ∀ q ∈ o, q.1 ≠ κ := by
    intro q hq e
    obtain ⟨j, hj, hj0, hjk⟩ := a4 q hq
    obtain ⟨-, -, x, hx, hjx, hxv⟩ := a2 j hj hj0
    rw [hjk, e] at hjx hxv
    rcases Nat.lt_trichotomy x u with hc | hc | hc
    · exact (hpr x hc).2 (by rw [← hjx, hjk, e])
    · subst hc
      rw [← hi] at hjx
      rw [hjx, h0] at hj0
      omega
    · have := hxv u hc
      rw [← hi, h0] at this
      omega
  refine ⟨?_, ?_, ?_, ?_, ?_⟩
  · intro j hj
    rw [h18]
    by_cases e : j = i
    · rw [e, va_up_self]; decide
    · rw [va_up_ne _ _ e]; exact a1 j hj
  · intro j hj hj0
    by_cases e : j = i
    · subst e
      rw [h17, h18, h19, va_up_self, va_up_self, va_up_self]
      refine ⟨by rw [cnt_app, cnt_0 fresh]; simp [cnt], List.mem_append_right _ List.mem_cons_self, u, hu, hi, fun v hv => ?_⟩
      by_cases e2 : (hN κ + v) % 256 = j
      · rw [e2, va_up_self]; decide
      · rw [va_up_ne _ _ e2]; exact (hpr v hv).1
    · rw [h18, va_up_ne _ _ e] at hj0
      obtain ⟨b1, b2, x, hx, hjx, hxv⟩ := a2 j hj hj0
      rw [h17, h18, h19, va_up_ne _ _ e, va_up_ne _ _ e, va_up_ne _ _ e]
      refine ⟨?_, List.mem_append_left _ b2, x, hx, hjx, fun v hv => ?_⟩
      · rw [cnt_app, b1]
        have : κ ≠ σ 17 j := fun z => fresh _ b2 z.symm
        simp [cnt, this]
      · by_cases e2 : (hN (σ 17 j) + v) % 256 = i
        · rw [e2, va_up_self]; decide
        · rw [va_up_ne _ _ e2]; exact hxv v hv
  · intro x y hx hy hx0 hy0 hxy
    rw [h18] at hx0 hy0
    rw [h17] at hxy
    by_cases ex : x = i
    · by_cases ey : y = i
      · rw [ex, ey]
      · rw [ex, va_up_self, va_up_ne _ _ ey] at hxy
        rw [va_up_ne _ _ ey] at hy0
        exact absurd hxy.symm (fresh _ (a2 y hy hy0).2.1)
    · rw [va_up_ne _ _ ex] at hx0 hxy
      by_cases ey : y = i
      · rw [ey, va_up_self] at hxy
        exact absurd hxy (fresh _ (a2 x hx hx0).2.1)
      · rw [va_up_ne _ _ ey] at hy0 hxy
        exact a3 x y hx hy hx0 hy0 hxy
  · intro q hq
    rcases List.mem_append.mp hq with hq | hq
    · obtain ⟨j, hj, hj0, hjk⟩ := a4 q hq
      have e : j ≠ i := fun e => by rw [e, h0] at hj0; omega
      exact ⟨j, hj, by rw [h18, va_up_ne _ _ e]; exact hj0, by rw [h17, va_up_ne _ _ e]; exact hjk⟩
    · rw [List.mem_singleton] at hq
      subst hq
      exact ⟨i, hi2, by rw [h18, va_up_self]; decide, by rw [h17, va_up_self]⟩
  · rw [h18]
    have := occ_up (σ 18) i 1 256
    rw [if_pos hi2] at this
    simp only [List.length_append, List.length_singleton]
    omega
theorem HT_more {σ τ : St} {o : List (Int × Int)} {κ p : Int} {i : Nat} (h : HT σ o) (hi : i < 256) (h0 : 0 < σ 18 i) (hk : σ 17 i = κ) (h17 : τ 17 = σ 17) (h18 : τ 18 = va_up (σ 18) i (σ 18 i + 1)) (h19 : τ 19 = σ 19) : HT τ (o ++ [(κ, p)]) := by
  obtain ⟨a1, a2, a3, a4, a5⟩ := h
  have pos : ∀ j, 0 < τ 18 j ↔ (0 < σ 18 j) := by
    intro j
    rw [h18]
    by_cases e : j = i
    · rw [e, va_up_self]; omega
    · rw [va_up_ne _ _ e]
  refine ⟨?_, ?_, ?_, ?_, ?_⟩
  · intro j hj
    rw [h18]
    by_cases e : j = i
    · rw [e, va_up_self]; omega
    · rw [va_up_ne _ _ e]; exact a1 j hj
  · intro j hj hj0
    rw [pos] at hj0
    obtain ⟨b1, b2, x, hx, hjx, hxv⟩ := a2 j hj hj0
    rw [h17, h19]
    refine ⟨?_, List.mem_append_left _ b2, x, hx, hjx, fun v hv => (pos _).mpr (hxv v hv)⟩
    rw [cnt_app, h18]
    by_cases e : j = i
    · subst e
      rw [va_up_self, ← b1]
      simp [cnt, hk]
    · rw [va_up_ne _ _ e, b1]
      have : κ ≠ σ 17 j := fun z => e (a3 j i hj hi hj0 h0 (by rw [hk, z]))
      simp [cnt, this]
  · intro x y hx hy hx0 hy0 hxy
    rw [pos] at hx0 hy0
    rw [h17] at hxy
    exact a3 x y hx hy hx0 hy0 hxy
  · intro q hq
    rcases List.mem_append.mp hq with hq | hq
    · obtain ⟨j, hj, hj0, hjk⟩ := a4 q hq
      exact ⟨j, hj, (pos j).mpr hj0, by rw [h17]; exact hjk⟩
    · rw [List.mem_singleton] at hq
      subst hq
      exact ⟨i, hi, (pos i).mpr h0, by rw [h17]; exact hk⟩
  · rw [h18]
    have := occ_same (v := σ 18 i + 1) h0 256
    simp only [List.length_append, List.length_singleton]
    omega
section CK
variable {l : Launch} {D : va_G} {cA : Nat → ClassId} {ad : Nat → Nat} {σ : St}
theorem c_X1_add {a b p : Int} {o : List (Int × Int)} (ha0 : 0 ≤ a) (ha : a < 288) (hb0 : 0 ≤ b) (hb : b < 288) (hp : inR p) (hr : rng σ) (ho : o.length < 256) (hT : HT σ o) : Cv l yX1_add wsX1_add (rh 0) D cA ad LC [.inl 4, .inr a, .inr b, .inr p] σ (fun τ => rng τ ∧ eqx [17, 18, 19] σ τ ∧ HT τ (o ++ [(a * 512 + b, p)])) := by
  refine Cv.walk fX1_add pX1_add [] (by decide) rfl LC_ok tX1_add_ok fX1_add_ok pX1_add_ok klOk_0 (Nat.le_of_ble_eq_true rfl) (fun V M ret => ?_)
  have hh : (hN (a * 512 + b) : Int) = (a * 31 + b) % 256 := by
    unfold hN
    omega
  have loop : ∀ (d u : Nat), u + d = 256 → (∀ v, v < u → 0 < σ 18 ((hN (a * 512 + b) + v) % 256) ∧ σ 17 ((hN (a * 512 + b) + v) % 256) ≠ a * 512 + b) → V (24, [(0, .inl 4), (1, .inr a), (2, .inr b), (3, .inr p), (4, .inr (a * 512 + b)), (5, .inr (((hN (a * 512 + b) + u) % 256 : Nat) : Int)), (6, .inr (u : Int))], [], σ) := by
    intro d
    induction d with
    | zero =>
      intro u hu hv
      exfalso
      have hfull : ∀ i, i < 256 → 0 < σ 18 i := by
        intro i hi
        have := (hv ((i + 256 - hN (a * 512 + b) % 256) % 256) (by omega)).1
        rwa [show (hN (a * 512 + b) + (i + 256 - hN (a * 512 + b) % 256) % 256) % 256 = i by omega] at this
      have h1 := occ_full hfull
      have h2 := hT.2.2.2.2
      omega
    | succ d ih =>
      intro u hu hv
      have hs : ((hN (a * 512 + b) + u) % 256) < 256 := Nat.mod_lt _ (by decide)
      generalize hse : (hN (a * 512 + b) + u) % 256 = s at hs ⊢
      have hc0 := hT.1 s hs
      refine M.1 [24, 82] 80 _ ?_
      refine ⟨⟨by unfold inR; omega, by constructor <;> decide⟩, fun c1 => absurd c1 (by omega), fun c1 => ?_⟩
      refine ⟨⟨by omega, by omega⟩, hr _ _, fun c2 => ?_, fun c2 => ?_⟩
      · rw [Int.toNat_natCast] at c2
        refine ⟨⟨by omega, by omega⟩, ⟨hr _ _, by unfold inR; omega⟩, fun c3 => ?_, fun c3 => ?_⟩
        · rw [Int.toNat_natCast] at c3
          refine ⟨⟨rfl, by omega, by omega⟩, ?_⟩
          have h := ih (u + 1) (by omega) (fun v hv' => by
            rcases Nat.lt_or_ge v u with hc | hc
            · exact hv v hc
            · rw [show v = u by omega, hse]
              exact ⟨by omega, c3⟩)
          rw [show (((hN (a * 512 + b) + (u + 1)) % 256 : Nat) : Int) = ((s : Int) + 1) % 256 by omega] at h
          exact h
        · rw [Int.toNat_natCast] at c3
          refine ⟨⟨by omega, by omega⟩, ⟨by omega, by omega⟩, ?_⟩
          rw [Int.toNat_natCast]
          have hcl := cnt_le (σ 17 s) o
          have hcs := (hT.2.1 s hs (by omega)).1
          exact ret rfl ⟨rng_stu hr (by unfold inR; omega) _ _, eqx_stu eqx_rfl (by decide) _ _, HT_more hT hs (by omega) c3 (stu_j _ _ _ (by decide)) (by simp [stu, va_up]) (stu_j _ _ _ (by decide))⟩
      · rw [Int.toNat_natCast] at c2
        refine ⟨⟨by omega, by omega⟩, ⟨by omega, by omega⟩, ⟨by omega, by omega⟩, ?_⟩
        rw [Int.toNat_natCast]
        have e1 : stu (stu σ 17 s (a * 512 + b)) 19 s p 17 s = a * 512 + b := by simp [stu, va_up]
        have e2 : stu (stu σ 17 s (a * 512 + b)) 19 s p 18 s = 0 := by simp [stu, va_up, c2]
        refine ⟨⟨by rw [e1]; unfold inR; omega, by unfold inR; omega⟩, fun c3 => absurd e1 c3, fun c3 => ?_⟩
        refine ⟨⟨by omega, by omega⟩, ⟨by omega, by omega⟩, ?_⟩
        rw [Int.toNat_natCast, e2]
        exact ret rfl ⟨rng_stu (rng_stu (rng_stu hr (by unfold inR; omega) _ _) hp _ _) (by constructor <;> decide) _ _, eqx_stu (eqx_stu (eqx_stu eqx_rfl (by decide) _ _) (by decide) _ _) (by decide) _ _, HT_new hT (show u < 256 by omega) hse.symm hv c2 (by simp [stu, va_up]) (by simp [stu, va_up]) (by simp [stu, va_up])⟩
  refine M.1 [24] 60 _ ?_
  refine ⟨⟨rfl, by omega, by omega⟩, ?_⟩
  have h := loop 256 0 rfl (fun v hv => absurd hv (by omega))
  rw [show (((hN (a * 512 + b) + 0) % 256 : Nat) : Int) = (a * 31 + b) % 256 by omega] at h
  exact h
end CK
end
section
section CK2
variable {l : Launch} {D : va_G} {cA : Nat → ClassId} {ad : Nat → Nat} {σ : St}
theorem c_fill18 {v : Int} (hv : inR v) (hr : rng σ) : Cv l yJ7_fill_53178 wsJ7_fill_53178 (rh 0) D cA ad LC [.inl 18, .inr v] σ (fun τ => rng τ ∧ eqx [18] σ τ ∧ ∀ i, i < 256 → τ 18 i = v) := by
  refine Cv.walk [] [] [] (by decide) rfl LC_ok tJ7_fill_53178_ok flOk_0 plOk_0 klOk_0 (Nat.le_of_ble_eq_true rfl) (fun V M ret => ?_)
  have loop : ∀ (d i : Nat) (τ : St), i + d = 256 → rng τ → eqx [18] σ τ → (∀ j, j < i → τ 18 j = v) → V (5, [(0, .inl 18), (1, .inr v), (2, .inr (i : Int)), (3, .inr 256)], [], τ) := by
    intro d
    induction d with
    | zero =>
      intro i τ hi hrt hx hw
      refine M.1 [20] 60 _ ?_
      exact ⟨⟨by unfold inR; omega, by constructor <;> decide⟩, fun c1 => ret rfl ⟨hrt, hx, fun j hj => hw j (by omega)⟩, fun c1 => absurd c1 (by omega)⟩
    | succ d ih =>
      intro i τ hi hrt hx hw
      refine M.1 [5] 60 _ ?_
      refine ⟨⟨by unfold inR; omega, by constructor <;> decide⟩, fun c1 => absurd c1 (by omega), fun c1 => ?_⟩
      refine ⟨⟨by omega, by omega⟩, ?_⟩
      rw [Int.toNat_natCast]
      refine ih (i + 1) _ (by omega) (rng_stu hrt hv _ _) (eqx_stu hx (by decide) _ _) (fun j hj => ?_)
      by_cases e : j = i
      · rw [e, stu_s]
      · rw [stu_i _ _ _ e]
        exact hw j (by omega)
  refine M.1 [5] 60 _ ?_
  exact loop 256 0 σ rfl hr eqx_rfl (fun j hj => absurd hj (by omega))
theorem HT_0 (h : ∀ i, i < 256 → σ 18 i = 0) : HT σ [] := by
  refine ⟨fun i hi => by rw [h i hi]; decide, fun i hi h0 => absurd h0 (by rw [h i hi]; decide), fun i j hi hj h0 => absurd h0 (by rw [h i hi]; decide), fun q hq => by simp at hq, ?_⟩
  have : ∀ n, n ≤ 256 → occ (σ 18) n = 0 := by
    intro n
    induction n with
    | zero => intro _; rfl
    | succ n ih =>
      intro hn
      unfold occ
      rw [ih (by omega), h n (by omega)]
      rfl
  rw [this 256 (Nat.le_refl _)]
  exact Nat.zero_le _
theorem c_X1_countPairs {w : Int → Int} {R : Rw} (hk : kC σ) (hR : rowC σ w R) (h288 : ∀ q ∈ R, 0 ≤ q.1 ∧ q.1 < 288) : Cv l yX1_countPairs wsX1_countPairs (rh 1) D cA ad LC [.inl 4, .inl 3] σ (fun τ => rng τ ∧ eqx [17, 18, 19] σ τ ∧ HT τ (prs w R)) := by
  have hk' := hk
  obtain ⟨hr, hn0, hn, hl0, hl1⟩ := hk
  obtain ⟨hN, hN2, hh0, hw0⟩ := hR
  refine Cv.walk fX1_countPairs pX1_countPairs [] (by decide) rfl LC_ok tX1_countPairs_ok fX1_countPairs_ok pX1_countPairs_ok klOk_0 (Nat.le_of_ble_eq_true rfl) (fun V M ret => ?_)
  have loop : ∀ (s : Rw) (o : List (Int × Int)) (i : Nat) (τ : St), i + s.length = R.length → o.length ≤ i → rng τ → eqx [17, 18, 19] σ τ → hold (σ 14) (σ 15) i s → (∀ q ∈ s, 0 ≤ q.1 ∧ q.1 < 288) → o ++ prs w s = prs w R → HT τ o → V (10, [(0, .inl 4), (1, .inl 3), (2, .inr (i : Int))], [], τ) := by
    intro s
    induction s with
    | nil =>
      intro o i τ hi ho hrt hx hhs hs8 hm hT
      have e3 : τ 3 = σ 3 := hx 3 (by decide)
      simp at hi
      refine M.1 [56] 60 _ ?_
      refine ⟨⟨by unfold inR; omega, hrt _ _⟩, fun c1 => ?_, fun c1 => absurd c1 (by rw [e3]; omega)⟩
      simp only [prs, List.append_nil] at hm
      exact ret rfl ⟨hrt, hx, by rw [← hm]; exact hT⟩
    | cons q s ih =>
      intro o i τ hi ho hrt hx hhs hs8 hm hT
      have e3 : τ 3 = σ 3 := hx 3 (by decide)
      have e1 : τ 1 = σ 1 := hx 1 (by decide)
      have e2 : τ 2 = σ 2 := hx 2 (by decide)
      have e14 : τ 14 = σ 14 := hx 14 (by decide)
      have e15 : τ 15 = σ 15 := hx 15 (by decide)
      have e16 : τ 16 = σ 16 := hx 16 (by decide)
      simp only [List.length_cons] at hi
      obtain ⟨hq1, hq2, hhs'⟩ := hhs
      refine M.1 [20] 60 _ ?_
      refine ⟨⟨by unfold inR; omega, hrt _ _⟩, fun c1 => absurd c1 (by rw [e3]; omega), fun c1 => ?_⟩
      refine M.2.1 (vs := [.inr (i : Int)]) (rest := []) rfl oX1_countPairs_X2_hasNext rfl rfl (Nat.le_of_ble_eq_true rfl) rfl (c_X2_hasNext (by unfold inR; omega) ⟨hrt, by rw [e1]; omega, by rw [e1]; omega, by rw [e2]; omega, by rw [e2]; omega⟩ (by rw [e3]; omega) (by rw [e3]; omega)) (fun r υ _ hp => ?_)
      obtain ⟨rfl, rfl⟩ := hp
      rw [e3, hN, e16, show ((i : Int) + 1).toNat = i + 1 by omega]
      have skip : prs w (q :: s) = prs w s → V (50, [(0, .inl 4), (1, .inl 3), (2, .inr (i : Int))], [], υ) := by
        intro e
        refine M.1 [10] 60 _ ?_
        exact ih o (i + 1) υ (by omega) (by omega) hrt hx hhs' (fun z hz => hs8 z (List.mem_cons_of_mem _ hz)) (by rw [← e]; exact hm) hT
      refine M.1 [47, 50] 60 _ ?_
      refine ⟨b01_r _, fun c3 => ?_, fun c3 => ?_⟩
      · refine skip ?_
        cases s with
        | nil => rfl
        | cons q2 s2 =>
          simp only [List.length_cons] at hi
          rw [prs, if_neg]
          intro h
          refine b01_0.mp c3 ⟨by omega, by omega, ?_⟩
          rw [hw0 (i + 1) (by omega), hhs'.2.1]
          exact h
      · have h3 := Classical.not_not.mp (fun h => c3 (b01_f h))
        obtain ⟨-, h3, h4⟩ := h3
        cases s with
        | nil => simp at hi; omega
        | cons q2 s2 =>
          simp only [List.length_cons] at hi
          obtain ⟨hz1, hz2, hz3⟩ := hhs'
          rw [hw0 (i + 1) (by omega), hz2] at h4
          have b1 := hs8 q List.mem_cons_self
          have b2 := hs8 q2 (List.mem_cons_of_mem _ List.mem_cons_self)
          refine ⟨⟨by omega, by omega⟩, ⟨by omega, by omega⟩, ⟨by omega, by omega⟩, ?_⟩
          rw [Int.toNat_natCast, show ((i : Int) + 1).toNat = i + 1 by omega, e14, e15, hq1, hq2, hz1]
          refine M.2.2.1 (vs := [.inr q.1, .inr q2.1, .inr q.2]) (rest := []) rfl oX1_countPairs_X1_add rfl rfl (Nat.le_of_ble_eq_true rfl) rfl (c_X1_add b1.1 b1.2 b2.1 b2.2 (by rw [← hq2]; exact hr _ _) hrt (by omega) hT) (fun υ2 hp => ?_)
          obtain ⟨p1, p2, p3⟩ := hp
          refine M.1 [10] 60 _ ?_
          refine ih (o ++ [(q.1 * 512 + q2.1, q.2)]) (i + 1) υ2 (by simp; omega) (by simp; omega) p1 (eqx_trans hx p2) ⟨hz1, hz2, hz3⟩ (fun z hz => hs8 z (List.mem_cons_of_mem _ hz)) ?_ p3
          rw [← hm, prs, if_pos h4]
          simp
  refine M.1 [5] 60 _ ?_
  refine M.2.2.2.2.1 (vs := [.inl 18, .inr 0]) (rest := []) rfl oX1_countPairs_J7_fill_53178 (Nat.le_of_ble_eq_true rfl) rfl (c_fill18 inR_0 hr) (fun τ hp => ?_)
  obtain ⟨hrt, p1, p2⟩ := hp
  refine M.1 [10] 60 _ ?_
  exact loop R [] 0 τ (by simp) (Nat.le_refl _) hrt (eqx_mono p1 (by decide)) hh0 h288 rfl (HT_0 p2)
def ahd (σ : St) (i m : Nat) : Prop := σ 18 m < σ 18 i ∨ (σ 18 i = σ 18 m ∧ σ 17 i < σ 17 m)
theorem c_X1_isAhead {i m : Nat} (hr : rng σ) (hi : i < 256) (hm : m < 256) : Ci l yX1_isAhead wsX1_isAhead (rh 0) D cA ad LC [.inl 4, .inr (i : Int), .inr (m : Int)] σ (fun r τ => τ = σ ∧ r = b01 (ahd σ i m)) := by
  refine Ci.walkZ fX1_isAhead pX1_isAhead [] (by decide) rfl LC_ok tX1_isAhead_ok fX1_isAhead_ok pX1_isAhead_ok klOk_0 (Nat.le_of_ble_eq_true rfl) (fun V M ret => ?_)
  refine M.1 [35, 56] 60 _ ?_
  refine ⟨⟨by omega, by omega⟩, ⟨by omega, by omega⟩, ⟨hr _ _, hr _ _⟩, fun c1 => ?_, fun c1 => ?_⟩
  · simp only [Int.toNat_natCast] at c1
    refine ⟨⟨by omega, by omega⟩, ⟨by omega, by omega⟩, ⟨hr _ _, hr _ _⟩, fun c2 => ?_, fun c2 => ?_⟩
    · simp only [Int.toNat_natCast] at c2
      exact ret rfl (Or.inl rfl) ⟨rfl, by rw [b01_f]; unfold ahd; omega⟩
    · simp only [Int.toNat_natCast] at c2
      exact ret rfl (Or.inr rfl) ⟨rfl, by rw [b01_t]; unfold ahd; omega⟩
  · simp only [Int.toNat_natCast] at c1
    refine ⟨⟨by omega, by omega⟩, ⟨by omega, by omega⟩, ⟨hr _ _, hr _ _⟩, fun c2 => ?_, fun c2 => ?_⟩
    · simp only [Int.toNat_natCast] at c2
      exact ret rfl (Or.inl rfl) ⟨rfl, by rw [b01_f]; unfold ahd; omega⟩
    · simp only [Int.toNat_natCast] at c2
      exact ret rfl (Or.inr rfl) ⟨rfl, by rw [b01_t]; unfold ahd; omega⟩
def mostOk (σ : St) (n : Nat) (r : Int) : Prop := (r = -1 ∧ ∀ j : Nat, j < n → ¬ 0 < σ 18 j) ∨ ∃ m : Nat, r = (m : Int) ∧ m < n ∧ 0 < σ 18 m ∧ ∀ j : Nat, j < n → 0 < σ 18 j → ¬ ahd σ j m
theorem c_X1_mostFrequent (hr : rng σ) : Ci l yX1_mostFrequent wsX1_mostFrequent (rh 1) D cA ad LC [.inl 4] σ (fun r τ => τ = σ ∧ mostOk σ 256 r) := by
  refine Ci.walk fX1_mostFrequent pX1_mostFrequent [] (by decide) rfl LC_ok tX1_mostFrequent_ok fX1_mostFrequent_ok pX1_mostFrequent_ok klOk_0 (Nat.le_of_ble_eq_true rfl) (fun V M ret => ?_)
  have mr : ∀ {n : Nat} {r : Int}, n ≤ 256 → mostOk σ n r → inR r := by
    intro n r hn h
    unfold inR
    rcases h with ⟨h, -⟩ | ⟨m, h, h2, -⟩ <;> omega
  have loop : ∀ (d i : Nat) (r : Int), i + d = 256 → mostOk σ i r → V (4, [(0, .inl 4), (1, .inr r), (2, .inr (i : Int))], [], σ) := by
    intro d
    induction d with
    | zero =>
      intro i r hi h
      have e : i = 256 := by omega
      subst e
      refine M.1 [42] 60 _ ?_
      exact ⟨⟨by constructor <;> decide, by constructor <;> decide⟩, fun c1 => ret rfl (mr (Nat.le_refl _) h) ⟨rfl, h⟩, fun c1 => absurd c1 (by decide)⟩
    | succ d ih =>
      intro i r hi h
      have keep : mostOk σ (i + 1) r → V (35, [(0, .inl 4), (1, .inr r), (2, .inr (i : Int))], [], σ) := by
        intro h2
        refine M.1 [4] 60 _ ?_
        exact ih (i + 1) r (by omega) h2
      have take : mostOk σ (i + 1) (i : Int) → V (33, [(0, .inl 4), (1, .inr r), (2, .inr (i : Int))], [], σ) := by
        intro h2
        refine M.1 [4] 60 _ ?_
        exact ih (i + 1) (i : Int) (by omega) h2
      refine M.1 [27, 33, 35] 60 _ ?_
      refine ⟨⟨by unfold inR; omega, by constructor <;> decide⟩, fun c1 => absurd c1 (by omega), fun c1 => ?_⟩
      refine ⟨⟨by omega, by omega⟩, hr _ _, fun c2 => ?_, fun c2 => ?_⟩
      · rw [Int.toNat_natCast] at c2
        refine keep ?_
        rcases h with ⟨h, h2⟩ | ⟨m, h, h2, h3, h4⟩
        · refine Or.inl ⟨h, fun j hj => ?_⟩
          rcases Nat.lt_or_ge j i with hc | hc
          · exact h2 j hc
          · rw [show j = i by omega]; omega
        · refine Or.inr ⟨m, h, by omega, h3, fun j hj => ?_⟩
          rcases Nat.lt_or_ge j i with hc | hc
          · exact h4 j hc
          · rw [show j = i by omega]
            intro h9
            omega
      · rw [Int.toNat_natCast] at c2
        refine ⟨mr (by omega) h, fun c3 => ?_, fun c3 => ?_⟩
        · refine take ?_
          rcases h with ⟨h, h2⟩ | ⟨m, h, h2, h3, h4⟩
          · refine Or.inr ⟨i, rfl, by omega, by omega, fun j hj hj0 => ?_⟩
            rcases Nat.lt_or_ge j i with hc | hc
            · exact absurd hj0 (h2 j hc)
            · rw [show j = i by omega]
              unfold ahd
              omega
          · omega
        · rcases h with ⟨h, h2⟩ | ⟨m, h, h2, h3, h4⟩
          · omega
          · subst h
            refine M.2.1 (vs := [.inr (i : Int), .inr (m : Int)]) (rest := []) rfl oX1_mostFrequent_X1_isAhead rfl rfl (Nat.le_of_ble_eq_true rfl) rfl (c_X1_isAhead hr (by omega) (by omega)) (fun r υ _ hp => ?_)
            obtain ⟨rfl, rfl⟩ := hp
            refine M.1 [33, 35] 60 _ ?_
            refine ⟨b01_r _, fun c4 => ?_, fun c4 => ?_⟩
            · refine keep (Or.inr ⟨m, rfl, by omega, h3, fun j hj hj0 => ?_⟩)
              rcases Nat.lt_or_ge j i with hc | hc
              · exact h4 j hc hj0
              · rw [show j = i by omega]
                exact b01_0.mp c4
            · have h5 := Classical.not_not.mp (fun h => c4 (b01_f h))
              refine take (Or.inr ⟨i, rfl, by omega, by omega, fun j hj hj0 => ?_⟩)
              rcases Nat.lt_or_ge j i with hc | hc
              · have := h4 j hc hj0
                unfold ahd at this h5 ⊢
                omega
              · rw [show j = i by omega]
                unfold ahd
                omega
  refine M.1 [4] 60 _ ?_
  exact loop 256 0 (-1) rfl (Or.inl ⟨rfl, fun j hj => absurd hj (by omega)⟩)
end CK2
end
section
section CV2
variable {l : Launch} {D : va_G} {cA : Nat → ClassId} {ad : Nat → Nat} {σ : St}
def stP (σ : St) (t p : Int) : Prop := 0 ≤ p ∧ p ≤ σ 1 1 - szC σ t ∧ ∀ i : Nat, (i : Int) < szC σ t → σ 6 (p + i).toNat = byC σ t i
theorem byC_r {t i : Int} (hr : rng σ) (ht : inR t) : inR (byC σ t i) := by
  by_cases h : isL σ t
  · rw [byC_l h]
    split
    · exact hr _ _
    · constructor <;> decide
  · rw [byC_b h]
    exact ht
theorem c_X4_standsAt {t p : Int} (hk : kC σ) (ht : inR t) (hp : inR p) (hs0 : 0 ≤ szC σ t) (hs : szC σ t ≤ 120) (hpl : isL σ t → 0 ≤ σ 13 (t - 256).toNat ∧ σ 13 (t - 256).toNat ≤ 120) : Ci l yX4_standsAt wsX4_standsAt (rh 2) D cA ad LC [.inl 2, .inr t, .inl 1, .inr p] σ (fun r τ => τ = σ ∧ r = b01 (stP σ t p)) := by
  have hk' := hk
  obtain ⟨hr, hn0, hn, hl0, hl1⟩ := hk
  refine Ci.walkZ fX4_standsAt pX4_standsAt [] (by decide) rfl LC_ok tX4_standsAt_ok fX4_standsAt_ok pX4_standsAt_ok klOk_0 (Nat.le_of_ble_eq_true rfl) (fun V M ret => ?_)
  have loop : ∀ (d i : Nat), (i : Int) + d = szC σ t → 0 ≤ p → p ≤ σ 1 1 - szC σ t → (∀ j : Nat, j < i → σ 6 (p + j).toNat = byC σ t j) → V (27, [(0, .inl 2), (1, .inr t), (2, .inl 1), (3, .inr p), (4, .inr (szC σ t)), (5, .inr (i : Int))], [], σ) := by
    intro d
    induction d with
    | zero =>
      intro i hi h0 h1 hw
      refine M.1 [62] 60 _ ?_
      refine ⟨⟨by unfold inR; omega, by unfold inR; omega⟩, fun c1 => ret rfl (Or.inr rfl) ⟨rfl, ?_⟩, fun c1 => absurd c1 (by omega)⟩
      rw [b01_t ⟨h0, h1, fun j hj => hw j (by omega)⟩]
    | succ d ih =>
      intro i hi h0 h1 hw
      refine M.1 [47] 60 _ ?_
      refine ⟨⟨by unfold inR; omega, by unfold inR; omega⟩, fun c1 => absurd c1 (by omega), fun c1 => ?_⟩
      refine ⟨⟨by omega, by omega⟩, ?_⟩
      refine M.2.1 (vs := [.inr t, .inr (i : Int)]) (rest := [.inr (σ 6 (p + i).toNat)]) rfl oX4_standsAt_X4_byteOf rfl rfl (Nat.le_of_ble_eq_true rfl) rfl (c_X4_byteOf ht hk' (fun h => by have := hpl h; unfold inR; omega)) (fun r υ _ hp => ?_)
      obtain ⟨rfl, rfl⟩ := hp
      refine M.1 [27, 54] 60 _ ?_
      refine ⟨⟨hr _ _, byC_r hr ht⟩, fun c2 => ?_, fun c2 => ?_⟩
      · refine ih (i + 1) (by omega) h0 h1 (fun j hj => ?_)
        rcases Nat.lt_or_ge j i with hc | hc
        · exact hw j hc
        · rw [show j = i by omega]; exact c2
      · refine ret rfl (Or.inl rfl) ⟨rfl, ?_⟩
        rw [b01_f]
        intro h
        exact c2 (h.2.2 i (by omega))
  refine M.1 [2] 60 _ ?_
  refine M.2.1 (vs := [.inr t]) (rest := []) rfl oX4_standsAt_X4_sizeOf rfl rfl (Nat.le_of_ble_eq_true rfl) rfl (c_X4_sizeOf ht hk') (fun r τ _ hp => ?_)
  obtain ⟨rfl, rfl⟩ := hp
  refine M.1 [23, 27] 60 _ ?_
  refine ⟨hp, fun c1 => ?_, fun c1 => ?_⟩
  · refine ret rfl (Or.inl rfl) ⟨rfl, ?_⟩
    rw [b01_f]
    intro h
    exact absurd h.1 (by omega)
  · refine ⟨⟨hp, by unfold inR; omega⟩, fun c2 => ?_, fun c2 => ?_⟩
    · exact loop (szC τ t).toNat 0 (by omega) (by omega) c2 (fun j hj => absurd hj (by omega))
    · refine ret rfl (Or.inl rfl) ⟨rfl, ?_⟩
      rw [b01_f]
      intro h
      exact absurd h.2.1 (by omega)
theorem wcpy : ∀ w ∈ cpyW RX4 48, w ∈ wsX4_startFrom := by decide +kernel
theorem c_X4_startFrom (hk : kC σ) : Cv l yX4_startFrom wsX4_startFrom (rh 1) D cA ad LC [.inl 2, .inl 1] σ (fun τ => rng τ ∧ eqx [2, 12] σ τ ∧ τ 2 5 = 0 ∧ ∀ i, i < 120 → τ 12 i = σ 6 i) := by
  obtain ⟨hr, hn0, hn, hl0, hl1⟩ := hk
  refine Cv.walk fX4_startFrom pX4_startFrom [] (by decide) rfl LC_ok tX4_startFrom_ok fX4_startFrom_ok pX4_startFrom_ok klOk_0 (Nat.le_of_ble_eq_true rfl) (fun V M ret => ?_)
  refine M.1 [12] 60 _ ?_
  refine M.2.2.2.2.2.2.2 rfl wcpy (by decide) (by decide) rfl rfl (by decide) (by decide) (by decide) (by decide) ?_
  refine M.1 [20] 60 _ ?_
  refine ret rfl ⟨?_, ?_, stu_s _ _ _ _, ?_⟩
  · refine rng_stu (fun j i => ?_) inR_0 _ _
    by_cases e : j = 12
    · subst e
      rw [va_up_self]
      unfold va_cpy
      split <;> exact hr _ _
    · rw [va_up_ne _ _ e]
      exact hr _ _
  · refine eqx_stu (fun j hj => ?_) (by decide) _ _
    rw [va_up_ne _ _ (fun e => hj (by rw [e]; decide))]
  · intro i hi
    rw [stu_j _ _ _ (by decide), va_up_self]
    unfold va_cpy
    rw [if_pos (by refine ⟨Nat.zero_le _, ?_⟩; show i < 0 + 120; omega)]
    simp
theorem c_X4_add {a b c p : Int} (hk : kC σ) (ha : inR a) (hb : inR b) (hc : inR c) (hp : inR p) (hl : σ 2 5 < 32) (hz : inR (szC σ a + szC σ b)) : Cv l yX4_add wsX4_add (rh 2) D cA ad LC [.inl 2, .inr a, .inr b, .inr c, .inr p] σ (fun τ => rng τ ∧ eqx [2, 7, 8, 9, 10, 11, 13] σ τ ∧ τ 2 5 = σ 2 5 + 1 ∧ τ 7 = va_up (σ 7) (σ 2 5).toNat a ∧ τ 8 = va_up (σ 8) (σ 2 5).toNat b ∧ τ 9 = va_up (σ 9) (σ 2 5).toNat c ∧ τ 10 = va_up (σ 10) (σ 2 5).toNat (szC σ a + szC σ b) ∧ τ 13 = va_up (σ 13) (σ 2 5).toNat p ∧ τ 11 = va_up (σ 11) (256 + (σ 2 5).toNat) (szC σ a + szC σ b)) := by
  have hk' := hk
  obtain ⟨hr, hn0, hn, hl0, hl1⟩ := hk
  refine Cv.walk fX4_add pX4_add [] (by decide) rfl LC_ok tX4_add_ok fX4_add_ok pX4_add_ok klOk_0 (Nat.le_of_ble_eq_true rfl) (fun V M ret => ?_)
  generalize hkk : (σ 2 5).toNat = k
  refine M.1 [19] 80 _ ?_
  refine ⟨⟨hr _ _, by constructor <;> decide⟩, fun c1 => absurd c1 (by omega), fun c1 => ?_⟩
  refine ⟨⟨by omega, by omega⟩, ?_⟩
  rw [hkk]
  obtain ⟨σ1, h1⟩ : ∃ z, z = stu σ 7 k a := ⟨_, rfl⟩
  rw [← h1]
  have r1 : rng σ1 := by rw [h1]; exact rng_stu hr ha _ _
  have e1 : σ1 2 = σ 2 := by rw [h1]; exact stu_j _ _ _ (by decide)
  refine M.1 [29] 80 _ ?_
  refine ⟨⟨by rw [e1]; omega, by rw [e1]; omega⟩, ?_⟩
  rw [e1, hkk]
  obtain ⟨σ2, h2⟩ : ∃ z, z = stu σ1 8 k b := ⟨_, rfl⟩
  rw [← h2]
  have r2 : rng σ2 := by rw [h2]; exact rng_stu r1 hb _ _
  have e2 : σ2 2 = σ 2 := by rw [h2, stu_j _ _ _ (by decide), e1]
  refine M.1 [39] 80 _ ?_
  refine ⟨⟨by rw [e2]; omega, by rw [e2]; omega⟩, ?_⟩
  rw [e2, hkk]
  obtain ⟨σ3, h3⟩ : ∃ z, z = stu σ2 9 k c := ⟨_, rfl⟩
  rw [← h3]
  have r3 : rng σ3 := by rw [h3]; exact rng_stu r2 hc _ _
  have e3 : σ3 2 = σ 2 := by rw [h3, stu_j _ _ _ (by decide), e2]
  have e3a : σ3 10 = σ 10 := by rw [h3, stu_j _ _ _ (by decide), h2, stu_j _ _ _ (by decide), h1, stu_j _ _ _ (by decide)]
  have e3b : σ3 1 = σ 1 := by rw [h3, stu_j _ _ _ (by decide), h2, stu_j _ _ _ (by decide), h1, stu_j _ _ _ (by decide)]
  have hk3 : kC σ3 := ⟨r3, by rw [e3b]; omega, by rw [e3b]; omega, by rw [e3]; omega, by rw [e3]; omega⟩
  have hsz : ∀ x, szC σ3 x = szC σ x := fun x => by unfold szC isL; rw [e3, e3a]
  refine M.1 [49] 80 _ ?_
  refine M.2.1 (vs := [.inr a]) (rest := [.inr (σ3 2 5), .inl 10]) rfl oX4_add_X4_sizeOf rfl rfl (Nat.le_of_ble_eq_true rfl) rfl (c_X4_sizeOf ha hk3) (fun r τ _ hp => ?_)
  obtain ⟨rfl, rfl⟩ := hp
  refine M.1 [54] 80 _ ?_
  refine M.2.1 (vs := [.inr b]) (rest := [.inr (szC τ a), .inr (τ 2 5), .inl 10]) rfl oX4_add_X4_sizeOf rfl rfl (Nat.le_of_ble_eq_true rfl) rfl (c_X4_sizeOf hb hk3) (fun r τ _ hp => ?_)
  obtain ⟨rfl, rfl⟩ := hp
  refine M.1 [59] 80 _ ?_
  refine ⟨⟨by rw [e3]; omega, by rw [e3]; omega⟩, ?_⟩
  rw [e3, hkk, hsz a, hsz b]
  obtain ⟨σ4, h4⟩ : ∃ z, z = stu τ 10 k (szC σ a + szC σ b) := ⟨_, rfl⟩
  rw [← h4]
  have r4 : rng σ4 := by rw [h4]; exact rng_stu r3 hz _ _
  have e4 : σ4 2 = σ 2 := by rw [h4, stu_j _ _ _ (by decide), e3]
  refine M.1 [70] 80 _ ?_
  refine ⟨⟨by rw [e4]; omega, by rw [e4]; omega⟩, ?_⟩
  rw [e4, hkk]
  obtain ⟨σ5, h5⟩ : ∃ z, z = stu σ4 13 k p := ⟨_, rfl⟩
  rw [← h5]
  have r5 : rng σ5 := by rw [h5]; exact rng_stu r4 hp _ _
  have e5 : σ5 2 = σ 2 := by rw [h5, stu_j _ _ _ (by decide), e4]
  have e5a : σ5 10 k = szC σ a + szC σ b := by rw [h5, stu_j _ _ _ (by decide), h4, stu_s]
  refine M.1 [92] 80 _ ?_
  refine ⟨⟨by rw [e5]; omega, by rw [e5]; omega⟩, ⟨by rw [e5]; omega, by rw [e5]; omega⟩, ?_⟩
  rw [e5, hkk, e5a, show (256 + σ 2 5).toNat = 256 + k by omega]
  obtain ⟨σ6, h6⟩ : ∃ z, z = stu σ5 11 (256 + k) (szC σ a + szC σ b) := ⟨_, rfl⟩
  rw [← h6]
  have r6 : rng σ6 := by rw [h6]; exact rng_stu r5 hz _ _
  have e6 : σ6 2 = σ 2 := by rw [h6, stu_j _ _ _ (by decide), e5]
  refine M.1 [102] 80 _ ?_
  refine ret rfl ⟨rng_stu r6 (by rw [e6]; unfold inR; omega) _ _, ?_, by rw [stu_s, e6], ?_, ?_, ?_, ?_, ?_, ?_⟩
  · rw [h6, h5, h4, h3, h2, h1]
    exact eqx_stu (eqx_stu (eqx_stu (eqx_stu (eqx_stu (eqx_stu (eqx_stu eqx_rfl (by decide) _ _) (by decide) _ _) (by decide) _ _) (by decide) _ _) (by decide) _ _) (by decide) _ _) (by decide) _ _
  all_goals (rw [h6, h5, h4, h3, h2, h1, ← hkk]; simp [stu, va_up])
end CV2
end
section
section CH
variable {l : Launch} {D : va_G} {cA : Nat → ClassId} {ad : Nat → Nat} {σ : St}
theorem c_X0_startWithByte {p : Nat} {o : Int} (hr : rng σ) (hp : p < 120) (ho0 : 0 ≤ o) (ho : o < 288) (h1 : inR (σ 11 o.toNat + σ 20 (p + 1))) (h2 : inR (1 + σ 21 (p + 1))) : Cv l yX0_startWithByte wsX0_startWithByte (rh 0) D cA ad LC [.inl 5, .inr (p : Int), .inr o, .inl 2] σ (fun τ => rng τ ∧ eqx [20, 21, 22, 23] σ τ ∧ τ 20 = va_up (σ 20) p (σ 11 o.toNat + σ 20 (p + 1)) ∧ τ 21 = va_up (σ 21) p (1 + σ 21 (p + 1)) ∧ τ 22 = va_up (σ 22) p (σ 22 (p + 1)) ∧ τ 23 = va_up (σ 23) p o) := by
  refine Cv.walk fX0_startWithByte pX0_startWithByte [] (by decide) rfl LC_ok tX0_startWithByte_ok fX0_startWithByte_ok pX0_startWithByte_ok klOk_0 (Nat.le_of_ble_eq_true rfl) (fun V M ret => ?_)
  have ep : ((p : Int) + 1).toNat = p + 1 := by omega
  refine M.1 [21] 80 _ ?_
  refine ⟨⟨ho0, ho⟩, ⟨by omega, by omega⟩, ⟨by omega, by omega⟩, ?_⟩
  rw [ep, Int.toNat_natCast]
  obtain ⟨σ1, e1⟩ : ∃ z, z = stu σ 20 p (σ 11 o.toNat + σ 20 (p + 1)) := ⟨_, rfl⟩
  rw [← e1]
  refine M.1 [37] 80 _ ?_
  refine ⟨⟨by omega, by omega⟩, ⟨by omega, by omega⟩, ?_⟩
  rw [ep, Int.toNat_natCast, show σ1 21 = σ 21 by rw [e1, stu_j _ _ _ (by decide)]]
  obtain ⟨σ2, e2⟩ : ∃ z, z = stu σ1 21 p (1 + σ 21 (p + 1)) := ⟨_, rfl⟩
  rw [← e2]
  refine M.1 [51] 80 _ ?_
  refine ⟨⟨by omega, by omega⟩, ⟨by omega, by omega⟩, ?_⟩
  rw [ep, Int.toNat_natCast, show σ2 22 = σ 22 by rw [e2, stu_j _ _ _ (by decide), e1, stu_j _ _ _ (by decide)]]
  refine M.1 [58] 80 _ ?_
  refine ⟨⟨by omega, by omega⟩, ?_⟩
  rw [Int.toNat_natCast]
  refine ret rfl ?_
  rw [e2, e1]
  refine ⟨rng_stu (rng_stu (rng_stu (rng_stu hr h1 _ _) h2 _ _) (hr _ _) _ _) (by unfold inR; omega) _ _, eqx_stu (eqx_stu (eqx_stu (eqx_stu eqx_rfl (by decide) _ _) (by decide) _ _) (by decide) _ _) (by decide) _ _, ?_, ?_, ?_, ?_⟩ <;> simp [stu, va_up]
theorem wmin : ∀ w ∈ minW RX0 57, w ∈ wsX0_startWithLearned := by decide +kernel
theorem c_X0_startWithLearned {p z : Nat} {t : Int} (hk : kC σ) (hp : p < 120) (ht0 : 0 ≤ t) (ht : t < 288) (hz : szC σ t = (z : Int)) (hz1 : p + z ≤ 120) (h1 : inR (σ 11 t.toNat + σ 20 (p + z))) (h2 : inR (1 + σ 21 (p + z))) (h3 : inR (σ 22 p + σ 22 (p + z))) : Cv l yX0_startWithLearned wsX0_startWithLearned (rh 2) D cA ad LC [.inl 5, .inr (p : Int), .inr t, .inl 2] σ (fun τ => rng τ ∧ eqx [20, 21, 22, 23] σ τ ∧ τ 22 = va_up (σ 22) p (if σ 22 p + σ 22 (p + z) < 1000000 then σ 22 p + σ 22 (p + z) else 1000000) ∧ ((¬ (σ 20 p < σ 11 t.toNat + σ 20 (p + z) ∨ (σ 11 t.toNat + σ 20 (p + z) = σ 20 p ∧ 1 + σ 21 (p + z) < σ 21 p)) ∧ τ 20 = σ 20 ∧ τ 21 = σ 21 ∧ τ 23 = σ 23) ∨ ((σ 20 p < σ 11 t.toNat + σ 20 (p + z) ∨ (σ 11 t.toNat + σ 20 (p + z) = σ 20 p ∧ 1 + σ 21 (p + z) < σ 21 p)) ∧ τ 20 = va_up (σ 20) p (σ 11 t.toNat + σ 20 (p + z)) ∧ τ 21 = va_up (σ 21) p (1 + σ 21 (p + z)) ∧ τ 23 = va_up (σ 23) p t))) := by
  have hk' := hk
  obtain ⟨hr, hn0, hn, hl0, hl1⟩ := hk
  refine Cv.walk fX0_startWithLearned pX0_startWithLearned kX0_startWithLearned (by decide) rfl LC_ok tX0_startWithLearned_ok fX0_startWithLearned_ok pX0_startWithLearned_ok kX0_startWithLearned_ok (Nat.le_of_ble_eq_true rfl) (fun V M ret => ?_)
  have ez : ((p : Int) + (z : Int)).toNat = p + z := by omega
  refine M.1 [3] 80 _ ?_
  refine M.2.1 (vs := [.inr t]) (rest := [.inr (p : Int)]) rfl oX0_startWithLearned_X4_sizeOf rfl rfl (Nat.le_of_ble_eq_true rfl) rfl (c_X4_sizeOf (by unfold inR; omega) hk') (fun r τ _ hp => ?_)
  obtain ⟨rfl, rfl⟩ := hp
  rw [hz]
  refine M.1 [57] 80 _ ?_
  refine ⟨⟨ht0, ht⟩, ⟨by omega, by omega⟩, ⟨by omega, by omega⟩, ⟨by omega, by omega⟩, ⟨by omega, by omega⟩, ?_⟩
  rw [ez, Int.toNat_natCast]
  refine M.2.2.2.2.2.2.1 rfl wmin (by decide) (Nat.le_of_ble_eq_true rfl) (by constructor <;> decide) h3 ?_
  obtain ⟨mn, hmn⟩ : ∃ y, y = if τ 22 p + τ 22 (p + z) < 1000000 then τ 22 p + τ 22 (p + z) else 1000000 := ⟨_, rfl⟩
  rw [← hmn]
  have hmr : inR mn := by
    rw [hmn]
    split
    · exact h3
    · constructor <;> decide
  refine M.1 [61] 80 _ ?_
  refine ⟨⟨by omega, by omega⟩, ?_⟩
  rw [Int.toNat_natCast]
  obtain ⟨σ1, e1⟩ : ∃ y, y = stu τ 22 p mn := ⟨_, rfl⟩
  rw [← e1]
  have r1 : rng σ1 := by rw [e1]; exact rng_stu hr hmr _ _
  have f20 : σ1 20 = τ 20 := by rw [e1, stu_j _ _ _ (by decide)]
  have f21 : σ1 21 = τ 21 := by rw [e1, stu_j _ _ _ (by decide)]
  have f23 : σ1 23 = τ 23 := by rw [e1, stu_j _ _ _ (by decide)]
  have f22 : σ1 22 = va_up (τ 22) p mn := by rw [e1]; simp [stu, va_up]
  have fx : eqx [20, 21, 22, 23] τ σ1 := by rw [e1]; exact eqx_stu eqx_rfl (by decide) _ _
  obtain ⟨S, hS⟩ : ∃ y, y = τ 11 t.toNat + τ 20 (p + z) := ⟨_, rfl⟩
  obtain ⟨N, hN⟩ : ∃ y, y = 1 + τ 21 (p + z) := ⟨_, rfl⟩
  rw [← hS] at h1 ⊢
  rw [← hN] at h2 ⊢
  have upd : (τ 20 p < S ∨ (S = τ 20 p ∧ N < τ 21 p)) → V (94, [(0, .inl 5), (1, .inr (p : Int)), (2, .inr t), (3, .inl 2), (4, .inr ((p : Int) + z)), (5, .inr S), (6, .inr N)], [], σ1) := by
    intro h
    refine M.1 [117] 80 _ ?_
    refine ⟨⟨by omega, by omega⟩, ⟨by omega, by omega⟩, ⟨by omega, by omega⟩, ?_⟩
    simp only [Int.toNat_natCast]
    refine ret rfl ⟨rng_stu (rng_stu (rng_stu r1 h1 _ _) h2 _ _) (by unfold inR; omega) _ _, eqx_stu (eqx_stu (eqx_stu fx (by decide) _ _) (by decide) _ _) (by decide) _ _, ?_, Or.inr ⟨by rw [← hS, ← hN]; exact h, ?_, ?_, ?_⟩⟩
    · rw [stu_j _ _ _ (by decide), stu_j _ _ _ (by decide), stu_j _ _ _ (by decide), f22, hmn]
    · rw [stu_j _ _ _ (by decide), stu_j _ _ _ (by decide), ← hS, ← f20]; simp [stu, va_up]
    · rw [stu_j _ _ _ (by decide), ← hN, ← f21]; simp [stu, va_up, f21]
    · rw [← f23]; simp [stu, va_up, f23]
  have keep : ¬ (τ 20 p < S ∨ (S = τ 20 p ∧ N < τ 21 p)) → V (117, [(0, .inl 5), (1, .inr (p : Int)), (2, .inr t), (3, .inl 2), (4, .inr ((p : Int) + z)), (5, .inr S), (6, .inr N)], [], σ1) := by
    intro h
    exact ret rfl ⟨r1, fx, by rw [f22, hmn], Or.inl ⟨by rw [← hS, ← hN]; exact h, f20, f21, f23⟩⟩
  refine M.1 [94, 117] 80 _ ?_
  refine ⟨⟨by omega, by omega⟩, ⟨h1, r1 _ _⟩, fun c1 => ?_, fun c1 => ?_⟩
  · rw [Int.toNat_natCast, f20] at c1
    exact upd (Or.inl c1)
  · rw [Int.toNat_natCast, f20] at c1
    refine ⟨⟨by omega, by omega⟩, ⟨h1, r1 _ _⟩, fun c2 => ?_, fun c2 => ?_⟩
    · rw [Int.toNat_natCast, f20] at c2
      exact keep (by omega)
    · rw [Int.toNat_natCast, f20] at c2
      refine ⟨⟨by omega, by omega⟩, ⟨h2, r1 _ _⟩, fun c3 => ?_, fun c3 => ?_⟩
      · rw [Int.toNat_natCast, f21] at c3
        exact keep (by omega)
      · rw [Int.toNat_natCast, f21] at c3
        exact upd (by omega)
end CH
end
section
/-! rows of tokens between two places, their points, their order, their number -/
def sm (P : Int → Int) : List Int → Int
  | [] => 0
  | t :: r => P t + sm P r
theorem sm_app (P : Int → Int) : ∀ (r s : List Int), sm P (r ++ s) = sm P r + sm P s
  | [], s => by simp [sm]
  | t :: r, s => by simp only [List.cons_append, sm, sm_app P r s]; omega
def lx : List Int → List Int → Prop
  | a :: r, b :: s => a < b ∨ (a = b ∧ lx r s)
  | _, _ => False
theorem lx_irr : ∀ (r : List Int), ¬ lx r r
  | [], h => h
  | a :: r, h => by
    rcases h with h | ⟨-, h⟩
    · omega
    · exact lx_irr r h
theorem lx_trans : ∀ {r s u : List Int}, lx r s → lx s u → lx r u
  | [], _, _, h, _ => h.elim
  | _ :: _, [], _, h, _ => h.elim
  | _ :: _, _ :: _, [], _, h => h.elim
  | a :: r, b :: s, c :: u, h1, h2 => by
    rcases h1 with h1 | ⟨e1, h1⟩ <;> rcases h2 with h2 | ⟨e2, h2⟩
    · exact Or.inl (by omega)
    · exact Or.inl (by omega)
    · exact Or.inl (by omega)
    · exact Or.inr ⟨by omega, lx_trans h1 h2⟩
theorem lx_tot : ∀ {r s : List Int}, r.length = s.length → r ≠ s → lx r s ∨ lx s r
  | [], [], _, h => absurd rfl h
  | [], _ :: _, h, _ => by simp at h
  | _ :: _, [], h, _ => by simp at h
  | a :: r, b :: s, h, hn => by
    by_cases e : a = b
    · subst e
      have hl : r.length = s.length := by simpa using h
      have hne : r ≠ s := fun q => hn (by rw [q])
      rcases lx_tot hl hne with h | h
      · exact Or.inl (Or.inr ⟨rfl, h⟩)
      · exact Or.inr (Or.inr ⟨rfl, h⟩)
    · rcases (show a < b ∨ b < a by omega) with h | h
      · exact Or.inl (Or.inl h)
      · exact Or.inr (Or.inl h)
theorem lx_appr : ∀ {r s : List Int} (u : List Int), lx r s → lx (r ++ u) (s ++ u)
  | [], _, _, h => h.elim
  | _ :: _, [], _, h => h.elim
  | a :: r, b :: s, u, h => by
    rcases h with h | ⟨e, h⟩
    · exact Or.inl h
    · exact Or.inr ⟨e, lx_appr u h⟩
theorem lx_appl : ∀ {r s : List Int} (u : List Int), lx r s → lx (u ++ r) (u ++ s)
  | _, _, [], h => h
  | _, _, a :: u, h => Or.inr ⟨rfl, lx_appl u h⟩
def bt (P : Int → Int) (r s : List Int) : Prop := sm P s < sm P r ∨ (sm P r = sm P s ∧ (r.length < s.length ∨ (r.length = s.length ∧ lx r s)))
theorem bt_irr {P : Int → Int} (r : List Int) : ¬ bt P r r := by
  intro h
  rcases h with h | ⟨-, h | ⟨-, h⟩⟩
  · omega
  · omega
  · exact lx_irr r h
theorem bt_trans {P : Int → Int} {r s u : List Int} (h1 : bt P r s) (h2 : bt P s u) : bt P r u := by
  unfold bt at *
  rcases h1 with h1 | ⟨e1, h1 | ⟨l1, h1⟩⟩ <;> rcases h2 with h2 | ⟨e2, h2 | ⟨l2, h2⟩⟩
  · left; omega
  · left; omega
  · left; omega
  · left; omega
  · right; exact ⟨by omega, Or.inl (by omega)⟩
  · right; exact ⟨by omega, Or.inl (by omega)⟩
  · left; omega
  · right; exact ⟨by omega, Or.inl (by omega)⟩
  · right; exact ⟨by omega, Or.inr ⟨by omega, lx_trans h1 h2⟩⟩
theorem bt_tot {P : Int → Int} {r s : List Int} (h : r ≠ s) : bt P r s ∨ bt P s r := by
  unfold bt
  rcases Int.lt_trichotomy (sm P r) (sm P s) with h1 | h1 | h1
  · right; left; exact h1
  · rcases Nat.lt_trichotomy r.length s.length with h2 | h2 | h2
    · left; right; exact ⟨h1, Or.inl h2⟩
    · rcases lx_tot h2 h with h3 | h3
      · left; right; exact ⟨h1, Or.inr ⟨h2, h3⟩⟩
      · right; right; exact ⟨h1.symm, Or.inr ⟨h2.symm, h3⟩⟩
    · right; right; exact ⟨h1.symm, Or.inl h2⟩
  · left; left; exact h1
theorem bt_appr {P : Int → Int} {r s : List Int} (u : List Int) (h : bt P r s) : bt P (r ++ u) (s ++ u) := by
  unfold bt at *
  rw [sm_app, sm_app, List.length_append, List.length_append]
  rcases h with h | ⟨e, h | ⟨e2, h⟩⟩
  · left; omega
  · right; exact ⟨by omega, Or.inl (by omega)⟩
  · right; exact ⟨by omega, Or.inr ⟨by omega, lx_appr u h⟩⟩
theorem bt_appl {P : Int → Int} {r s : List Int} (u : List Int) (h : bt P r s) : bt P (u ++ r) (u ++ s) := by
  unfold bt at *
  rw [sm_app, sm_app, List.length_append, List.length_append]
  rcases h with h | ⟨e, h | ⟨e2, h⟩⟩
  · left; omega
  · right; exact ⟨by omega, Or.inl (by omega)⟩
  · right; exact ⟨by omega, Or.inr ⟨by omega, lx_appl u h⟩⟩
theorem bt_uniq {P : Int → Int} {r s : List Int} (h1 : ¬ bt P r s) (h2 : ¬ bt P s r) : r = s := by
  by_cases e : r = s
  · exact e
  · rcases bt_tot (P := P) e with h | h
    · exact absurd h h1
    · exact absurd h h2
def tl (bs : List (List Int)) (j : Nat) : Nat := (bs.getD j []).length
def fit (n : Nat) (F : Nat → Int) (bs : List (List Int)) (j p : Nat) : Prop := p + tl bs j ≤ n ∧ ∀ i, i < tl bs j → F (p + i) = (bs.getD j []).getD i 0
def stp (n : Nat) (F : Nat → Int) (bs : List (List Int)) (p : Nat) (t : Int) (z : Nat) : Prop := p < n ∧ ((t = F p ∧ z = 1) ∨ ∃ j, j < bs.length ∧ t = 256 + (j : Int) ∧ z = tl bs j ∧ fit n F bs j p)
def pth (n : Nat) (F : Nat → Int) (bs : List (List Int)) : Nat → List Int → Nat → Prop
  | p, [], e => p = e
  | p, t :: r, e => ∃ z, stp n F bs p t z ∧ pth n F bs (p + z) r e
theorem pth_app {n : Nat} {F : Nat → Int} {bs : List (List Int)} : ∀ {r s : List Int} {p e : Nat}, pth n F bs p (r ++ s) e ↔ ∃ m, pth n F bs p r m ∧ pth n F bs m s e
  | [], s, p, e => by
    constructor
    · intro h
      exact ⟨p, rfl, h⟩
    · rintro ⟨m, rfl, h⟩
      exact h
  | t :: r, s, p, e => by
    constructor
    · rintro ⟨z, h1, h2⟩
      obtain ⟨m, h3, h4⟩ := pth_app.mp h2
      exact ⟨m, ⟨z, h1, h3⟩, h4⟩
    · rintro ⟨m, ⟨z, h1, h3⟩, h4⟩
      exact ⟨z, h1, pth_app.mpr ⟨m, h3, h4⟩⟩
/-- what is asked of the learned tokens' bytes -/
def bsOk (bs : List (List Int)) : Prop := ∀ j, j < bs.length → 2 ≤ tl bs j
theorem stp_fun {n : Nat} {F : Nat → Int} {bs : List (List Int)} {p : Nat} {t : Int} {z z' : Nat} (hF : F p < 256) (h : stp n F bs p t z) (h' : stp n F bs p t z') : z = z' := by
  obtain ⟨-, h | ⟨j, -, h, hz, -⟩⟩ := h <;> obtain ⟨-, h' | ⟨j', -, h', hz', -⟩⟩ := h'
  · omega
  · omega
  · omega
  · have : j = j' := by omega
    subst this
    omega
theorem stp_le {n : Nat} {F : Nat → Int} {bs : List (List Int)} {p : Nat} {t : Int} {z : Nat} (h : stp n F bs p t z) (hb : bsOk bs) : 1 ≤ z ∧ p + z ≤ n := by
  obtain ⟨hp, h | ⟨j, hj, h, hz, hf⟩⟩ := h
  · omega
  · have := hb j hj
    have := hf.1
    omega
theorem pth_le {n : Nat} {F : Nat → Int} {bs : List (List Int)} (hb : bsOk bs) : ∀ {r : List Int} {p e : Nat}, pth n F bs p r e → p + r.length ≤ e ∧ (p ≤ n → e ≤ n)
  | [], p, e, h => by
    have : p = e := h
    simp only [List.length_nil]
    omega
  | t :: r, p, e, h => by
    obtain ⟨z, h1, h2⟩ := h
    have := stp_le h1 hb
    have := pth_le hb h2
    simp only [List.length_cons]
    omega
def sumf (g : Nat → Nat) : Nat → Nat
  | 0 => 0
  | k + 1 => sumf g k + g k
theorem sumf_congr {g h : Nat → Nat} : ∀ {k : Nat}, (∀ j, j < k → g j = h j) → sumf g k = sumf h k
  | 0, _ => rfl
  | k + 1, q => by
    unfold sumf
    rw [sumf_congr (fun j hj => q j (by omega)), q k (by omega)]
noncomputable def iff0 (P : Prop) (x : Nat) : Nat := @ite _ P (Classical.propDecidable P) x 0
theorem iff0_t {P : Prop} (h : P) (x : Nat) : iff0 P x = x := by unfold iff0; rw [if_pos h]
theorem iff0_f {P : Prop} (h : ¬ P) (x : Nat) : iff0 P x = 0 := by unfold iff0; rw [if_neg h]
noncomputable def np (n : Nat) (F : Nat → Int) (bs : List (List Int)) : Nat → Nat → Nat
  | 0, p => if p = n then 1 else 0
  | f + 1, p => if p = n then 1 else np n F bs f (p + 1) + sumf (fun j => iff0 (fit n F bs j p) (np n F bs f (p + tl bs j))) bs.length
theorem np_st {n : Nat} {F : Nat → Int} {bs : List (List Int)} (hb : bsOk bs) : ∀ (f f' p : Nat), p ≤ n → n - p ≤ f → n - p ≤ f' → np n F bs f p = np n F bs f' p
  | 0, 0, p, _, _, _ => rfl
  | 0, f' + 1, p, hp, h, _ => by
    have : p = n := by omega
    unfold np
    rw [if_pos this, if_pos this]
  | f + 1, 0, p, hp, _, h => by
    have : p = n := by omega
    unfold np
    rw [if_pos this, if_pos this]
  | f + 1, f' + 1, p, hp, h, h' => by
    unfold np
    by_cases e : p = n
    · rw [if_pos e, if_pos e]
    · rw [if_neg e, if_neg e, np_st hb f f' (p + 1) (by omega) (by omega) (by omega)]
      congr 1
      refine sumf_congr (fun j hj => ?_)
      by_cases hf : fit n F bs j p
      · rw [iff0_t hf, iff0_t hf]
        have := hb j hj
        have := hf.1
        exact np_st hb f f' _ (by omega) (by omega) (by omega)
      · rw [iff0_f hf, iff0_f hf]
/-- how many rows there are from p to the end -/
noncomputable def nB (n : Nat) (F : Nat → Int) (bs : List (List Int)) (p : Nat) : Nat := np n F bs n p
theorem nB_n (n : Nat) (F : Nat → Int) (bs : List (List Int)) : nB n F bs n = 1 := by
  unfold nB
  cases n <;> unfold np <;> rw [if_pos rfl]
theorem nB_p {n : Nat} {F : Nat → Int} {bs : List (List Int)} (hb : bsOk bs) {p : Nat} (hp : p < n) : nB n F bs p = nB n F bs (p + 1) + sumf (fun j => iff0 (fit n F bs j p) (nB n F bs (p + tl bs j))) bs.length := by
  unfold nB
  rw [np_st hb n ((n - p - 1) + 1) p (by omega) (by omega) (by omega)]
  rw [np]
  rw [if_neg (by omega), np_st hb (n - p - 1) n (p + 1) (by omega) (by omega) (by omega)]
  congr 1
  refine sumf_congr (fun j hj => ?_)
  by_cases hf : fit n F bs j p
  · rw [iff0_t hf, iff0_t hf]
    have := hb j hj
    have := hf.1
    exact np_st hb _ _ _ (by omega) (by omega) (by omega)
  · rw [iff0_f hf, iff0_f hf]
end
section
/-! the shared state: text T, learned pairs ps (first, second, count), points P; and how the class holds it -/
def tbo (bs : List (List Int)) (t : Int) : List Int := if t < 256 then [t] else bs.getD (t - 256).toNat []
def tbl (ps : List (Int × Int × Int)) : List (List Int) := ps.foldl (fun bs q => bs ++ [tbo bs q.1 ++ tbo bs q.2.1]) []
theorem tbl_snoc (ps : List (Int × Int × Int)) (q : Int × Int × Int) : tbl (ps ++ [q]) = tbl ps ++ [tbo (tbl ps) q.1 ++ tbo (tbl ps) q.2.1] := by
  unfold tbl
  rw [List.foldl_append]
  rfl
theorem tbl_len (ps : List (Int × Int × Int)) : (tbl ps).length = ps.length := by
  have key : ∀ (ps : List (Int × Int × Int)) (bs : List (List Int)), (ps.foldl (fun bs q => bs ++ [tbo bs q.1 ++ tbo bs q.2.1]) bs).length = bs.length + ps.length := by
    intro ps
    induction ps with
    | nil => intro bs; rfl
    | cons q ps ih =>
      intro bs
      rw [List.foldl_cons, ih]
      simp
      omega
  have := key ps []
  simpa [tbl] using this
def textC (σ : St) (T : List Int) : Prop := σ 1 1 = T.length ∧ T.length ≤ 120 ∧ ∀ i, i < T.length → σ 6 i = T.getD i 0 ∧ 0 ≤ T.getD i 0 ∧ T.getD i 0 < 256
def vocC (σ : St) (ps : List (Int × Int × Int)) : Prop := σ 2 5 = ps.length ∧ ps.length ≤ 32 ∧ (∀ t q, ps[t]? = some q → σ 7 t = q.1 ∧ σ 8 t = q.2.1 ∧ σ 9 t = q.2.2) ∧ ∀ j, j < ps.length → σ 10 j = tl (tbl ps) j ∧ 0 ≤ σ 13 j ∧ σ 13 j + tl (tbl ps) j ≤ 120 ∧ ∀ i, i < tl (tbl ps) j → σ 12 (σ 13 j + i).toNat = ((tbl ps).getD j []).getD i 0
def ptsC (σ : St) (k : Nat) (P : Int → Int) : Prop := ∀ t : Nat, t < 256 + k → σ 11 t = P (t : Int)
def ptsR (k : Nat) (P : Int → Int) : Prop := ∀ t : Int, 0 ≤ t → t < 256 + k → -120 ≤ P t ∧ P t ≤ 120
section WG
variable {σ : St} {T : List Int} {ps : List (Int × Int × Int)} {P : Int → Int}
theorem voc_isL (hv : vocC σ ps) {j : Nat} (hj : j < ps.length) : isL σ (256 + (j : Int)) := by
  unfold isL
  rw [hv.1]
  omega
theorem voc_sz (hv : vocC σ ps) {j : Nat} (hj : j < ps.length) : szC σ (256 + (j : Int)) = tl (tbl ps) j := by
  rw [szC_l (voc_isL hv hj), show (256 + (j : Int) - 256).toNat = j by omega]
  exact (hv.2.2.2 j hj).1
theorem voc_by (hv : vocC σ ps) {j i : Nat} (hj : j < ps.length) (hi : i < tl (tbl ps) j) : byC σ (256 + (j : Int)) i = ((tbl ps).getD j []).getD i 0 := by
  obtain ⟨h1, h2, h3, h4⟩ := hv.2.2.2 j hj
  rw [byC_l (voc_isL hv hj), show (256 + (j : Int) - 256).toNat = j by omega, if_pos (by omega)]
  exact h4 i hi
theorem voc_st (ht : textC σ T) (hv : vocC σ ps) {j p : Nat} (hj : j < ps.length) : stP σ (256 + (j : Int)) (p : Int) ↔ fit T.length (fun i => T.getD i 0) (tbl ps) j p := by
  unfold stP fit
  rw [voc_sz hv hj, ht.1]
  constructor
  · rintro ⟨-, h2, h3⟩
    refine ⟨by omega, fun i hi => ?_⟩
    have := h3 i (by omega)
    rw [voc_by hv hj hi, show ((p : Int) + (i : Int)).toNat = p + i by omega, (ht.2.2 (p + i) (by omega)).1] at this
    exact this
  · rintro ⟨h2, h3⟩
    refine ⟨by omega, by omega, fun i hi => ?_⟩
    have hi : i < tl (tbl ps) j := by omega
    rw [voc_by hv hj hi, show ((p : Int) + (i : Int)).toNat = p + i by omega, (ht.2.2 (p + i) (by omega)).1]
    exact h3 i hi
theorem stp_tok {n : Nat} {F : Nat → Int} {bs : List (List Int)} (hF : ∀ i, i < n → 0 ≤ F i ∧ F i < 256) {p z : Nat} {t : Int} (h : stp n F bs p t z) : 0 ≤ t ∧ t < 256 + bs.length := by
  obtain ⟨hp, h | ⟨j, hj, h, -⟩⟩ := h
  · have := hF p hp
    omega
  · omega
theorem sm_bd {n : Nat} {F : Nat → Int} {bs : List (List Int)} (hF : ∀ i, i < n → 0 ≤ F i ∧ F i < 256) (hP : ptsR bs.length P) : ∀ {r : List Int} {p e : Nat}, pth n F bs p r e → -120 * (r.length : Int) ≤ sm P r ∧ sm P r ≤ 120 * (r.length : Int)
  | [], p, e, h => by simp [sm]
  | t :: r, p, e, h => by
    obtain ⟨z, h1, h2⟩ := h
    have h3 := stp_tok hF h1
    have h4 := hP t h3.1 h3.2
    have h5 := sm_bd hF hP h2
    simp only [sm, List.length_cons]
    omega
def dpAt (τ : St) (n : Nat) (F : Nat → Int) (bs : List (List Int)) (P : Int → Int) (rows : Nat → List Int) (p : Nat) : Prop :=
  pth n F bs p (rows p) n ∧ τ 20 p = sm P (rows p) ∧ τ 21 p = (rows p).length ∧ τ 22 p = (Nat.min (nB n F bs p) 1000000 : Nat) ∧ (p < n → ∃ z, stp n F bs p (τ 23 p) z ∧ rows p = τ 23 p :: rows (p + z)) ∧ ∀ row, pth n F bs p row n → ¬ bt P row (rows p)
def dpC (τ : St) (n : Nat) (F : Nat → Int) (bs : List (List Int)) (P : Int → Int) (lo : Nat) : Prop := ∃ rows : Nat → List Int, ∀ p, lo ≤ p → p ≤ n → dpAt τ n F bs P rows p
/-- at place p, with the bytes and the first t learned tokens tried -/
def inAt (τ : St) (n : Nat) (F : Nat → Int) (bs : List (List Int)) (P : Int → Int) (rows : Nat → List Int) (p t : Nat) : Prop :=
  ∃ z, stp n F bs p (τ 23 p) z ∧ (τ 23 p = F p ∨ ∃ j, j < t ∧ τ 23 p = 256 + (j : Int)) ∧ τ 20 p = sm P (τ 23 p :: rows (p + z)) ∧ τ 21 p = (rows (p + z)).length + 1 ∧ τ 22 p = (Nat.min (nB n F bs (p + 1) + sumf (fun j => iff0 (fit n F bs j p) (nB n F bs (p + tl bs j))) t) 1000000 : Nat) ∧ ∀ x r, (x = F p ∨ ∃ j, j < t ∧ x = 256 + (j : Int)) → pth n F bs p (x :: r) n → ¬ bt P (x :: r) (τ 23 p :: rows (p + z))
theorem bt_cons {x : Int} {r s : List Int} (h : bt P (x :: r) (x :: s)) : bt P r s := by
  unfold bt at *
  simp only [sm, List.length_cons] at h
  rcases h with h | ⟨e, h | ⟨e2, h⟩⟩
  · left; omega
  · right; exact ⟨by omega, Or.inl (by omega)⟩
  · refine Or.inr ⟨by omega, Or.inr ⟨by omega, ?_⟩⟩
    rcases h with h | ⟨-, h⟩
    · omega
    · exact h
theorem inAt_0 {τ : St} {n : Nat} {F : Nat → Int} {bs : List (List Int)} {rows : Nat → List Int} {p : Nat} (hF : ∀ i, i < n → 0 ≤ F i ∧ F i < 256) (hp : p < n) (hd : dpAt τ n F bs P rows (p + 1)) (h20 : τ 20 p = P (F p) + τ 20 (p + 1)) (h21 : τ 21 p = 1 + τ 21 (p + 1)) (h22 : τ 22 p = τ 22 (p + 1)) (h23 : τ 23 p = F p) : inAt τ n F bs P rows p 0 := by
  obtain ⟨d1, d2, d3, d4, d5, d6⟩ := hd
  refine ⟨1, ⟨hp, Or.inl ⟨h23, rfl⟩⟩, Or.inl h23, by rw [h20, d2, h23]; rfl, by rw [h21, d3]; omega, by rw [h22, d4]; simp [sumf], ?_⟩
  intro x r hx hpth hb
  rcases hx with hx | ⟨j, hj, -⟩
  · obtain ⟨z, hs, hr⟩ := hpth
    have hz : z = 1 := stp_fun (hF p hp).2 hs ⟨hp, Or.inl ⟨hx, rfl⟩⟩
    subst hz
    rw [h23, hx] at hb
    exact d6 r hr (bt_cons hb)
  · omega
theorem min_cap (a b : Nat) : Nat.min (Nat.min a 1000000 + Nat.min b 1000000) 1000000 = Nat.min (a + b) 1000000 := by
  simp only [Nat.min_def]
  split <;> split <;> split <;> (try split) <;> omega
theorem inAt_skip {τ : St} {n : Nat} {F : Nat → Int} {bs : List (List Int)} {rows : Nat → List Int} {p t : Nat} (hF : ∀ i, i < n → 0 ≤ F i ∧ F i < 256) (h : inAt τ n F bs P rows p t) (hf : ¬ fit n F bs t p) : inAt τ n F bs P rows p (t + 1) := by
  obtain ⟨z, h1, h2, h3, h4, h5, h6⟩ := h
  refine ⟨z, h1, ?_, h3, h4, ?_, ?_⟩
  · rcases h2 with h2 | ⟨j, hj, h2⟩
    · exact Or.inl h2
    · exact Or.inr ⟨j, by omega, h2⟩
  · rw [h5, sumf, iff0_f hf]
    rfl
  · intro x r hx hp
    rcases hx with hx | ⟨j, hj, hx⟩
    · exact h6 x r (Or.inl hx) hp
    · rcases Nat.lt_or_ge j t with hc | hc
      · exact h6 x r (Or.inr ⟨j, hc, hx⟩) hp
      · exfalso
        have : j = t := by omega
        subst this
        obtain ⟨z', hs, -⟩ := hp
        obtain ⟨hpn, hs | ⟨j', hj', hs, -, hf'⟩⟩ := hs
        · have := hF p hpn
          omega
        · have : j' = j := by omega
          subst this
          exact hf hf'
theorem inAt_add {τ υ : St} {n : Nat} {F : Nat → Int} {bs : List (List Int)} {rows : Nat → List Int} {p t : Nat} (hF : ∀ i, i < n → 0 ≤ F i ∧ F i < 256) (hb : bsOk bs) (ht : t < bs.length) (hp : p < n) (h : inAt τ n F bs P rows p t) (hf : fit n F bs t p) (hd : dpAt τ n F bs P rows (p + tl bs t))
    (h22 : υ 22 p = if τ 22 p + τ 22 (p + tl bs t) < 1000000 then τ 22 p + τ 22 (p + tl bs t) else 1000000)
    (hc : (¬ (τ 20 p < P (256 + (t : Int)) + τ 20 (p + tl bs t) ∨ (P (256 + (t : Int)) + τ 20 (p + tl bs t) = τ 20 p ∧ 1 + τ 21 (p + tl bs t) < τ 21 p)) ∧ υ 20 p = τ 20 p ∧ υ 21 p = τ 21 p ∧ υ 23 p = τ 23 p) ∨ ((τ 20 p < P (256 + (t : Int)) + τ 20 (p + tl bs t) ∨ (P (256 + (t : Int)) + τ 20 (p + tl bs t) = τ 20 p ∧ 1 + τ 21 (p + tl bs t) < τ 21 p)) ∧ υ 20 p = P (256 + (t : Int)) + τ 20 (p + tl bs t) ∧ υ 21 p = 1 + τ 21 (p + tl bs t) ∧ υ 23 p = 256 + (t : Int))) : inAt υ n F bs P rows p (t + 1) := by
  obtain ⟨z, h1, h2, h3, h4, h5, h6⟩ := h
  obtain ⟨d1, d2, d3, d4, d5, d6⟩ := hd
  have hst : stp n F bs p (256 + (t : Int)) (tl bs t) := ⟨hp, Or.inr ⟨t, ht, rfl, rfl, hf⟩⟩
  have hm : υ 22 p = (Nat.min (nB n F bs (p + 1) + sumf (fun j => iff0 (fit n F bs j p) (nB n F bs (p + tl bs j))) (t + 1)) 1000000 : Nat) := by
    rw [h22, h5, d4, sumf, iff0_t hf, ← Nat.add_assoc, ← min_cap (nB n F bs (p + 1) + sumf (fun j => iff0 (fit n F bs j p) (nB n F bs (p + tl bs j))) t)]
    generalize Nat.min (nB n F bs (p + 1) + sumf (fun j => iff0 (fit n F bs j p) (nB n F bs (p + tl bs j))) t) 1000000 = a
    generalize Nat.min (nB n F bs (p + tl bs t)) 1000000 = b
    simp only [Nat.min_def]
    split <;> split <;> omega
  -- any row that begins with the new token is no better than the new one
  have new : ∀ r, pth n F bs p ((256 + (t : Int)) :: r) n → ¬ bt P ((256 + (t : Int)) :: r) ((256 + (t : Int)) :: rows (p + tl bs t)) := by
    intro r hr hbt
    obtain ⟨z', hs, hr⟩ := hr
    have hz : z' = tl bs t := stp_fun (hF p hp).2 hs hst
    subst hz
    exact d6 r hr (bt_cons hbt)
  rcases hc with ⟨hn, e20, e21, e23⟩ | ⟨hy, e20, e21, e23⟩
  · refine ⟨z, by rw [e23]; exact h1, ?_, by rw [e20, e23]; exact h3, by rw [e21]; exact h4, hm, ?_⟩
    · rw [e23]
      rcases h2 with h2 | ⟨j, hj, h2⟩
      · exact Or.inl h2
      · exact Or.inr ⟨j, by omega, h2⟩
    · intro x r hx hpr hbt
      rw [e23] at hbt
      have old : (x = F p ∨ ∃ j, j < t ∧ x = 256 + (j : Int)) → False := fun hx => h6 x r hx hpr hbt
      rcases hx with hx | ⟨j, hj, hx⟩
      · exact old (Or.inl hx)
      · rcases Nat.lt_or_ge j t with hc | hc
        · exact old (Or.inr ⟨j, hc, hx⟩)
        · have : j = t := by omega
          subst this
          subst hx
          refine new r hpr (bt_trans hbt ?_)
          -- the old one is ahead of the new one
          have hlt : τ 23 p < 256 + (j : Int) := by
            rcases h2 with h2 | ⟨j', hj', h2⟩
            · have := hF p hp
              omega
            · omega
          rw [h3, d2, h4, d3] at hn
          unfold bt
          simp only [sm, List.length_cons] at hn ⊢
          by_cases q1 : P (256 + (j : Int)) + sm P (rows (p + tl bs j)) < P (τ 23 p) + sm P (rows (p + z))
          · exact Or.inl q1
          · refine Or.inr ⟨by omega, ?_⟩
            by_cases q2 : (rows (p + z)).length + 1 < (rows (p + tl bs j)).length + 1
            · exact Or.inl q2
            · exact Or.inr ⟨by omega, Or.inl hlt⟩
  · refine ⟨tl bs t, by rw [e23]; exact hst, Or.inr ⟨t, by omega, e23⟩, by rw [e20, e23, d2]; rfl, by rw [e21, d3]; omega, hm, ?_⟩
    intro x r hx hpr hbt
    rw [e23] at hbt
    have old : (x = F p ∨ ∃ j, j < t ∧ x = 256 + (j : Int)) → False := fun hx => by
      refine h6 x r hx hpr (bt_trans hbt ?_)
      rw [h3, d2, h4, d3] at hy
      unfold bt
      simp only [sm, List.length_cons] at hy ⊢
      rcases hy with hy | ⟨hy, hy2⟩
      · exact Or.inl (by omega)
      · exact Or.inr ⟨by omega, Or.inl (by omega)⟩
    rcases hx with hx | ⟨j, hj, hx⟩
    · exact old (Or.inl hx)
    · rcases Nat.lt_or_ge j t with hc | hc
      · exact old (Or.inr ⟨j, hc, hx⟩)
      · have : j = t := by omega
        subst this
        subst hx
        exact new r hpr hbt
theorem dpAt_congr {τ υ : St} {n : Nat} {F : Nat → Int} {bs : List (List Int)} {rows : Nat → List Int} {p : Nat} (h : dpAt τ n F bs P rows p) (h20 : υ 20 p = τ 20 p) (h21 : υ 21 p = τ 21 p) (h22 : υ 22 p = τ 22 p) (h23 : υ 23 p = τ 23 p) : dpAt υ n F bs P rows p := by
  unfold dpAt at *
  rw [h20, h21, h22, h23]
  exact h
theorem dpC_step {τ : St} {n : Nat} {F : Nat → Int} {bs : List (List Int)} {rows : Nat → List Int} {p : Nat} (hF : ∀ i, i < n → 0 ≤ F i ∧ F i < 256) (hb : bsOk bs) (hp : p < n) (h : inAt τ n F bs P rows p bs.length) (hd : ∀ q, p + 1 ≤ q → q ≤ n → dpAt τ n F bs P rows q) : dpC τ n F bs P p := by
  obtain ⟨z, h1, h2, h3, h4, h5, h6⟩ := h
  have hz := stp_le h1 hb
  refine ⟨va_up rows p (τ 23 p :: rows (p + z)), fun q hq hqn => ?_⟩
  by_cases e : q = p
  · subst e
    unfold dpAt
    rw [va_up_self]
    refine ⟨⟨z, h1, (hd (q + z) (by omega) (by omega)).1⟩, h3, by rw [h4]; simp, by rw [h5, ← nB_p hb hp], fun _ => ⟨z, h1, by rw [va_up_ne _ _ (by omega)]⟩, ?_⟩
    intro row hr
    cases row with
    | nil => have : q = n := hr; omega
    | cons x r =>
      refine h6 x r ?_ hr
      obtain ⟨z', hs, -⟩ := hr
      obtain ⟨-, hs | ⟨j, hj, hs, -⟩⟩ := hs
      · exact Or.inl hs.1
      · exact Or.inr ⟨j, hj, hs⟩
  · obtain ⟨d1, d2, d3, d4, d5, d6⟩ := hd q (by omega) hqn
    unfold dpAt
    rw [va_up_ne _ _ e]
    refine ⟨d1, d2, d3, d4, fun hqn => ?_, d6⟩
    obtain ⟨z', hs, hr⟩ := d5 hqn
    have := stp_le hs hb
    exact ⟨z', hs, by rw [va_up_ne _ _ (by omega)]; exact hr⟩
theorem dpC_n {τ : St} {n : Nat} {F : Nat → Int} {bs : List (List Int)} (hb : bsOk bs) (h20 : τ 20 n = 0) (h21 : τ 21 n = 0) (h22 : τ 22 n = 1) : dpC τ n F bs P n := by
  refine ⟨fun _ => [], fun p hp hpn => ?_⟩
  have : p = n := by omega
  subst this
  refine ⟨rfl, h20, h21, by rw [nB_n, h22]; rfl, fun h => by omega, ?_⟩
  intro row hr
  have := (pth_le hb hr).1
  have e : row = [] := List.length_eq_zero_iff.mp (by omega)
  rw [e]
  exact bt_irr []
end WG
end
section
section WG2
variable {l : Launch} {D : va_G} {cA : Nat → ClassId} {ad : Nat → Nat} {σ : St} {T : List Int} {ps : List (Int × Int × Int)} {P : Int → Int}
theorem kC_of (hr : rng σ) (ht : textC σ T) (hv : vocC σ ps) : kC σ := by
  refine ⟨hr, ?_⟩
  rw [ht.1, hv.1]
  have := ht.2.1
  have := hv.2.1
  omega
theorem textC_x {τ : St} (ht : textC σ T) (h1 : τ 1 = σ 1) (h6 : τ 6 = σ 6) : textC τ T := by
  unfold textC
  rw [h1, h6]
  exact ht
theorem vocC_x {τ : St} (hv : vocC σ ps) (h2 : τ 2 = σ 2) (h7 : τ 7 = σ 7) (h8 : τ 8 = σ 8) (h9 : τ 9 = σ 9) (h10 : τ 10 = σ 10) (h12 : τ 12 = σ 12) (h13 : τ 13 = σ 13) : vocC τ ps := by
  unfold vocC
  rw [h2, h7, h8, h9, h10, h12, h13]
  exact hv
theorem ptsC_x {τ : St} {k : Nat} (hv : ptsC σ k P) (h : τ 11 = σ 11) : ptsC τ k P := by
  unfold ptsC
  rw [h]
  exact hv
theorem c_X0_weigh (hr : rng σ) (ht : textC σ T) (hv : vocC σ ps) (hP : ptsC σ ps.length P) (hPr : ptsR ps.length P) (hb : bsOk (tbl ps)) : Cv l yX0_weigh wsX0_weigh (rh 3) D cA ad LC [.inl 5, .inl 1, .inl 2] σ (fun τ => rng τ ∧ eqx [20, 21, 22, 23] σ τ ∧ dpC τ T.length (fun i => T.getD i 0) (tbl ps) P 0) := by
  have hF : ∀ i, i < T.length → 0 ≤ (fun i => T.getD i 0) i ∧ (fun i => T.getD i 0) i < 256 := fun i hi => (ht.2.2 i hi).2
  have hlen := tbl_len ps
  have hn := ht.2.1
  have hk32 := hv.2.1
  have hPr' : ptsR (tbl ps).length P := by rw [hlen]; exact hPr
  refine Cv.walk fX0_weigh pX0_weigh [] (by decide) rfl LC_ok tX0_weigh_ok fX0_weigh_ok pX0_weigh_ok klOk_0 (Nat.le_of_ble_eq_true rfl) (fun V M ret => ?_)
  generalize hFe : (fun i => T.getD i 0) = F at hF ret
  generalize hbe : tbl ps = bs at *
  have keep : ∀ τ : St, rng τ → eqx [20, 21, 22, 23] σ τ → textC τ T ∧ vocC τ ps ∧ ptsC τ ps.length P ∧ kC τ := by
    intro τ hrt hx
    have t1 : textC τ T := textC_x ht (hx 1 (by decide)) (hx 6 (by decide))
    have t2 : vocC τ ps := vocC_x hv (hx 2 (by decide)) (hx 7 (by decide)) (hx 8 (by decide)) (hx 9 (by decide)) (hx 10 (by decide)) (hx 12 (by decide)) (hx 13 (by decide))
    exact ⟨t1, t2, ptsC_x hP (hx 11 (by decide)), kC_of hrt t1 t2⟩
  have bnd : ∀ (τ : St) (rows : Nat → List Int) (p : Nat), p ≤ T.length → dpAt τ T.length F bs P rows p → -14400 ≤ τ 20 p ∧ τ 20 p ≤ 14400 ∧ 0 ≤ τ 21 p ∧ τ 21 p ≤ 120 ∧ 0 ≤ τ 22 p ∧ τ 22 p ≤ 1000000 := by
    intro τ rows p hp h
    obtain ⟨d1, d2, d3, d4, -, -⟩ := h
    have h1 := sm_bd hF hPr' d1
    have h2 := pth_le hb d1
    have h3 : Nat.min (nB T.length F bs p) 1000000 ≤ 1000000 := Nat.min_le_right _ _
    rw [d2, d3, d4]
    omega
  have outer : ∀ (q : Nat) (x : Int) (τ : St), x = (q : Int) - 1 → q ≤ T.length → rng τ → eqx [20, 21, 22, 23] σ τ → dpC τ T.length F bs P q → V (31, [(0, .inl 5), (1, .inl 1), (2, .inl 2), (3, .inr (T.length : Int)), (4, .inr x)], [], τ) := by
    intro q
    induction q with
    | zero =>
      intro x τ hx _ hrt hxx hd
      refine M.1 [101] 60 _ ?_
      refine ⟨by unfold inR; omega, fun c1 => ret rfl ⟨hrt, hxx, hd⟩, fun c1 => absurd c1 (by omega)⟩
    | succ q ih =>
      intro x τ hx hq hrt hxx hd
      have hxq : x = (q : Int) := by omega
      subst hxq
      obtain ⟨rows, hd⟩ := hd
      obtain ⟨k1, k2, k3, k4⟩ := keep τ hrt hxx
      have hoc : τ 6 q = F q := by rw [(k1.2.2 q (by omega)).1, ← hFe]
      have hFq := hF q (by omega)
      have b1 := bnd τ rows (q + 1) (by omega) (hd (q + 1) (by omega) (by omega))
      have hPq : τ 11 (F q).toNat = P (F q) := by
        rw [k3 (F q).toNat (by omega), show (((F q).toNat : Nat) : Int) = F q by omega]
      have hPb := hPr (F q) hFq.1 (by omega)
      refine M.1 [47] 60 _ ?_
      refine ⟨by unfold inR; omega, fun c1 => absurd c1 (by omega), fun c1 => ?_⟩
      refine ⟨⟨by omega, by omega⟩, ?_⟩
      rw [Int.toNat_natCast, hoc]
      refine M.2.2.1 (vs := [.inr (q : Int), .inr (F q), .inl 2]) (rest := []) rfl oX0_weigh_X0_startWithByte rfl rfl (Nat.le_of_ble_eq_true rfl) rfl (c_X0_startWithByte hrt (by omega) hFq.1 (by omega) (by rw [hPq]; unfold inR; omega) (by unfold inR; omega)) (fun υ hp => ?_)
      obtain ⟨p1, p2, p3, p4, p5, p6⟩ := hp
      rw [hPq] at p3
      have hx2 : eqx [20, 21, 22, 23] σ υ := eqx_trans hxx p2
      have hd2 : ∀ r, q + 1 ≤ r → r ≤ T.length → dpAt υ T.length F bs P rows r := fun r h1 h2 => dpAt_congr (hd r h1 h2) (by rw [p3, va_up_ne _ _ (by omega)]) (by rw [p4, va_up_ne _ _ (by omega)]) (by rw [p5, va_up_ne _ _ (by omega)]) (by rw [p6, va_up_ne _ _ (by omega)])
      have hin : inAt υ T.length F bs P rows q 0 := inAt_0 hF (by omega) (hd2 (q + 1) (by omega) (by omega)) (by rw [p3, va_up_self, va_up_ne _ _ (by omega)]) (by rw [p4, va_up_self, va_up_ne _ _ (by omega)]) (by rw [p5, va_up_self, va_up_ne _ _ (by omega)]) (by rw [p6, va_up_self])
      have inner : ∀ (d t : Nat) (y : Int) (υ : St), t + d = ps.length → y = 256 + (t : Int) → rng υ → eqx [20, 21, 22, 23] σ υ → (∀ r, q + 1 ≤ r → r ≤ T.length → dpAt υ T.length F bs P rows r) → inAt υ T.length F bs P rows q t → V (55, [(0, .inl 5), (1, .inl 1), (2, .inl 2), (3, .inr (T.length : Int)), (4, .inr (q : Int)), (5, .inr y)], [], υ) := by
        intro d
        induction d with
        | zero =>
          intro t y υ htd hy hru hxu hdu hinu
          obtain ⟨k1, k2, k3, k4⟩ := keep υ hru hxu
          have hte : t = bs.length := by omega
          subst hte
          have hl := k2.1
          refine M.1 [31] 60 _ ?_
          refine ⟨⟨by unfold inR; omega, by unfold inR; omega⟩, fun c1 => ?_, fun c1 => absurd c1 (by omega)⟩
          refine M.2.2.2.2.2.1 _ (lpick_mem [0, 1, 2, 3, 4]) ?_
          exact ih ((q : Int) + (-1)) υ (by omega) (by omega) hru hxu (dpC_step hF hb (by omega) hinu hdu)
        | succ d ihd =>
          intro t y υ htd hy hru hxu hdu hinu
          obtain ⟨k1, k2, k3, k4⟩ := keep υ hru hxu
          have htl : t < ps.length := by omega
          have hl := k2.1
          have hsz := voc_sz k2 htl
          have hst := voc_st k1 k2 (p := q) htl
          have hvt := k2.2.2.2 t htl
          rw [hbe] at hsz hst hvt
          rw [hFe] at hst
          subst hy
          have hnext : ∀ υ2 : St, rng υ2 → eqx [20, 21, 22, 23] σ υ2 → (∀ r, q + 1 ≤ r → r ≤ T.length → dpAt υ2 T.length F bs P rows r) → inAt υ2 T.length F bs P rows q (t + 1) → V (89, [(0, .inl 5), (1, .inl 1), (2, .inl 2), (3, .inr (T.length : Int)), (4, .inr (q : Int)), (5, .inr (256 + (t : Int)))], [], υ2) := by
            intro υ2 a1 a2 a3 a4
            refine M.1 [55] 60 _ ?_
            exact ihd (t + 1) _ υ2 (by omega) (by omega) a1 a2 a3 a4
          refine M.1 [74] 60 _ ?_
          refine ⟨⟨by unfold inR; omega, by unfold inR; omega⟩, fun c1 => absurd c1 (by omega), fun c1 => ?_⟩
          refine M.2.1 (vs := [.inr (256 + (t : Int)), .inl 1, .inr (q : Int)]) (rest := []) rfl oX0_weigh_X4_standsAt rfl rfl (Nat.le_of_ble_eq_true rfl) rfl (c_X4_standsAt k4 (by unfold inR; omega) (by unfold inR; omega) (by rw [hsz]; omega) (by rw [hsz]; omega) (fun _ => by rw [show (256 + (t : Int) - 256).toNat = t by omega]; omega)) (fun r υ2 _ hp => ?_)
          obtain ⟨rfl, rfl⟩ := hp
          refine M.1 [86, 89] 60 _ ?_
          refine ⟨b01_r _, fun c2 => ?_, fun c2 => ?_⟩
          · exact hnext υ2 hru hxu hdu (inAt_skip hF hinu (fun h => b01_0.mp c2 (hst.mpr h)))
          · have hfit : fit T.length F bs t q := hst.mp (Classical.not_not.mp (fun h => c2 (b01_f h)))
            have hbt := hb t (by omega)
            have hf1 := hfit.1
            have hPt : υ2 11 (256 + (t : Int)).toNat = P (256 + (t : Int)) := by
              rw [k3 (256 + (t : Int)).toNat (by omega), show (((256 + (t : Int)).toNat : Nat) : Int) = 256 + (t : Int) by omega]
            have hPtb := hPr (256 + (t : Int)) (by omega) (by omega)
            have bz := bnd υ2 rows (q + tl bs t) (by omega) (hdu (q + tl bs t) (by omega) (by omega))
            have hm22 : 0 ≤ υ2 22 q ∧ υ2 22 q ≤ 1000000 := by
              obtain ⟨z, -, -, -, -, h5, -⟩ := hinu
              have h3 : Nat.min (nB T.length F bs (q + 1) + sumf (fun j => iff0 (fit T.length F bs j q) (nB T.length F bs (q + tl bs j))) t) 1000000 ≤ 1000000 := Nat.min_le_right _ _
              rw [h5]
              omega
            refine M.2.2.1 (vs := [.inr (q : Int), .inr (256 + (t : Int)), .inl 2]) (rest := []) rfl oX0_weigh_X0_startWithLearned rfl rfl (Nat.le_of_ble_eq_true rfl) rfl (c_X0_startWithLearned (z := tl bs t) k4 (by omega) (by omega) (by omega) hsz (by omega) (by rw [hPt]; unfold inR; omega) (by unfold inR; omega) (by unfold inR; omega)) (fun υ3 hp => ?_)
            obtain ⟨s1, s2, s3, s4⟩ := hp
            rw [hPt] at s4
            refine hnext υ3 s1 (eqx_trans hxu s2) (fun r h1 h2 => ?_) (inAt_add hF hb (by omega) (by omega) hinu hfit (hdu (q + tl bs t) (by omega) (by omega)) (by rw [s3, va_up_self]) ?_)
            · refine dpAt_congr (hdu r h1 h2) ?_ ?_ (by rw [s3, va_up_ne _ _ (by omega)]) ?_
              · rcases s4 with ⟨-, e, -, -⟩ | ⟨-, e, -, -⟩ <;> rw [e]
                rw [va_up_ne _ _ (by omega)]
              · rcases s4 with ⟨-, -, e, -⟩ | ⟨-, -, e, -⟩ <;> rw [e]
                rw [va_up_ne _ _ (by omega)]
              · rcases s4 with ⟨-, -, -, e⟩ | ⟨-, -, -, e⟩ <;> rw [e]
                rw [va_up_ne _ _ (by omega)]
            · rcases s4 with ⟨e0, e1, e2, e3⟩ | ⟨e0, e1, e2, e3⟩
              · exact Or.inl ⟨e0, by rw [e1], by rw [e2], by rw [e3]⟩
              · exact Or.inr ⟨e0, by rw [e1, va_up_self], by rw [e2, va_up_self], by rw [e3, va_up_self]⟩
      refine M.1 [55] 60 _ ?_
      exact inner ps.length 0 256 υ (by omega) (by omega) p1 hx2 hd2 hin
  have h11 := ht.1
  refine M.1 [12] 60 _ ?_
  refine ⟨⟨by rw [h11]; omega, by rw [h11]; omega⟩, ?_⟩
  rw [h11, Int.toNat_natCast]
  refine M.1 [31] 60 _ ?_
  refine ⟨⟨by omega, by omega⟩, ⟨by omega, by omega⟩, ?_⟩
  rw [Int.toNat_natCast]
  refine outer T.length _ _ rfl (Nat.le_refl _) (rng_stu (rng_stu (rng_stu hr inR_0 _ _) inR_0 _ _) (by constructor <;> decide) _ _) (eqx_stu (eqx_stu (eqx_stu eqx_rfl (by decide) _ _) (by decide) _ _) (by decide) _ _) (dpC_n hb ?_ ?_ ?_) <;> simp [stu, va_up]
end WG2
end
section
/-! the answers, told of the shared state -/
abbrev PSt : Type := List (Int × Int × Int)
def RC (σ : St) (T : List Int) (ps : PSt) (P : Int → Int) : Prop := rng σ ∧ textC σ T ∧ vocC σ ps ∧ ptsC σ ps.length P
def FT (T : List Int) : Nat → Int := fun i => T.getD i 0
noncomputable def wT (T : List Int) : Int → Int := fun p => b01 (bwP (FT T) T.length p)
def spT (T : List Int) : Rw := spl (FT T) T.length
def aOct (T : List Int) (b : Int) : Int := if 0 ≤ b ∧ b < 256 then (if T.length < 120 then (T.length : Int) + 1 else -4) else -2
def tOct (T : List Int) (b : Int) : List Int := if 0 ≤ b ∧ b < 256 ∧ T.length < 120 then T ++ [b] else T
def aCut (T : List Int) (n : Int) : Int := if 0 ≤ n ∧ n ≤ T.length then T.length else -2
def tCut (T : List Int) (n : Int) : List Int := if 0 ≤ n ∧ n ≤ T.length then T.take n.toNat else T
def aByt (T : List Int) (i : Int) : Int := if 0 ≤ i ∧ i < T.length then T.getD i.toNat 0 else -1
def nw (w : Int → Int) : Nat → Int
  | 0 => 0
  | i + 1 => nw w i + w (i : Int)
noncomputable def aWrd (T : List Int) : Int := nw (wT T) T.length
def d3 : Int × Int × Int := (0, 0, 0)
def lrnd (ps : PSt) (t : Int) : Prop := 256 ≤ t ∧ t < 256 + ps.length
def tokn (ps : PSt) (t : Int) : Prop := 0 ≤ t ∧ t < 256 + ps.length
def aPai (ps : PSt) (t s : Int) : Int := if 256 ≤ t ∧ t < 256 + ps.length then (if s = 0 then (ps.getD (t - 256).toNat d3).1 else if s = 1 then (ps.getD (t - 256).toNat d3).2.1 else -2) else -1
def aCnt (ps : PSt) (t : Int) : Int := if 256 ≤ t ∧ t < 256 + ps.length then (ps.getD (t - 256).toNat d3).2.2 else -1
def aSiz (ps : PSt) (t : Int) : Int := if 0 ≤ t ∧ t < 256 + ps.length then (tbo (tbl ps) t).length else -1
def aPts (ps : PSt) (t p : Int) : Int := if 0 ≤ t ∧ t < 256 + ps.length then (if -100 ≤ p ∧ p ≤ 100 then 1 else -2) else -1
def pPts (ps : PSt) (P : Int → Int) (t p : Int) : Int → Int := if 0 ≤ t ∧ t < 256 + ps.length ∧ -100 ≤ p ∧ p ≤ 100 then (fun x => if x = t then p else P x) else P
def isBst (n : Nat) (F : Nat → Int) (bs : List (List Int)) (P : Int → Int) (row : List Int) : Prop := pth n F bs 0 row n ∧ ∀ r, pth n F bs 0 r n → ¬ bt P r row
noncomputable def bst (T : List Int) (ps : PSt) (P : Int → Int) : List Int := @dite _ (∃ row, isBst T.length (FT T) (tbl ps) P row) (Classical.propDecidable _) (fun h => h.choose) (fun _ => [])
theorem bst_eq {T : List Int} {ps : PSt} {P : Int → Int} {row : List Int} (h : isBst T.length (FT T) (tbl ps) P row) : bst T ps P = row := by
  have hx : ∃ row, isBst T.length (FT T) (tbl ps) P row := ⟨row, h⟩
  unfold bst
  rw [dif_pos hx]
  have h2 := hx.choose_spec
  exact bt_uniq (fun q => h.2 _ h2.1 q) (fun q => h2.2 _ h.1 q)
noncomputable def aBst (T : List Int) (ps : PSt) (P : Int → Int) : Int := (bst T ps P).length
noncomputable def aBat (T : List Int) (ps : PSt) (P : Int → Int) (i : Int) : Int := if 0 ≤ i ∧ i < (bst T ps P).length then (bst T ps P).getD i.toNat 0 else -1
noncomputable def aSum (T : List Int) (ps : PSt) (P : Int → Int) : Int := sm P (bst T ps P)
noncomputable def aWay (T : List Int) (ps : PSt) : Int := (Nat.min (nB T.length (FT T) (tbl ps) 0) 1000000 : Nat)
theorem getD_snoc (T : List Int) (b : Int) (i : Nat) : (T ++ [b]).getD i 0 = if i < T.length then T.getD i 0 else if i = T.length then b else 0 := by
  rw [List.getD_eq_getElem?_getD, List.getD_eq_getElem?_getD, List.getElem?_append]
  split
  · rfl
  · split
    · rename_i h
      subst h
      simp
    · rename_i h1 h2
      rw [List.getElem?_eq_none (by simp; omega)]
      rfl
theorem getD_take (T : List Int) {m i : Nat} (h : i < m) : (T.take m).getD i 0 = T.getD i 0 := by
  rw [List.getD_eq_getElem?_getD, List.getD_eq_getElem?_getD, List.getElem?_take, if_pos h]
theorem ps_at {σ : St} {ps : PSt} (hv : vocC σ ps) {j : Nat} (hj : j < ps.length) : σ 7 j = (ps.getD j d3).1 ∧ σ 8 j = (ps.getD j d3).2.1 ∧ σ 9 j = (ps.getD j d3).2.2 := by
  have e : ps[j]? = some (ps.getD j d3) := by
    rw [List.getD_eq_getElem?_getD, List.getElem?_eq_getElem hj]
    rfl
  exact hv.2.2.1 j _ e
section X5a
variable {l : Launch} {D : va_G} {cA : Nat → ClassId} {ad : Nat → Nat} {σ : St} {T : List Int} {ps : PSt} {P : Int → Int}
theorem c_X5_octet {b : Int} (h : RC σ T ps P) (hb : inR b) : Ci l yX5_octet wsX5_octet (rh 1) D cA ad LC [.inl 0, .inr b] σ (fun r τ => r = aOct T b ∧ RC τ (tOct T b) ps P) := by
  obtain ⟨hr, ht, hv, hp⟩ := h
  have hk := kC_of hr ht hv
  have h11 := ht.1
  have hn := ht.2.1
  refine Ci.walk fX5_octet pX5_octet [] (by decide) rfl LC_ok tX5_octet_ok fX5_octet_ok pX5_octet_ok klOk_0 (Nat.le_of_ble_eq_true rfl) (fun V M ret => ?_)
  have bad : ¬ (0 ≤ b ∧ b < 256) → V (13, lnum 0 [.inl 0, .inr b], [.inr (-2)], σ) := by
    intro hn
    refine ret rfl (by constructor <;> decide) ⟨by unfold aOct; rw [if_neg hn], hr, ?_, hv, hp⟩
    unfold tOct
    rw [if_neg (by omega)]
    exact ht
  refine M.1 [13, 28, 34] 60 _ ?_
  refine ⟨hb, fun c1 => bad (by omega), fun c1 => ?_⟩
  refine ⟨⟨hb, by constructor <;> decide⟩, fun c2 => ?_, fun c2 => bad (by omega)⟩
  refine ⟨⟨hr _ _, by constructor <;> decide⟩, fun c3 => ?_, fun c3 => ?_⟩
  · refine M.2.2.1 (vs := [.inr b]) (rest := []) rfl oX5_octet_X3_append rfl rfl (Nat.le_of_ble_eq_true rfl) rfl (c_X3_append hk c3) (fun τ hp' => ?_)
    subst hp'
    rw [h11, Int.toNat_natCast]
    refine M.1 [44] 60 _ ?_
    refine ret rfl ?_ ⟨?_, ?_, ?_, ?_, ?_⟩
    · rw [stu_s]
      unfold inR
      omega
    · unfold aOct
      rw [stu_s, if_pos (by omega), if_pos (by omega)]
    · exact rng_stu (rng_stu hr hb _ _) (by unfold inR; omega) _ _
    · unfold tOct
      rw [if_pos (by omega)]
      refine ⟨by rw [stu_s]; simp, by simp; omega, fun i hi => ?_⟩
      simp only [List.length_append, List.length_singleton] at hi
      rw [stu_j _ _ _ (by decide), getD_snoc]
      by_cases e : i = T.length
      · rw [e, stu_s, if_neg (by omega), if_pos rfl]
        omega
      · rw [stu_i _ _ _ e, if_pos (by omega)]
        exact ht.2.2 i (by omega)
    · exact vocC_x hv (by simp [stu, va_up]) (by simp [stu, va_up]) (by simp [stu, va_up]) (by simp [stu, va_up]) (by simp [stu, va_up]) (by simp [stu, va_up]) (by simp [stu, va_up])
    · exact ptsC_x hp (by simp [stu, va_up])
  · refine ret rfl (by constructor <;> decide) ⟨by unfold aOct; rw [if_pos (by omega), if_neg (by omega)], hr, ?_, hv, hp⟩
    unfold tOct
    rw [if_neg (by omega)]
    exact ht
theorem c_X5_cut {n : Int} (h : RC σ T ps P) (hb : inR n) : Ci l yX5_cut wsX5_cut (rh 0) D cA ad LC [.inl 0, .inr n] σ (fun r τ => r = aCut T n ∧ RC τ (tCut T n) ps P) := by
  obtain ⟨hr, ht, hv, hp⟩ := h
  have h11 := ht.1
  have hn := ht.2.1
  refine Ci.walk fX5_cut pX5_cut [] (by decide) rfl LC_ok tX5_cut_ok fX5_cut_ok pX5_cut_ok klOk_0 (Nat.le_of_ble_eq_true rfl) (fun V M ret => ?_)
  have bad : ¬ (0 ≤ n ∧ n ≤ T.length) → V (17, lnum 0 [.inl 0, .inr n], [.inr (-2)], σ) := by
    intro hn
    refine ret rfl (by constructor <;> decide) ⟨by unfold aCut; rw [if_neg hn], hr, ?_, hv, hp⟩
    unfold tCut
    rw [if_neg hn]
    exact ht
  refine M.1 [17, 35] 60 _ ?_
  refine ⟨hb, fun c1 => bad (by omega), fun c1 => ?_⟩
  refine ⟨⟨hb, hr _ _⟩, fun c2 => ?_, fun c2 => bad (by omega)⟩
  refine ret rfl (hr _ _) ⟨?_, rng_stu hr hb _ _, ?_, ?_, ?_⟩
  · unfold aCut
    rw [if_pos (by omega)]
    exact h11
  · unfold tCut
    rw [if_pos (by omega)]
    refine ⟨by rw [stu_s, List.length_take]; omega, by rw [List.length_take]; omega, fun i hi => ?_⟩
    rw [List.length_take] at hi
    rw [stu_j _ _ _ (by decide), getD_take _ (by omega)]
    exact ht.2.2 i (by omega)
  · exact vocC_x hv (by simp [stu, va_up]) (by simp [stu, va_up]) (by simp [stu, va_up]) (by simp [stu, va_up]) (by simp [stu, va_up]) (by simp [stu, va_up]) (by simp [stu, va_up])
  · exact ptsC_x hp (by simp [stu, va_up])
theorem c_X5_byteAt {i : Int} (h : RC σ T ps P) (hb : inR i) : Ci l yX5_byteAt wsX5_byteAt (rh 0) D cA ad LC [.inl 0, .inr i] σ (fun r τ => r = aByt T i ∧ RC τ T ps P) := by
  have h' := h
  obtain ⟨hr, ht, hv, hp⟩ := h
  have h11 := ht.1
  have hn := ht.2.1
  refine Ci.walk fX5_byteAt pX5_byteAt [] (by decide) rfl LC_ok tX5_byteAt_ok fX5_byteAt_ok pX5_byteAt_ok klOk_0 (Nat.le_of_ble_eq_true rfl) (fun V M ret => ?_)
  refine M.1 [16, 26] 60 _ ?_
  refine ⟨hb, fun c1 => ?_, fun c1 => ?_⟩
  · exact ret rfl (by constructor <;> decide) ⟨by unfold aByt; rw [if_neg (by omega)], h'⟩
  · refine ⟨⟨hb, hr _ _⟩, fun c2 => ?_, fun c2 => ?_⟩
    · refine ⟨⟨by omega, by omega⟩, ?_⟩
      exact ret rfl (hr _ _) ⟨by unfold aByt; rw [if_pos (by omega), (ht.2.2 i.toNat (by omega)).1], h'⟩
    · exact ret rfl (by constructor <;> decide) ⟨by unfold aByt; rw [if_neg (by omega)], h'⟩
theorem bwP_FT (ht : textC σ T) (p : Int) : bwP (σ 6) (σ 1 1) p ↔ bwP (FT T) T.length p := by
  unfold bwP
  rw [ht.1]
  by_cases h : 0 ≤ p ∧ p < T.length
  · by_cases h0 : p = 0
    · simp [h0]
    · have e1 := (ht.2.2 p.toNat (by omega)).1
      have e2 := (ht.2.2 (p - 1).toNat (by omega)).1
      rw [e1, e2]
      rfl
  · constructor <;> (intro q; exact absurd ⟨q.1, q.2.1⟩ h)
theorem wT_eq (ht : textC σ T) : (fun p => b01 (bwP (σ 6) (σ 1 1) p)) = wT T := by
  funext p
  exact b01_c (bwP_FT ht p)
theorem wT_01 (T : List Int) (p : Int) : wT T p = 0 ∨ wT T p = 1 := b01_z _
theorem c_X5_words (h : RC σ T ps P) : Ci l yX5_words wsX5_words (rh 1) D cA ad LC [.inl 0] σ (fun r τ => r = aWrd T ∧ RC τ T ps P) := by
  have h' := h
  obtain ⟨hr, ht, hv, hp⟩ := h
  have hk := kC_of hr ht hv
  have h11 := ht.1
  have hn := ht.2.1
  refine Ci.walk fX5_words pX5_words [] (by decide) rfl LC_ok tX5_words_ok fX5_words_ok pX5_words_ok klOk_0 (Nat.le_of_ble_eq_true rfl) (fun V M ret => ?_)
  have nwb : ∀ i : Nat, 0 ≤ nw (wT T) i ∧ nw (wT T) i ≤ i := by
    intro i
    induction i with
    | zero => simp [nw]
    | succ i ih =>
      have := wT_01 T (i : Int)
      unfold nw
      omega
  have loop : ∀ (d i : Nat), i + d = T.length → V (4, [(0, .inl 0), (1, .inr (nw (wT T) i)), (2, .inr (i : Int))], [], σ) := by
    intro d
    induction d with
    | zero =>
      intro i hi
      have e : i = T.length := by omega
      subst e
      refine M.1 [36] 60 _ ?_
      refine ⟨⟨by unfold inR; omega, hr _ _⟩, fun c1 => ?_, fun c1 => absurd c1 (by omega)⟩
      have := nwb T.length
      exact ret rfl (by unfold inR; omega) ⟨rfl, h'⟩
    | succ d ih =>
      intro i hi
      refine M.1 [20] 60 _ ?_
      refine ⟨⟨by unfold inR; omega, hr _ _⟩, fun c1 => absurd c1 (by omega), fun c1 => ?_⟩
      refine M.2.1 (vs := [.inr (i : Int)]) (rest := []) rfl oX5_words_X3_beginsWord rfl rfl (Nat.le_of_ble_eq_true rfl) rfl (c_X3_beginsWord (by unfold inR; omega) hk) (fun r τ _ hp' => ?_)
      obtain ⟨rfl, rfl⟩ := hp'
      rw [b01_c (bwP_FT ht (i : Int))]
      have hh := ih (i + 1) (by omega)
      unfold nw at hh
      refine M.1 [4] 60 _ ?_
      refine ⟨b01_r _, fun c2 => ?_, fun c2 => ?_⟩
      · rw [show wT T (i : Int) = 0 from c2, Int.add_zero] at hh
        exact hh
      · rw [show wT T (i : Int) = 1 from (wT_01 T i).resolve_left c2] at hh
        exact hh
  refine M.1 [4] 60 _ ?_
  exact loop T.length 0 (by omega)
theorem isL_lr (hv : vocC σ ps) (t : Int) : isL σ t ↔ (256 ≤ t ∧ t < 256 + ps.length) := by
  unfold isL
  rw [hv.1]
theorem c_X5_pair {t s : Int} (h : RC σ T ps P) (ht' : inR t) (hs : inR s) : Ci l yX5_pair wsX5_pair (rh 1) D cA ad LC [.inl 0, .inr t, .inr s] σ (fun r τ => r = aPai ps t s ∧ RC τ T ps P) := by
  have h' := h
  obtain ⟨hr, ht, hv, hp⟩ := h
  have hk := kC_of hr ht hv
  have hl := hv.2.1
  refine Ci.walk fX5_pair pX5_pair [] (by decide) rfl LC_ok tX5_pair_ok fX5_pair_ok pX5_pair_ok klOk_0 (Nat.le_of_ble_eq_true rfl) (fun V M ret => ?_)
  refine M.1 [5] 60 _ ?_
  refine M.2.1 (vs := [.inr t]) (rest := []) rfl oX5_pair_X4_isLearned rfl rfl (Nat.le_of_ble_eq_true rfl) rfl (c_X4_isLearned ht' hk) (fun r τ _ hp' => ?_)
  obtain ⟨rfl, rfl⟩ := hp'
  refine M.1 [12, 24, 56] 60 _ ?_
  refine ⟨b01_r _, fun c1 => ?_, fun c1 => ?_⟩
  · have h1 := (isL_lr hv t).mp (Classical.not_not.mp (fun h => c1 (b01_f h)))
    have e := ps_at hv (j := (t - 256).toNat) (by omega)
    refine ⟨hs, fun c2 => ?_, fun c2 => ?_⟩
    · refine ⟨hs, fun c3 => absurd c2 c3, fun c3 => ?_⟩
      refine ⟨⟨by omega, by omega⟩, ?_⟩
      exact ret rfl (hr _ _) ⟨by unfold aPai; rw [if_pos h1, if_pos c2, e.1], h'⟩
    · refine ⟨⟨hs, by constructor <;> decide⟩, fun c3 => ?_, fun c3 => ?_⟩
      · refine ⟨hs, fun c4 => ?_, fun c4 => absurd c4 c2⟩
        refine ⟨⟨by omega, by omega⟩, ?_⟩
        exact ret rfl (hr _ _) ⟨by unfold aPai; rw [if_pos h1, if_neg c2, if_pos c3, e.2.1], h'⟩
      · exact ret rfl (by constructor <;> decide) ⟨by unfold aPai; rw [if_pos h1, if_neg c2, if_neg c3], h'⟩
  · exact ret rfl (by constructor <;> decide) ⟨by unfold aPai; rw [if_neg (fun q => b01_0.mp c1 ((isL_lr hv t).mpr q))], h'⟩
theorem c_X5_count {t : Int} (h : RC σ T ps P) (ht' : inR t) : Ci l yX5_count wsX5_count (rh 1) D cA ad LC [.inl 0, .inr t] σ (fun r τ => r = aCnt ps t ∧ RC τ T ps P) := by
  have h' := h
  obtain ⟨hr, ht, hv, hp⟩ := h
  have hk := kC_of hr ht hv
  have hl := hv.2.1
  refine Ci.walk fX5_count pX5_count [] (by decide) rfl LC_ok tX5_count_ok fX5_count_ok pX5_count_ok klOk_0 (Nat.le_of_ble_eq_true rfl) (fun V M ret => ?_)
  refine M.1 [5] 60 _ ?_
  refine M.2.1 (vs := [.inr t]) (rest := []) rfl oX5_count_X4_isLearned rfl rfl (Nat.le_of_ble_eq_true rfl) rfl (c_X4_isLearned ht' hk) (fun r τ _ hp' => ?_)
  obtain ⟨rfl, rfl⟩ := hp'
  refine M.1 [12, 26] 60 _ ?_
  refine ⟨b01_r _, fun c1 => ?_, fun c1 => ?_⟩
  · have h1 := (isL_lr hv t).mp (Classical.not_not.mp (fun h => c1 (b01_f h)))
    have e := ps_at hv (j := (t - 256).toNat) (by omega)
    refine ⟨⟨by omega, by omega⟩, ?_⟩
    exact ret rfl (hr _ _) ⟨by unfold aCnt; rw [if_pos h1, e.2.2], h'⟩
  · exact ret rfl (by constructor <;> decide) ⟨by unfold aCnt; rw [if_neg (fun q => b01_0.mp c1 ((isL_lr hv t).mpr q))], h'⟩
theorem sz_tbo (hv : vocC σ ps) {t : Int} (h : 0 ≤ t ∧ t < 256 + ps.length) : szC σ t = (tbo (tbl ps) t).length := by
  unfold tbo
  by_cases e : t < 256
  · rw [if_pos e, szC_b (fun q => by have := q.1; omega)]
    rfl
  · rw [if_neg e]
    have := voc_sz hv (j := (t - 256).toNat) (by omega)
    rw [show 256 + (((t - 256).toNat : Nat) : Int) = t by omega] at this
    exact this
theorem c_X5_size {t : Int} (h : RC σ T ps P) (ht' : inR t) : Ci l yX5_size wsX5_size (rh 2) D cA ad LC [.inl 0, .inr t] σ (fun r τ => r = aSiz ps t ∧ RC τ T ps P) := by
  have h' := h
  obtain ⟨hr, ht, hv, hp⟩ := h
  have hk := kC_of hr ht hv
  have hl := hv.1
  refine Ci.walk fX5_size pX5_size [] (by decide) rfl LC_ok tX5_size_ok fX5_size_ok pX5_size_ok klOk_0 (Nat.le_of_ble_eq_true rfl) (fun V M ret => ?_)
  refine M.1 [5] 60 _ ?_
  refine M.2.1 (vs := [.inr t]) (rest := []) rfl oX5_size_X4_isToken rfl rfl (Nat.le_of_ble_eq_true rfl) rfl (c_X4_isToken ht' hk) (fun r τ _ hp' => ?_)
  obtain ⟨rfl, rfl⟩ := hp'
  rw [hl]
  refine M.1 [12, 18] 60 _ ?_
  refine ⟨b01_r _, fun c1 => ?_, fun c1 => ?_⟩
  · have h1 := Classical.not_not.mp (fun h => c1 (b01_f h))
    refine M.2.1 (vs := [.inr t]) (rest := []) rfl oX5_size_X4_sizeOf rfl rfl (Nat.le_of_ble_eq_true rfl) rfl (c_X4_sizeOf ht' hk) (fun r τ hin hp' => ?_)
    obtain ⟨rfl, rfl⟩ := hp'
    exact ret rfl hin ⟨by unfold aSiz; rw [if_pos h1, sz_tbo hv h1], h'⟩
  · exact ret rfl (by constructor <;> decide) ⟨by unfold aSiz; rw [if_neg (b01_0.mp c1)], h'⟩
theorem c_X5_points {t p : Int} (h : RC σ T ps P) (ht' : inR t) (hp' : inR p) : Ci l yX5_points wsX5_points (rh 1) D cA ad LC [.inl 0, .inr t, .inr p] σ (fun r τ => r = aPts ps t p ∧ RC τ T ps (pPts ps P t p)) := by
  have h' := h
  obtain ⟨hr, ht, hv, hp⟩ := h
  have hk := kC_of hr ht hv
  have hl := hv.1
  have hl2 := hv.2.1
  refine Ci.walk fX5_points pX5_points [] (by decide) rfl LC_ok tX5_points_ok fX5_points_ok pX5_points_ok klOk_0 (Nat.le_of_ble_eq_true rfl) (fun V M ret => ?_)
  refine M.1 [5] 60 _ ?_
  refine M.2.1 (vs := [.inr t]) (rest := []) rfl oX5_points_X4_isToken rfl rfl (Nat.le_of_ble_eq_true rfl) rfl (c_X4_isToken ht' hk) (fun r τ _ hp2 => ?_)
  obtain ⟨rfl, rfl⟩ := hp2
  rw [hl]
  have no : ¬ (0 ≤ t ∧ t < 256 + ps.length ∧ -100 ≤ p ∧ p ≤ 100) → RC τ T ps (pPts ps P t p) := by
    intro q
    unfold pPts
    rw [if_neg q]
    exact h'
  refine M.1 [12, 27, 39] 60 _ ?_
  refine ⟨b01_r _, fun c1 => ?_, fun c1 => ?_⟩
  · have h1 := Classical.not_not.mp (fun h => c1 (b01_f h))
    refine ⟨⟨hp', by constructor <;> decide⟩, fun c2 => ?_, fun c2 => ?_⟩
    · exact ret rfl (by constructor <;> decide) ⟨by unfold aPts; rw [if_pos h1, if_neg (by omega)], no (by omega)⟩
    · refine ⟨⟨hp', by constructor <;> decide⟩, fun c3 => ?_, fun c3 => ?_⟩
      · refine ⟨⟨by omega, by omega⟩, ?_⟩
        refine ret rfl (by constructor <;> decide) ⟨by unfold aPts; rw [if_pos h1, if_pos (by omega)], rng_stu hr hp' _ _, textC_x ht (by simp [stu, va_up]) (by simp [stu, va_up]), vocC_x hv (by simp [stu, va_up]) (by simp [stu, va_up]) (by simp [stu, va_up]) (by simp [stu, va_up]) (by simp [stu, va_up]) (by simp [stu, va_up]) (by simp [stu, va_up]), ?_⟩
        intro x hx
        unfold pPts
        rw [if_pos (by omega)]
        by_cases e : x = t.toNat
        · subst e
          rw [stu_s, if_pos (by omega)]
        · rw [stu_i _ _ _ e, if_neg (by omega)]
          exact hp x hx
      · exact ret rfl (by constructor <;> decide) ⟨by unfold aPts; rw [if_pos h1, if_neg (by omega)], no (by omega)⟩
  · have h1 := b01_0.mp c1
    exact ret rfl (by constructor <;> decide) ⟨by unfold aPts; rw [if_neg h1], no (by omega)⟩
end X5a
end
section
def tellR (w : Int → Int) : PSt → Nat → Rw → Rw
  | [], _, r => r
  | q :: ps, j, r => tellR w ps (j + 1) (mrg w q.1 q.2.1 (256 + (j : Int)) r)
noncomputable def told (T : List Int) (ps : PSt) : Rw := tellR (wT T) ps 0 (spT T)
noncomputable def aTok (T : List Int) (ps : PSt) : Int := (told T ps).length
noncomputable def aAt (T : List Int) (ps : PSt) (i : Int) : Int := if 0 ≤ i ∧ i < (told T ps).length then ((told T ps).getD i.toNat (0, 0)).1 else -1
noncomputable def aFrm (T : List Int) (ps : PSt) (i : Int) : Int := if 0 ≤ i ∧ i < (told T ps).length then ((told T ps).getD i.toNat (0, 0)).2 else -1
theorem spl_congr {f g : Nat → Int} : ∀ {n : Nat}, (∀ i, i < n → f i = g i) → spl f n = spl g n
  | 0, _ => rfl
  | n + 1, h => by
    unfold spl
    rw [spl_congr (fun i hi => h i (by omega)), h n (by omega)]
section X5b
variable {l : Launch} {D : va_G} {cA : Nat → ClassId} {ad : Nat → Nat} {σ : St} {T : List Int} {ps : PSt} {P : Int → Int}
theorem RC_x {τ : St} (h : RC σ T ps P) (hr : rng τ) (hx : eqx [3, 4, 5, 14, 15, 16, 17, 18, 19, 20, 21, 22, 23] σ τ) : RC τ T ps P :=
  ⟨hr, textC_x h.2.1 (hx 1 (by decide)) (hx 6 (by decide)), vocC_x h.2.2.1 (hx 2 (by decide)) (hx 7 (by decide)) (hx 8 (by decide)) (hx 9 (by decide)) (hx 10 (by decide)) (hx 12 (by decide)) (hx 13 (by decide)), ptsC_x h.2.2.2 (hx 11 (by decide))⟩
theorem spT_eq (ht : textC σ T) : spl (σ 6) (σ 1 1).toNat = spT T := by
  rw [ht.1, Int.toNat_natCast]
  exact spl_congr (fun i hi => (ht.2.2 i hi).1)
theorem c_X5_tellText (h : RC σ T ps P) : Cv l yX5_tellText wsX5_tellText (rh 2) D cA ad LC [.inl 0] σ (fun τ => RC τ T ps P ∧ rowC τ (wT T) (told T ps)) := by
  have h' := h
  obtain ⟨hr, ht, hv, hp⟩ := h
  have hk := kC_of hr ht hv
  have hl2 := hv.2.1
  refine Cv.walk fX5_tellText pX5_tellText [] (by decide) rfl LC_ok tX5_tellText_ok fX5_tellText_ok pX5_tellText_ok klOk_0 (Nat.le_of_ble_eq_true rfl) (fun V M ret => ?_)
  have loop : ∀ (qs : PSt) (j : Nat) (R : Rw) (τ : St), (∀ i q, qs[i]? = some q → ps[j + i]? = some q) → j + qs.length = ps.length → rng τ → eqx [3, 14, 15, 16] σ τ → rowC τ (wT T) R → tellR (wT T) qs j R = told T ps → V (13, [(0, .inl 0), (1, .inr (j : Int))], [], τ) := by
    intro qs
    induction qs with
    | nil =>
      intro j R τ hq hj hrt hx hR hm
      have e2 : τ 2 = σ 2 := hx 2 (by decide)
      simp at hj
      refine M.1 [60] 60 _ ?_
      refine ⟨⟨by unfold inR; omega, hrt _ _⟩, fun c1 => ?_, fun c1 => absurd c1 (by rw [e2, hv.1]; omega)⟩
      refine ret rfl ⟨RC_x h' hrt (eqx_mono hx (by decide)), ?_⟩
      rw [← hm]
      exact hR
    | cons q qs ih =>
      intro j R τ hq hj hrt hx hR hm
      have e2 : τ 2 = σ 2 := hx 2 (by decide)
      have hRC := RC_x h' hrt (eqx_mono hx (by decide))
      have hkt := kC_of hRC.1 hRC.2.1 hRC.2.2.1
      simp only [List.length_cons] at hj
      have hq0 : ps[j]? = some q := by simpa using hq 0 q rfl
      have e := hRC.2.2.1.2.2.1 j q hq0
      refine M.1 [51] 60 _ ?_
      refine ⟨⟨by unfold inR; omega, hrt _ _⟩, fun c1 => absurd c1 (by rw [e2, hv.1]; omega), fun c1 => ?_⟩
      refine ⟨⟨by omega, by omega⟩, ⟨by omega, by omega⟩, ?_⟩
      rw [Int.toNat_natCast, e.1, e.2.1]
      refine M.2.2.1 (vs := [.inr q.1, .inr q.2.1, .inr (256 + (j : Int))]) (rest := []) rfl oX5_tellText_X2_merge rfl rfl (Nat.le_of_ble_eq_true rfl) rfl (c_X2_merge (by rw [← e.1]; exact hrt _ _) (by rw [← e.2.1]; exact hrt _ _) (by unfold inR; omega) hkt (wT_01 T) hR) (fun υ hp2 => ?_)
      obtain ⟨p1, p2, p3⟩ := hp2
      refine M.1 [13] 60 _ ?_
      refine ih (j + 1) _ υ (fun i z hz => ?_) (by omega) p1 (eqx_trans hx p2) p3 hm
      have := hq (i + 1) z (by simpa using hz)
      rwa [show j + (i + 1) = j + 1 + i by omega] at this
  refine M.1 [8] 60 _ ?_
  refine M.2.2.1 (vs := [.inl 1]) (rest := []) rfl oX5_tellText_X2_spell rfl rfl (Nat.le_of_ble_eq_true rfl) rfl (c_X2_spell hk) (fun υ hp2 => ?_)
  obtain ⟨p1, p2, p3⟩ := hp2
  rw [wT_eq ht, spT_eq ht] at p3
  refine M.1 [13] 60 _ ?_
  exact loop ps 0 (spT T) υ (fun i q hq => by rw [Nat.zero_add]; exact hq) (by omega) p1 p2 p3 rfl
theorem row_at {w : Int → Int} {R : Rw} (hR : rowC σ w R) {i : Nat} (hi : i < R.length) : σ 14 i = (R.getD i (0, 0)).1 ∧ σ 15 i = (R.getD i (0, 0)).2 := by
  have e : R[i]? = some (R.getD i (0, 0)) := by
    rw [List.getD_eq_getElem?_getD, List.getElem?_eq_getElem hi]
    rfl
  have := hold_at hR.2.2.1 e
  rwa [Nat.zero_add] at this
theorem c_X5_tokens (h : RC σ T ps P) : Ci l yX5_tokens wsX5_tokens (rh 3) D cA ad LC [.inl 0] σ (fun r τ => r = aTok T ps ∧ RC τ T ps P) := by
  refine Ci.walk fX5_tokens pX5_tokens [] (by decide) rfl LC_ok tX5_tokens_ok fX5_tokens_ok pX5_tokens_ok klOk_0 (Nat.le_of_ble_eq_true rfl) (fun V M ret => ?_)
  refine M.1 [1] 60 _ ?_
  refine M.2.2.1 (vs := []) (rest := []) rfl oX5_tokens_X5_tellText rfl rfl (Nat.le_of_ble_eq_true rfl) rfl (c_X5_tellText h) (fun υ hp2 => ?_)
  obtain ⟨p1, p2⟩ := hp2
  refine M.1 [11] 60 _ ?_
  exact ret rfl (p1.1 _ _) ⟨p2.1, p1⟩
theorem c_X5_at {i : Int} (h : RC σ T ps P) (hi : inR i) : Ci l yX5_at wsX5_at (rh 3) D cA ad LC [.inl 0, .inr i] σ (fun r τ => r = aAt T ps i ∧ RC τ T ps P) := by
  refine Ci.walk fX5_at pX5_at [] (by decide) rfl LC_ok tX5_at_ok fX5_at_ok pX5_at_ok klOk_0 (Nat.le_of_ble_eq_true rfl) (fun V M ret => ?_)
  refine M.1 [1] 60 _ ?_
  refine M.2.2.1 (vs := []) (rest := []) rfl oX5_at_X5_tellText rfl rfl (Nat.le_of_ble_eq_true rfl) rfl (c_X5_tellText h) (fun υ hp2 => ?_)
  obtain ⟨p1, p2⟩ := hp2
  have hN := p2.1
  have hN2 := p2.2.1
  refine M.1 [20, 30] 60 _ ?_
  refine ⟨hi, fun c1 => ?_, fun c1 => ?_⟩
  · exact ret rfl (by constructor <;> decide) ⟨by unfold aAt; rw [if_neg (by omega)], p1⟩
  · refine ⟨⟨hi, p1.1 _ _⟩, fun c2 => ?_, fun c2 => ?_⟩
    · refine ⟨⟨by omega, by omega⟩, ?_⟩
      exact ret rfl (p1.1 _ _) ⟨by unfold aAt; rw [if_pos (by omega), (row_at p2 (i := i.toNat) (by omega)).1], p1⟩
    · exact ret rfl (by constructor <;> decide) ⟨by unfold aAt; rw [if_neg (by omega)], p1⟩
theorem c_X5_from {i : Int} (h : RC σ T ps P) (hi : inR i) : Ci l yX5_from wsX5_from (rh 3) D cA ad LC [.inl 0, .inr i] σ (fun r τ => r = aFrm T ps i ∧ RC τ T ps P) := by
  refine Ci.walk fX5_from pX5_from [] (by decide) rfl LC_ok tX5_from_ok fX5_from_ok pX5_from_ok klOk_0 (Nat.le_of_ble_eq_true rfl) (fun V M ret => ?_)
  refine M.1 [1] 60 _ ?_
  refine M.2.2.1 (vs := []) (rest := []) rfl oX5_from_X5_tellText rfl rfl (Nat.le_of_ble_eq_true rfl) rfl (c_X5_tellText h) (fun υ hp2 => ?_)
  obtain ⟨p1, p2⟩ := hp2
  have hN := p2.1
  have hN2 := p2.2.1
  refine M.1 [20, 30] 60 _ ?_
  refine ⟨hi, fun c1 => ?_, fun c1 => ?_⟩
  · exact ret rfl (by constructor <;> decide) ⟨by unfold aFrm; rw [if_neg (by omega)], p1⟩
  · refine ⟨⟨hi, p1.1 _ _⟩, fun c2 => ?_, fun c2 => ?_⟩
    · refine ⟨⟨by omega, by omega⟩, ?_⟩
      exact ret rfl (p1.1 _ _) ⟨by unfold aFrm; rw [if_pos (by omega), (row_at p2 (i := i.toNat) (by omega)).2], p1⟩
    · exact ret rfl (by constructor <;> decide) ⟨by unfold aFrm; rw [if_neg (by omega)], p1⟩
theorem sz_stp (ht : textC σ T) (hv : vocC σ ps) {p z : Nat} {t : Int} (h : stp T.length (FT T) (tbl ps) p t z) : szC σ t = (z : Int) ∧ 0 ≤ t ∧ t < 288 := by
  obtain ⟨hp, ⟨h, hz⟩ | ⟨j, hj, h, hz, -⟩⟩ := h
  · have hb : 0 ≤ FT T p ∧ FT T p < 256 := (ht.2.2 p hp).2
    rw [szC_b (fun q => by have := q.1; omega)]
    omega
  · rw [tbl_len] at hj
    have := hv.2.1
    rw [h, voc_sz hv hj, hz]
    omega
theorem c_X0_chosenAfter {a : Nat} {rows : Nat → List Int} (h : RC σ T ps P) (hb : bsOk (tbl ps)) (hd : ∀ p, 0 ≤ p → p ≤ T.length → dpAt σ T.length (FT T) (tbl ps) P rows p) (ha : a < (rows 0).length) : Ci l yX0_chosenAfter wsX0_chosenAfter (rh 2) D cA ad LC [.inl 5, .inr (a : Int), .inl 2] σ (fun r τ => r = (rows 0).getD a 0 ∧ τ = σ) := by
  obtain ⟨hr, ht, hv, hp⟩ := h
  have hk := kC_of hr ht hv
  have hn := ht.2.1
  have hl0 := pth_le hb (hd 0 (Nat.le_refl _) (Nat.zero_le _)).1
  refine Ci.walk fX0_chosenAfter pX0_chosenAfter [] (by decide) rfl LC_ok tX0_chosenAfter_ok fX0_chosenAfter_ok pX0_chosenAfter_ok klOk_0 (Nat.le_of_ble_eq_true rfl) (fun V M ret => ?_)
  have loop : ∀ (d i p : Nat) (pre : List Int), i + d = a → p ≤ T.length → rows 0 = pre ++ rows p → pre.length = i → V (5, [(0, .inl 5), (1, .inr (a : Int)), (2, .inl 2), (3, .inr (p : Int)), (4, .inr (i : Int))], [], σ) := by
    intro d
    induction d with
    | zero =>
      intro i p pre hi hpn hrow hpre
      have e : i = a := by omega
      subst e
      obtain ⟨d1, -, -, -, d5, -⟩ := hd p (Nat.zero_le _) hpn
      have hne : 0 < (rows p).length := by rw [hrow, List.length_append] at ha; omega
      have hlp := pth_le hb d1
      have hp2 : p < T.length := by omega
      obtain ⟨z, -, hz⟩ := d5 hp2
      refine M.1 [56] 60 _ ?_
      refine ⟨⟨by unfold inR; omega, by unfold inR; omega⟩, fun c1 => ?_, fun c1 => absurd c1 (by omega)⟩
      refine ⟨by unfold inR; omega, fun c2 => absurd c2 (by omega), fun c2 => ?_⟩
      refine ⟨⟨by unfold inR; omega, by constructor <;> decide⟩, fun c3 => absurd c3 (by omega), fun c3 => ?_⟩
      refine ⟨⟨by omega, by omega⟩, ?_⟩
      rw [Int.toNat_natCast]
      refine ret rfl (hr _ _) ⟨?_, rfl⟩
      rw [hrow, hz, ← hpre]
      simp
    | succ d ih =>
      intro i p pre hi hpn hrow hpre
      obtain ⟨d1, -, -, -, d5, -⟩ := hd p (Nat.zero_le _) hpn
      have hne : 0 < (rows p).length := by rw [hrow, List.length_append] at ha; omega
      have hlp := pth_le hb d1
      have hp2 : p < T.length := by omega
      obtain ⟨z, hs, hz⟩ := d5 hp2
      have hsz := sz_stp ht hv hs
      have hsl := stp_le hs hb
      refine M.1 [25] 60 _ ?_
      refine ⟨⟨by unfold inR; omega, by unfold inR; omega⟩, fun c1 => absurd c1 (by omega), fun c1 => ?_⟩
      refine ⟨⟨by unfold inR; omega, by constructor <;> decide⟩, fun c2 => absurd c2 (by omega), fun c2 => ?_⟩
      refine ⟨⟨by omega, by omega⟩, ?_⟩
      rw [Int.toNat_natCast]
      refine M.2.1 (vs := [.inr (σ 23 p)]) (rest := [.inr (p : Int)]) rfl oX0_chosenAfter_X4_sizeOf rfl rfl (Nat.le_of_ble_eq_true rfl) rfl (c_X4_sizeOf (hr _ _) hk) (fun r υ _ hp2 => ?_)
      obtain ⟨rfl, rfl⟩ := hp2
      rw [hsz.1]
      refine M.1 [5] 60 _ ?_
      exact ih (i + 1) (p + z) (pre ++ [υ 23 p]) (by omega) (by omega) (by rw [hrow, hz]; simp) (by simp [hpre])
  refine M.1 [5] 60 _ ?_
  exact loop a 0 0 [] (by omega) (Nat.zero_le _) (by simp) rfl
theorem dp_bst {rows : Nat → List Int} (hd : ∀ p, 0 ≤ p → p ≤ T.length → dpAt σ T.length (FT T) (tbl ps) P rows p) : bst T ps P = rows 0 := by
  obtain ⟨d1, -, -, -, -, d6⟩ := hd 0 (Nat.le_refl _) (Nat.zero_le _)
  exact bst_eq ⟨d1, d6⟩
theorem c_X5_best (h : RC σ T ps P) (hPr : ptsR ps.length P) (hb : bsOk (tbl ps)) : Ci l yX5_best wsX5_best (rh 4) D cA ad LC [.inl 0] σ (fun r τ => r = aBst T ps P ∧ RC τ T ps P) := by
  refine Ci.walk fX5_best pX5_best [] (by decide) rfl LC_ok tX5_best_ok fX5_best_ok pX5_best_ok klOk_0 (Nat.le_of_ble_eq_true rfl) (fun V M ret => ?_)
  refine M.1 [12] 60 _ ?_
  refine M.2.2.1 (vs := [.inl 1, .inl 2]) (rest := []) rfl oX5_best_X0_weigh rfl rfl (Nat.le_of_ble_eq_true rfl) rfl (c_X0_weigh h.1 h.2.1 h.2.2.1 h.2.2.2 hPr hb) (fun υ hp2 => ?_)
  obtain ⟨p1, p2, rows, p3⟩ := hp2
  have hRC := RC_x h p1 (eqx_mono p2 (by decide))
  refine M.1 [24] 60 _ ?_
  refine ⟨⟨by decide, by decide⟩, ?_⟩
  refine ret rfl (p1 _ _) ⟨?_, hRC⟩
  unfold aBst
  rw [dp_bst p3]
  exact (p3 0 (Nat.le_refl _) (Nat.zero_le _)).2.2.1
theorem c_X5_sum (h : RC σ T ps P) (hPr : ptsR ps.length P) (hb : bsOk (tbl ps)) : Ci l yX5_sum wsX5_sum (rh 4) D cA ad LC [.inl 0] σ (fun r τ => r = aSum T ps P ∧ RC τ T ps P) := by
  refine Ci.walk fX5_sum pX5_sum [] (by decide) rfl LC_ok tX5_sum_ok fX5_sum_ok pX5_sum_ok klOk_0 (Nat.le_of_ble_eq_true rfl) (fun V M ret => ?_)
  refine M.1 [12] 60 _ ?_
  refine M.2.2.1 (vs := [.inl 1, .inl 2]) (rest := []) rfl oX5_sum_X0_weigh rfl rfl (Nat.le_of_ble_eq_true rfl) rfl (c_X0_weigh h.1 h.2.1 h.2.2.1 h.2.2.2 hPr hb) (fun υ hp2 => ?_)
  obtain ⟨p1, p2, rows, p3⟩ := hp2
  have hRC := RC_x h p1 (eqx_mono p2 (by decide))
  refine M.1 [24] 60 _ ?_
  refine ⟨⟨by decide, by decide⟩, ?_⟩
  refine ret rfl (p1 _ _) ⟨?_, hRC⟩
  unfold aSum
  rw [dp_bst p3]
  exact (p3 0 (Nat.le_refl _) (Nat.zero_le _)).2.1
theorem c_X5_ways (h : RC σ T ps P) (hPr : ptsR ps.length P) (hb : bsOk (tbl ps)) : Ci l yX5_ways wsX5_ways (rh 4) D cA ad LC [.inl 0] σ (fun r τ => r = aWay T ps ∧ RC τ T ps P) := by
  refine Ci.walk fX5_ways pX5_ways [] (by decide) rfl LC_ok tX5_ways_ok fX5_ways_ok pX5_ways_ok klOk_0 (Nat.le_of_ble_eq_true rfl) (fun V M ret => ?_)
  refine M.1 [12] 60 _ ?_
  refine M.2.2.1 (vs := [.inl 1, .inl 2]) (rest := []) rfl oX5_ways_X0_weigh rfl rfl (Nat.le_of_ble_eq_true rfl) rfl (c_X0_weigh h.1 h.2.1 h.2.2.1 h.2.2.2 hPr hb) (fun υ hp2 => ?_)
  obtain ⟨p1, p2, rows, p3⟩ := hp2
  have hRC := RC_x h p1 (eqx_mono p2 (by decide))
  refine M.1 [24] 60 _ ?_
  refine ⟨⟨by decide, by decide⟩, ?_⟩
  exact ret rfl (p1 _ _) ⟨(p3 0 (Nat.le_refl _) (Nat.zero_le _)).2.2.2.1, hRC⟩
theorem c_X5_bestAt {i : Int} (h : RC σ T ps P) (hi : inR i) (hPr : ptsR ps.length P) (hb : bsOk (tbl ps)) : Ci l yX5_bestAt wsX5_bestAt (rh 4) D cA ad LC [.inl 0, .inr i] σ (fun r τ => r = aBat T ps P i ∧ RC τ T ps P) := by
  refine Ci.walk fX5_bestAt pX5_bestAt [] (by decide) rfl LC_ok tX5_bestAt_ok fX5_bestAt_ok pX5_bestAt_ok klOk_0 (Nat.le_of_ble_eq_true rfl) (fun V M ret => ?_)
  refine M.1 [12] 60 _ ?_
  refine M.2.2.1 (vs := [.inl 1, .inl 2]) (rest := []) rfl oX5_bestAt_X0_weigh rfl rfl (Nat.le_of_ble_eq_true rfl) rfl (c_X0_weigh h.1 h.2.1 h.2.2.1 h.2.2.2 hPr hb) (fun υ hp2 => ?_)
  obtain ⟨p1, p2, rows, p3⟩ := hp2
  have hRC := RC_x h p1 (eqx_mono p2 (by decide))
  have h21 := (p3 0 (Nat.le_refl _) (Nat.zero_le _)).2.2.1
  have hbe := dp_bst p3
  refine M.1 [33, 43] 60 _ ?_
  refine ⟨hi, fun c1 => ?_, fun c1 => ?_⟩
  · exact ret rfl (by constructor <;> decide) ⟨by unfold aBat; rw [if_neg (by omega)], hRC⟩
  · refine ⟨⟨by decide, by decide⟩, ⟨hi, p1 _ _⟩, fun c2 => ?_, fun c2 => ?_⟩
    · have c2 : i < υ 21 0 := c2
      have e : i = (i.toNat : Int) := by omega
      refine M.2.1 (vs := [.inr i, .inl 2]) (rest := []) rfl oX5_bestAt_X0_chosenAfter rfl rfl (Nat.le_of_ble_eq_true rfl) rfl (by rw [e]; exact c_X0_chosenAfter (a := i.toNat) hRC hb p3 (by omega)) (fun r υ2 hin hp2 => ?_)
      obtain ⟨rfl, rfl⟩ := hp2
      exact ret rfl hin ⟨by unfold aBat; rw [hbe, if_pos (by omega)], hRC⟩
    · have c2 : ¬ i < υ 21 0 := c2
      exact ret rfl (by constructor <;> decide) ⟨by unfold aBat; rw [hbe, if_neg (by omega)], hRC⟩
end X5b
end
section
/-! learning, told purely -/
def BK (pp : List (Int × Int)) (κ : Int) : Prop := 2 ≤ cnt κ pp ∧ ∀ q ∈ pp, cnt q.1 pp ≤ cnt κ pp ∧ (cnt q.1 pp = cnt κ pp → κ ≤ q.1)
theorem cnt_mem {κ : Int} : ∀ {pp : List (Int × Int)}, 0 < cnt κ pp → ∃ q ∈ pp, q.1 = κ
  | [], h => by simp [cnt] at h
  | q :: pp, h => by
    unfold cnt at h
    by_cases e : q.1 = κ
    · exact ⟨q, List.mem_cons_self, e⟩
    · rw [if_neg e, Int.zero_add] at h
      obtain ⟨z, hz, e2⟩ := cnt_mem h
      exact ⟨z, List.mem_cons_of_mem _ hz, e2⟩
theorem BK_uniq {pp : List (Int × Int)} {κ κ' : Int} (h : BK pp κ) (h' : BK pp κ') : κ = κ' := by
  obtain ⟨q, hq, e⟩ := cnt_mem (κ := κ) (pp := pp) (by have := h.1; omega)
  obtain ⟨q', hq', e'⟩ := cnt_mem (κ := κ') (pp := pp) (by have := h'.1; omega)
  have a := h.2 q' hq'
  have b := h'.2 q hq
  rw [e'] at a
  rw [e] at b
  have := a.2 (by omega)
  have := b.2 (by omega)
  omega
noncomputable def bestK (pp : List (Int × Int)) : Option Int := @dite _ (∃ κ, BK pp κ) (Classical.propDecidable _) (fun h => some h.choose) (fun _ => none)
theorem bestK_y {pp : List (Int × Int)} {κ : Int} (h : BK pp κ) : bestK pp = some κ := by
  have hx : ∃ κ, BK pp κ := ⟨κ, h⟩
  unfold bestK
  rw [dif_pos hx, BK_uniq hx.choose_spec h]
theorem bestK_n {pp : List (Int × Int)} (h : ∀ κ, ¬ BK pp κ) : bestK pp = none := by
  unfold bestK
  rw [dif_neg (fun ⟨κ, q⟩ => h κ q)]
theorem bestK_ok {pp : List (Int × Int)} {κ : Int} (h : bestK pp = some κ) : BK pp κ := by
  unfold bestK at h
  split at h
  · rename_i hx
    have e : hx.choose = κ := Option.some.inj h
    rw [← e]
    exact hx.choose_spec
  · cases h
noncomputable def lrn (w : Int → Int) : Nat → PSt → Rw → PSt
  | 0, ps, _ => ps
  | m + 1, ps, R => match bestK (prs w R) with
    | none => ps
    | some κ => lrn w m (ps ++ [(κ / 512, κ % 512, cnt κ (prs w R))]) (mrg w (κ / 512) (κ % 512) (256 + (ps.length : Int)) R)
theorem lrn_n {w : Int → Int} {m : Nat} {ps : PSt} {R : Rw} (h : bestK (prs w R) = none) : lrn w m ps R = ps := by
  cases m with
  | zero => rfl
  | succ m => rw [lrn, h]
theorem lrn_y {w : Int → Int} {m : Nat} {ps : PSt} {R : Rw} {κ : Int} (h : bestK (prs w R) = some κ) : lrn w (m + 1) ps R = lrn w m (ps ++ [(κ / 512, κ % 512, cnt κ (prs w R))]) (mrg w (κ / 512) (κ % 512) (256 + (ps.length : Int)) R) := by
  rw [lrn, h]
def seg (F : Nat → Int) (w : Int → Int) (bs : List (List Int)) : Nat → Rw → Nat → Prop
  | s, [], e => s = e
  | s, q :: r, e => (q.2 = (s : Int) ∧ 0 ≤ q.1 ∧ q.1 < 256 + bs.length ∧ (∀ i, i < (tbo bs q.1).length → F (s + i) = (tbo bs q.1).getD i 0) ∧ (∀ i, 1 ≤ i → i < (tbo bs q.1).length → w ((s + i : Nat) : Int) = 0)) ∧ seg F w bs (s + (tbo bs q.1).length) r e
theorem seg_spl (F : Nat → Int) (w : Int → Int) : ∀ {n : Nat}, (∀ i, i < n → 0 ≤ F i ∧ F i < 256) → seg F w [] 0 (spl F n) n := by
  have app : ∀ (r : Rw) (s e m : Nat) (q : Int × Int), seg F w [] s r e → (q.2 = (e : Int) ∧ 0 ≤ q.1 ∧ q.1 < 256 ∧ F e = q.1) → m = e + 1 → seg F w [] s (r ++ [q]) m := by
    intro r
    induction r with
    | nil =>
      intro s e m q h hq hm
      have : s = e := h
      subst this
      have ht : tbo [] q.1 = [q.1] := by unfold tbo; rw [if_pos hq.2.2.1]
      refine ⟨⟨hq.1, hq.2.1, by simp; omega, ?_, ?_⟩, ?_⟩
      · rw [ht]
        intro i hi
        simp at hi
        subst hi
        simp [hq.2.2.2]
      · rw [ht]
        intro i h1 hi
        simp at hi
        omega
      · rw [ht]
        exact hm.symm
    | cons a r ih =>
      intro s e m q h hq hm
      exact ⟨h.1, ih _ e m q h.2 hq hm⟩
  intro n
  induction n with
  | zero => intro _; rfl
  | succ n ih =>
    intro h
    exact app _ 0 n _ _ (ih (fun i hi => h i (by omega))) ⟨rfl, (h n (by omega)).1, (h n (by omega)).2, rfl⟩ rfl
theorem tbo_pos {bs : List (List Int)} (hb : bsOk bs) {t : Int} (h : t < 256 + bs.length) : 1 ≤ (tbo bs t).length := by
  unfold tbo
  split
  · simp
  · have := hb (t - 256).toNat (by omega)
    unfold tl at this
    omega
theorem tbo_app {bs : List (List Int)} {B : List Int} {t : Int} (h : t < 256 + bs.length) : tbo (bs ++ [B]) t = tbo bs t := by
  unfold tbo
  split
  · rfl
  · rw [List.getD_eq_getElem?_getD, List.getD_eq_getElem?_getD, List.getElem?_append_left (by omega)]
theorem tbo_new (bs : List (List Int)) (B : List Int) : tbo (bs ++ [B]) (256 + (bs.length : Int)) = B := by
  unfold tbo
  rw [if_neg (by omega), show (256 + (bs.length : Int) - 256).toNat = bs.length by omega, List.getD_eq_getElem?_getD]
  simp
theorem getD_app (A B : List Int) (i : Nat) : (A ++ B).getD i 0 = if i < A.length then A.getD i 0 else B.getD (i - A.length) 0 := by
  rw [List.getD_eq_getElem?_getD, List.getElem?_append]
  split
  · rw [← List.getD_eq_getElem?_getD]
  · rw [← List.getD_eq_getElem?_getD]
theorem seg_mrg {F : Nat → Int} {w : Int → Int} {bs : List (List Int)} {a b : Int} (hb : bsOk bs) : ∀ (k : Nat) {R : Rw} {s e : Nat}, R.length ≤ k → seg F w bs s R e → seg F w (bs ++ [tbo bs a ++ tbo bs b]) s (mrg w a b (256 + (bs.length : Int)) R) e
  | _, [], s, e, _, h => h
  | _, [q], s, e, _, h => by
    obtain ⟨⟨h1, h2, h3, h4, h5⟩, h6⟩ := h
    refine ⟨⟨h1, h2, by simp; omega, ?_, ?_⟩, ?_⟩ <;> rw [tbo_app h3]
    · exact h4
    · exact h5
    · exact h6
  | 0, q :: q2 :: r, s, e, hk, _ => by simp at hk
  | k + 1, q :: q2 :: r, s, e, hk, h => by
    have h0 := h
    obtain ⟨⟨h1, h2, h3, h4, h5⟩, ⟨g1, g2, g3, g4, g5⟩, g6⟩ := h
    by_cases c : q.1 = a ∧ q2.1 = b ∧ w q2.2 = 0
    · rw [mrg_y c]
      obtain ⟨ca, cb, cw⟩ := c
      rw [ca] at h4 h5 g1 g4 g5 g6
      rw [cb] at g4 g5 g6
      refine ⟨⟨h1, by omega, by simp; omega, ?_, ?_⟩, ?_⟩ <;> rw [tbo_new]
      · intro i hi
        rw [List.length_append] at hi
        rw [getD_app]
        split
        · exact h4 i (by omega)
        · have := g4 (i - (tbo bs a).length) (by omega)
          rw [← this]
          congr 1
          omega
      · intro i hi1 hi
        rw [List.length_append] at hi
        rcases Nat.lt_trichotomy i (tbo bs a).length with hc | hc | hc
        · exact h5 i hi1 hc
        · rw [hc, ← g1]
          exact cw
        · have := g5 (i - (tbo bs a).length) (by omega) (by omega)
          rwa [show s + (tbo bs a).length + (i - (tbo bs a).length) = s + i by omega] at this
      · rw [List.length_append, ← Nat.add_assoc]
        exact seg_mrg hb k (by simp only [List.length_cons] at hk; omega) g6
    · rw [mrg_n c]
      refine ⟨⟨h1, h2, by simp; omega, ?_, ?_⟩, ?_⟩ <;> rw [tbo_app h3]
      · exact h4
      · exact h5
      · exact seg_mrg hb k (by simp only [List.length_cons] at hk ⊢; omega) h0.2
theorem seg_split {F : Nat → Int} {w : Int → Int} {bs : List (List Int)} : ∀ {A B : Rw} {s e : Nat}, seg F w bs s (A ++ B) e → ∃ m, s ≤ m ∧ seg F w bs s A m ∧ seg F w bs m B e
  | [], B, s, e, h => ⟨s, Nat.le_refl _, rfl, h⟩
  | q :: A, B, s, e, h => by
    obtain ⟨m, h1, h2, h3⟩ := seg_split h.2
    exact ⟨m, by omega, ⟨h.1, h2⟩, h3⟩
theorem seg_le {F : Nat → Int} {w : Int → Int} {bs : List (List Int)} : ∀ {R : Rw} {s e : Nat}, seg F w bs s R e → s ≤ e
  | [], s, e, h => by have : s = e := h; omega
  | q :: R, s, e, h => by have := seg_le h.2; omega
theorem seg_tok {F : Nat → Int} {w : Int → Int} {bs : List (List Int)} : ∀ {R : Rw} {s e : Nat}, seg F w bs s R e → ∀ q ∈ R, 0 ≤ q.1 ∧ q.1 < 256 + bs.length
  | [], _, _, _, q, hq => by simp at hq
  | a :: R, s, e, h, q, hq => by
    rcases List.mem_cons.mp hq with rfl | hq
    · exact ⟨h.1.2.1, h.1.2.2.1⟩
    · exact seg_tok h.2 q hq
theorem prs_mem {w : Int → Int} : ∀ {R : Rw} {z : Int × Int}, z ∈ prs w R → ∃ A q q2 r, R = A ++ q :: q2 :: r ∧ w q2.2 = 0 ∧ z = (q.1 * 512 + q2.1, q.2)
  | [], z, h => by simp [prs] at h
  | [q], z, h => by simp [prs] at h
  | q :: q2 :: r, z, h => by
    rw [prs] at h
    split at h
    · rename_i hw
      rcases List.mem_cons.mp h with e | h
      · exact ⟨[], q, q2, r, rfl, hw, e⟩
      · obtain ⟨A, a, b, c, e1, e2, e3⟩ := prs_mem h
        exact ⟨q :: A, a, b, c, by rw [e1]; rfl, e2, e3⟩
    · obtain ⟨A, a, b, c, e1, e2, e3⟩ := prs_mem h
      exact ⟨q :: A, a, b, c, by rw [e1]; rfl, e2, e3⟩
def noW (B : List Int) : Prop := ∀ i, 1 ≤ i → i < B.length → ¬ (B.getD i 0 = 32 ∧ B.getD (i - 1) 0 ≠ 32)
def psOk (ps : PSt) : Prop := ∀ (t : Nat) (q : Int × Int × Int), ps[t]? = some q → (0 ≤ q.1 ∧ q.1 < 256 + (t : Int)) ∧ (0 ≤ q.2.1 ∧ q.2.1 < 256 + (t : Int)) ∧ 0 ≤ q.2.2 ∧ q.2.2 ≤ 120
def vOk (ps : PSt) : Prop := psOk ps ∧ bsOk (tbl ps) ∧ (∀ j, j < ps.length → tl (tbl ps) j ≤ 120) ∧ ∀ j, j < ps.length → noW ((tbl ps).getD j [])
/-- what a pair that stands in the row tells -/
theorem seg_pair {T : List Int} {ps : PSt} {R : Rw} {z : Int × Int} (hs : seg (FT T) (wT T) (tbl ps) 0 R T.length) (hl : ps.length ≤ 32) (h : z ∈ prs (wT T) R) : (0 ≤ z.1 / 512 ∧ z.1 / 512 < 256 + ps.length) ∧ (0 ≤ z.1 % 512 ∧ z.1 % 512 < 256 + ps.length) ∧ 0 ≤ z.1 ∧ ∃ p : Nat, z.2 = (p : Int) ∧ p + (tbo (tbl ps) (z.1 / 512)).length + (tbo (tbl ps) (z.1 % 512)).length ≤ T.length ∧ (∀ i, i < (tbo (tbl ps) (z.1 / 512) ++ tbo (tbl ps) (z.1 % 512)).length → FT T (p + i) = (tbo (tbl ps) (z.1 / 512) ++ tbo (tbl ps) (z.1 % 512)).getD i 0) ∧ (∀ i, 1 ≤ i → i < (tbo (tbl ps) (z.1 / 512) ++ tbo (tbl ps) (z.1 % 512)).length → wT T ((p + i : Nat) : Int) = 0) := by
  obtain ⟨A, q, q2, r, rfl, hw, rfl⟩ := prs_mem h
  obtain ⟨m, -, -, hm⟩ := seg_split hs
  obtain ⟨⟨h1, h2, h3, h4, h5⟩, ⟨g1, g2, g3, g4, g5⟩, g6⟩ := hm
  rw [tbl_len] at h3 g3
  have e1 : (q.1 * 512 + q2.1) / 512 = q.1 := by omega
  have e2 : (q.1 * 512 + q2.1) % 512 = q2.1 := by omega
  have hle := seg_le g6
  show (0 ≤ (q.1 * 512 + q2.1) / 512 ∧ _) ∧ _
  simp only [e1, e2]
  refine ⟨⟨h2, h3⟩, ⟨g2, g3⟩, by omega, m, h1, hle, ?_, ?_⟩
  · intro i hi
    rw [List.length_append] at hi
    rw [getD_app]
    split
    · exact h4 i (by omega)
    · have := g4 (i - (tbo (tbl ps) q.1).length) (by omega)
      rw [← this]
      congr 1
      omega
  · intro i hi1 hi
    rw [List.length_append] at hi
    rcases Nat.lt_trichotomy i (tbo (tbl ps) q.1).length with hc | hc | hc
    · exact h5 i hi1 hc
    · rw [hc, ← g1]
      exact hw
    · have := g5 (i - (tbo (tbl ps) q.1).length) (by omega) (by omega)
      rwa [show m + (tbo (tbl ps) q.1).length + (i - (tbo (tbl ps) q.1).length) = m + i by omega] at this
theorem prs_len (w : Int → Int) : ∀ (R : Rw), (prs w R).length ≤ R.length
  | [] => by simp [prs]
  | [q] => by simp [prs]
  | q :: q2 :: r => by
    have := prs_len w (q2 :: r)
    rw [prs]
    simp only [List.length_cons] at this ⊢
    split
    · simp only [List.length_cons]; omega
    · omega
theorem mrg_len (w : Int → Int) (a b t : Int) : ∀ (k : Nat) (R : Rw), R.length ≤ k → (mrg w a b t R).length ≤ R.length
  | _, [], _ => by simp [mrg]
  | _, [q], _ => by simp [mrg]
  | 0, q :: q2 :: r, h => by simp at h
  | k + 1, q :: q2 :: r, h => by
    simp only [List.length_cons] at h
    by_cases c : q.1 = a ∧ q2.1 = b ∧ w q2.2 = 0
    · rw [mrg_y c]
      have := mrg_len w a b t k r (by omega)
      simp only [List.length_cons]
      omega
    · rw [mrg_n c]
      have := mrg_len w a b t k (q2 :: r) (by simp only [List.length_cons]; omega)
      simp only [List.length_cons] at this ⊢
      omega
theorem tl_app {bs : List (List Int)} {B : List Int} {j : Nat} (h : j < bs.length) : (bs ++ [B]).getD j [] = bs.getD j [] := by
  rw [List.getD_eq_getElem?_getD, List.getD_eq_getElem?_getD, List.getElem?_append_left h]
theorem tl_new (bs : List (List Int)) (B : List Int) : (bs ++ [B]).getD bs.length [] = B := by
  rw [List.getD_eq_getElem?_getD]
  simp
/-- learning one more keeps all that is asked of the learned ones -/
theorem vOk_step {T : List Int} {ps : PSt} {R : Rw} {κ : Int} (hT : T.length ≤ 120) (hR : R.length ≤ 120) (hs : seg (FT T) (wT T) (tbl ps) 0 R T.length) (hl : ps.length ≤ 32) (hv : vOk ps) (hk : BK (prs (wT T) R) κ) : vOk (ps ++ [(κ / 512, κ % 512, cnt κ (prs (wT T) R))]) ∧ seg (FT T) (wT T) (tbl (ps ++ [(κ / 512, κ % 512, cnt κ (prs (wT T) R))])) 0 (mrg (wT T) (κ / 512) (κ % 512) (256 + (ps.length : Int)) R) T.length := by
  obtain ⟨v1, v2, v3, v4⟩ := hv
  obtain ⟨z, hz, ez⟩ := cnt_mem (κ := κ) (pp := prs (wT T) R) (by have := hk.1; omega)
  obtain ⟨b1, b2, -, p, hp, hpl, hpf, hpw⟩ := seg_pair hs hl hz
  rw [ez] at b1 b2 hpl hpf hpw
  have hlen := tbl_len ps
  have c1 := cnt_le κ (prs (wT T) R)
  have c2 := prs_len (wT T) R
  have ta := tbo_pos v2 (t := κ / 512) (by omega)
  have tb := tbo_pos v2 (t := κ % 512) (by omega)
  refine ⟨⟨?_, ?_, ?_, ?_⟩, ?_⟩
  · intro t q hq
    rw [List.getElem?_append] at hq
    split at hq
    · exact v1 t q hq
    · rename_i ht
      have e : t = ps.length := by
        rcases Nat.lt_or_ge (t - ps.length) 1 with h | h
        · omega
        · rw [List.getElem?_eq_none (by simp; omega)] at hq
          cases hq
      subst e
      simp at hq
      subst hq
      have := hk.1
      exact ⟨b1, b2, by show 0 ≤ cnt κ (prs (wT T) R); omega, by show cnt κ (prs (wT T) R) ≤ 120; omega⟩
  · intro j hj
    rw [tbl_snoc] at hj ⊢
    unfold tl
    rw [List.length_append, List.length_singleton] at hj
    rcases Nat.lt_or_ge j (tbl ps).length with h | h
    · rw [tl_app h]
      exact v2 j h
    · rw [show j = (tbl ps).length by omega, tl_new, List.length_append]
      show 2 ≤ (tbo (tbl ps) (κ / 512)).length + (tbo (tbl ps) (κ % 512)).length
      omega
  · intro j hj
    rw [tbl_snoc]
    unfold tl
    rw [List.length_append, List.length_singleton] at hj
    rcases Nat.lt_or_ge j (tbl ps).length with h | h
    · rw [tl_app h]
      exact v3 j (by omega)
    · rw [show j = (tbl ps).length by omega, tl_new, List.length_append]
      show (tbo (tbl ps) (κ / 512)).length + (tbo (tbl ps) (κ % 512)).length ≤ 120
      omega
  · intro j hj
    rw [tbl_snoc]
    rw [List.length_append, List.length_singleton] at hj
    rcases Nat.lt_or_ge j (tbl ps).length with h | h
    · rw [tl_app h]
      exact v4 j (by omega)
    · rw [show j = (tbl ps).length by omega, tl_new]
      intro i hi1 hi hc
      have hi' : i < (tbo (tbl ps) (κ / 512) ++ tbo (tbl ps) (κ % 512)).length := hi
      have e1 := hpf i hi'
      have e2 := hpf (i - 1) (by omega)
      have e3 := hpw i hi1 hi'
      have h9 : ¬ bwP (FT T) T.length ((p + i : Nat) : Int) := b01_0.mp e3
      apply h9
      rw [List.length_append] at hi'
      refine ⟨by omega, by omega, Or.inr ?_⟩
      rw [Int.toNat_natCast, show (((p + i : Nat) : Int) - 1).toNat = p + (i - 1) by omega, e1, e2]
      exact hc
  · rw [tbl_snoc, ← hlen]
    exact seg_mrg v2 R.length (Nat.le_refl _) hs
end
section
noncomputable def psL (T : List Int) (n : Int) : PSt := lrn (wT T) n.toNat [] (spT T)
noncomputable def aLrn (T : List Int) (n : Int) : Int := if 0 ≤ n ∧ n ≤ 32 then ((psL T n).length : Int) else -2
noncomputable def sLrn (T : List Int) (ps : PSt) (n : Int) : PSt := if 0 ≤ n ∧ n ≤ 32 then psL T n else ps
def pNew (ps : PSt) (P : Int → Int) : Int → Int := fun x => if x < 256 then P x else (tl (tbl ps) (x - 256).toNat : Int)
noncomputable def pLrn (T : List Int) (P : Int → Int) (n : Int) : Int → Int := if 0 ≤ n ∧ n ≤ 32 then pNew (psL T n) P else P
def LSt (σ : St) (T : List Int) (ps : PSt) (R : Rw) (P : Int → Int) : Prop := rng σ ∧ textC σ T ∧ vocC σ ps ∧ rowC σ (wT T) R ∧ (∀ i, i < T.length → σ 12 i = FT T i) ∧ (∀ t : Nat, t < 256 → σ 11 t = P (t : Int)) ∧ ∀ j, j < ps.length → σ 11 (256 + j) = tl (tbl ps) j
section X5c
variable {l : Launch} {D : va_G} {cA : Nat → ClassId} {ad : Nat → Nat} {σ : St} {T : List Int} {ps : PSt} {P : Int → Int} {R : Rw}
theorem LSt_x {τ : St} (h : LSt σ T ps R P) (hr : rng τ) (hx : eqx [4, 5, 17, 18, 19, 20, 21, 22, 23] σ τ) : LSt τ T ps R P := by
  obtain ⟨-, h2, h3, h4, h5, h6, h7⟩ := h
  refine ⟨hr, textC_x h2 (hx 1 (by decide)) (hx 6 (by decide)), vocC_x h3 (hx 2 (by decide)) (hx 7 (by decide)) (hx 8 (by decide)) (hx 9 (by decide)) (hx 10 (by decide)) (hx 12 (by decide)) (hx 13 (by decide)), ?_, ?_, ?_, ?_⟩
  · unfold rowC
    rw [hx 3 (by decide), hx 14 (by decide), hx 15 (by decide), hx 16 (by decide)]
    exact h4
  · rw [hx 12 (by decide)]; exact h5
  · rw [hx 11 (by decide)]; exact h6
  · rw [hx 11 (by decide)]; exact h7
/-- the table's most frequent slot is the best pair -/
theorem most_n {τ : St} {pp : List (Int × Int)} {r : Int} (hT : HT τ pp) (hm : mostOk τ 256 r) (h : r < 0 ∨ ∃ m : Nat, r = (m : Int) ∧ τ 18 m < 2) : bestK pp = none := by
  refine bestK_n (fun κ hk => ?_)
  obtain ⟨q, hq, e⟩ := cnt_mem (κ := κ) (pp := pp) (by have := hk.1; omega)
  obtain ⟨i, hi, hi0, hik⟩ := hT.2.2.2.1 q hq
  have hc := (hT.2.1 i hi hi0).1
  rw [hik, e] at hc
  have hk1 := hk.1
  rcases hm with ⟨-, hm⟩ | ⟨m, rm, hm1, hm2, hm3⟩
  · exact hm i hi hi0
  · rcases h with h | ⟨m', rm', h⟩
    · omega
    · have : m' = m := by omega
      subst this
      refine hm3 i hi hi0 (Or.inl ?_)
      omega
theorem most_y {τ : St} {pp : List (Int × Int)} {m : Nat} (hT : HT τ pp) (hm : m < 256) (h0 : 0 < τ 18 m) (hm3 : ∀ j : Nat, j < 256 → 0 < τ 18 j → ¬ ahd τ j m) (h : 2 ≤ τ 18 m) : BK pp (τ 17 m) ∧ τ 18 m = cnt (τ 17 m) pp ∧ (τ 17 m, τ 19 m) ∈ pp := by
  have hc := hT.2.1 m hm h0
  refine ⟨⟨by rw [← hc.1]; exact h, fun q hq => ?_⟩, hc.1, hc.2.1⟩
  obtain ⟨i, hi, hi0, hik⟩ := hT.2.2.2.1 q hq
  have hci := (hT.2.1 i hi hi0).1
  rw [hik] at hci
  have := hm3 i hi hi0
  unfold ahd at this
  rw [← hci, ← hc.1]
  refine ⟨by omega, fun e => ?_⟩
  rw [← hik]
  omega
theorem c_X5_learnNext (h : LSt σ T ps R P) (hv : vOk ps) (hs : seg (FT T) (wT T) (tbl ps) 0 R T.length) (hl : ps.length < 32) : Ci l yX5_learnNext wsX5_learnNext (rh 3) D cA ad LC [.inl 0] σ (fun r τ => (r = 0 ∧ bestK (prs (wT T) R) = none ∧ LSt τ T ps R P) ∨ ∃ κ, r = 1 ∧ bestK (prs (wT T) R) = some κ ∧ LSt τ T (ps ++ [(κ / 512, κ % 512, cnt κ (prs (wT T) R))]) (mrg (wT T) (κ / 512) (κ % 512) (256 + (ps.length : Int)) R) P) := by
  have hLS := h
  obtain ⟨hr, ht, hvc, hR, hsrc, hp1, hp2⟩ := h
  have hk := kC_of hr ht hvc
  have hlen := tbl_len ps
  have htok := seg_tok hs
  rw [hlen] at htok
  refine Ci.walkZ fX5_learnNext pX5_learnNext [] (by decide) rfl LC_ok tX5_learnNext_ok fX5_learnNext_ok pX5_learnNext_ok klOk_0 (Nat.le_of_ble_eq_true rfl) (fun V M ret => ?_)
  refine M.1 [8] 60 _ ?_
  refine M.2.2.1 (vs := [.inl 3]) (rest := []) rfl oX5_learnNext_X1_countPairs rfl rfl (Nat.le_of_ble_eq_true rfl) rfl (c_X1_countPairs hk hR (fun q hq => by have := htok q hq; omega)) (fun τ hp => ?_)
  obtain ⟨r1, x1, hT⟩ := hp
  have hL1 := LSt_x hLS r1 (eqx_mono x1 (by decide))
  refine M.1 [15] 60 _ ?_
  refine M.2.1 (vs := []) (rest := []) rfl oX5_learnNext_X1_mostFrequent rfl rfl (Nat.le_of_ble_eq_true rfl) rfl (c_X1_mostFrequent r1) (fun r υ hin hp => ?_)
  obtain ⟨rfl, hmo⟩ := hp
  have e2 : υ 2 = σ 2 := x1 2 (by decide)
  have no : (r < 0 ∨ ∃ m : Nat, r = (m : Int) ∧ υ 18 m < 2) → V (49, [(0, .inl 0), (1, .inr r)], [.inr 0], υ) := by
    intro h
    exact ret rfl (Or.inl rfl) (Or.inl ⟨rfl, most_n hT hmo h, hL1⟩)
  refine M.1 [49, 50] 60 _ ?_
  refine ⟨hin, fun c1 => no (Or.inl c1), fun c1 => ?_⟩
  have hmo' := hmo
  rcases hmo' with ⟨hm, -⟩ | ⟨m, rfl, hm1, hm2, hm3⟩
  · omega
  refine ⟨⟨by omega, by omega⟩, ⟨r1 _ _, by constructor <;> decide⟩, fun c2 => ?_, fun c2 => ?_⟩
  · rw [Int.toNat_natCast] at c2
    exact no (Or.inr ⟨m, rfl, c2⟩)
  rw [Int.toNat_natCast] at c2
  refine ⟨⟨r1 _ _, by constructor <;> decide⟩, fun c3 => ?_, fun c3 => absurd c3 (by rw [e2, hvc.1]; omega)⟩
  obtain ⟨hBK, hcnt, hmem⟩ := most_y hT hm1 hm2 hm3 (by omega)
  obtain ⟨b1, b2, hk0, p, hp, hpl, hpf, hpw⟩ := seg_pair hs (by omega) hmem
  have hkr := r1 17 m
  generalize hκ : υ 17 m = κ at *
  have b1 : 0 ≤ κ / 512 ∧ κ / 512 < 256 + ps.length := b1
  have b2 : 0 ≤ κ % 512 ∧ κ % 512 < 256 + ps.length := b2
  have hk0 : 0 ≤ κ := hk0
  have hp19 : υ 19 m = (p : Int) := hp
  have hpl : p + (tbo (tbl ps) (κ / 512)).length + (tbo (tbl ps) (κ % 512)).length ≤ T.length := hpl
  refine M.1 [115] 80 _ ?_
  refine ⟨⟨by omega, by omega⟩, ?_⟩
  rw [Int.toNat_natCast, hκ]
  refine ⟨⟨hk0, hkr.2, by decide, by decide⟩, ⟨by omega, by omega⟩, ?_⟩
  rw [Int.toNat_natCast, hκ]
  refine ⟨⟨hk0, hkr.2, by decide, by decide⟩, ⟨by omega, by omega⟩, ⟨by omega, by omega⟩, ?_⟩
  rw [Int.toNat_natCast, e2, hvc.1, hcnt, hp19]
  have hvc1 := hL1.2.2.1
  have hk1 := kC_of r1 hL1.2.1 hvc1
  have s1 := sz_tbo hvc1 (t := κ / 512) b1
  have s2 := sz_tbo hvc1 (t := κ % 512) b2
  have hT120 := ht.2.1
  have hcr : inR (cnt κ (prs (wT T) R)) := by rw [← hcnt]; exact r1 _ _
  refine M.2.2.1 (vs := [.inr (κ / 512), .inr (κ % 512), .inr (cnt κ (prs (wT T) R)), .inr (p : Int)]) (rest := []) rfl oX5_learnNext_X4_add rfl rfl (Nat.le_of_ble_eq_true rfl) rfl (c_X4_add hk1 (by unfold inR; omega) (by unfold inR; omega) hcr (by unfold inR; omega) (by rw [hvc1.1]; omega) (by rw [s1, s2]; unfold inR; omega)) (fun τ2 hp3 => ?_)
  obtain ⟨r2, x2, f25, f7, f8, f9, f10, f13, f11⟩ := hp3
  have hkk : (υ 2 5).toNat = ps.length := by rw [hvc1.1]; omega
  rw [hkk] at f7 f8 f9 f10 f13 f11
  rw [s1, s2] at f10 f11
  have hR2 : rowC τ2 (wT T) R := by
    unfold rowC
    rw [x2 3 (by decide), x2 14 (by decide), x2 15 (by decide), x2 16 (by decide)]
    exact hL1.2.2.2.1
  have ht2 : textC τ2 T := textC_x hL1.2.1 (x2 1 (by decide)) (x2 6 (by decide))
  have h12 : τ2 12 = υ 12 := x2 12 (by decide)
  have hv2 : vocC τ2 (ps ++ [(κ / 512, κ % 512, cnt κ (prs (wT T) R))]) := by
    refine ⟨by rw [f25, hvc1.1]; simp, by simp; omega, ?_, ?_⟩
    · intro t q hq
      rw [List.getElem?_append] at hq
      split at hq
      · rename_i htl
        have := hvc1.2.2.1 t q hq
        rw [f7, f8, f9, va_up_ne _ _ (by omega), va_up_ne _ _ (by omega), va_up_ne _ _ (by omega)]
        exact this
      · rename_i htl
        have e : t = ps.length := by
          rcases Nat.lt_or_ge (t - ps.length) 1 with h | h
          · omega
          · rw [List.getElem?_eq_none (by simp; omega)] at hq
            cases hq
        subst e
        simp at hq
        subst hq
        rw [f7, f8, f9, va_up_self, va_up_self, va_up_self]
        exact ⟨rfl, rfl, rfl⟩
    · intro j hj
      rw [List.length_append, List.length_singleton] at hj
      rw [tbl_snoc, f10, f13, h12]
      unfold tl
      rcases Nat.lt_or_ge j ps.length with hc | hc
      · rw [tl_app (by omega), va_up_ne _ _ (by omega), va_up_ne _ _ (by omega)]
        exact hvc1.2.2.2 j hc
      · have e : j = (tbl ps).length := by omega
        subst e
        rw [tl_new, hlen, va_up_self, va_up_self, List.length_append]
        refine ⟨by simp, by omega, by simp only [Int.natCast_add]; omega, fun i hi => ?_⟩
        rw [show ((p : Int) + (i : Int)).toNat = p + i by omega, hL1.2.2.2.2.1 (p + i) (by simp only [] at hi; omega)]
        exact hpf i (by rw [List.length_append]; exact hi)
  refine M.1 [126] 60 _ ?_
  refine M.2.2.1 (vs := [.inr (κ / 512), .inr (κ % 512), .inr (256 + (ps.length : Int))]) (rest := []) rfl oX5_learnNext_X2_merge rfl rfl (Nat.le_of_ble_eq_true rfl) rfl (c_X2_merge (by unfold inR; omega) (by unfold inR; omega) (by unfold inR; omega) (kC_of r2 ht2 hv2) (wT_01 T) hR2) (fun τ3 hp4 => ?_)
  obtain ⟨r3, x3, hR3⟩ := hp4
  refine M.1 [130] 60 _ ?_
  refine ret rfl (Or.inr rfl) (Or.inr ⟨κ, rfl, bestK_y hBK, r3, textC_x ht2 (x3 1 (by decide)) (x3 6 (by decide)), vocC_x hv2 (x3 2 (by decide)) (x3 7 (by decide)) (x3 8 (by decide)) (x3 9 (by decide)) (x3 10 (by decide)) (x3 12 (by decide)) (x3 13 (by decide)), hR3, ?_, ?_, ?_⟩)
  · rw [x3 12 (by decide), h12]
    exact hL1.2.2.2.2.1
  · intro t htt
    rw [x3 11 (by decide), f11, va_up_ne _ _ (by omega)]
    exact hL1.2.2.2.2.2.1 t htt
  · intro j hj
    rw [List.length_append, List.length_singleton] at hj
    rw [x3 11 (by decide), f11, tbl_snoc]
    unfold tl
    rcases Nat.lt_or_ge j ps.length with hc | hc
    · rw [tl_app (by omega), va_up_ne _ _ (by omega)]
      exact hL1.2.2.2.2.2.2 j hc
    · have e : j = (tbl ps).length := by omega
      subst e
      rw [tl_new, hlen, va_up_self, List.length_append]
      simp
end X5c
end
section
def txOk (T : List Int) : Prop := T.length ≤ 120 ∧ ∀ i, i < T.length → 0 ≤ T.getD i 0 ∧ T.getD i 0 < 256
theorem vOk_0 : vOk [] := ⟨fun t q h => by simp at h, fun j h => by simp [tbl] at h, fun j h => by simp at h, fun j h => by simp at h⟩
theorem seg_0 {T : List Int} (h : txOk T) : seg (FT T) (wT T) (tbl []) 0 (spT T) T.length := seg_spl (FT T) (wT T) h.2
theorem lrn_ok {T : List Int} (hT : T.length ≤ 120) : ∀ (m : Nat) (ps : PSt) (R : Rw), vOk ps → seg (FT T) (wT T) (tbl ps) 0 R T.length → R.length ≤ 120 → ps.length + m ≤ 32 → vOk (lrn (wT T) m ps R) ∧ (lrn (wT T) m ps R).length ≤ 32
  | 0, ps, R, hv, _, _, hl => ⟨hv, by show ps.length ≤ 32; omega⟩
  | m + 1, ps, R, hv, hs, hR, hl => by
    cases hb : bestK (prs (wT T) R) with
    | none =>
      rw [lrn_n hb]
      exact ⟨hv, by omega⟩
    | some κ =>
      rw [lrn_y hb]
      obtain ⟨h1, h2⟩ := vOk_step hT hR hs (by omega) hv (bestK_ok hb)
      refine lrn_ok hT m _ _ h1 h2 ?_ (by simp; omega)
      exact Nat.le_trans (mrg_len _ _ _ _ R.length R (Nat.le_refl _)) hR
theorem psL_ok {T : List Int} (h : txOk T) {n : Int} (hn : 0 ≤ n ∧ n ≤ 32) : vOk (psL T n) ∧ (psL T n).length ≤ 32 := by
  refine lrn_ok h.1 n.toNat [] (spT T) vOk_0 (seg_0 h) ?_ (by simp; omega)
  unfold spT
  rw [spl_len]
  exact h.1
section X5d
variable {l : Launch} {D : va_G} {cA : Nat → ClassId} {ad : Nat → Nat} {σ : St} {T : List Int} {ps : PSt} {P : Int → Int}
theorem tx_of (h : textC σ T) : txOk T := ⟨h.2.1, fun i hi => (h.2.2 i hi).2⟩
theorem c_X5_learn {n : Int} (h : RC σ T ps P) (hn : inR n) : Ci l yX5_learn wsX5_learn (rh 4) D cA ad LC [.inl 0, .inr n] σ (fun r τ => r = aLrn T n ∧ RC τ T (sLrn T ps n) (pLrn T P n)) := by
  have h' := h
  obtain ⟨hr, ht, hv, hp⟩ := h
  have hk := kC_of hr ht hv
  have hx := tx_of ht
  refine Ci.walk fX5_learn pX5_learn [] (by decide) rfl LC_ok tX5_learn_ok fX5_learn_ok pX5_learn_ok klOk_0 (Nat.le_of_ble_eq_true rfl) (fun V M ret => ?_)
  have bad : ¬ (0 ≤ n ∧ n ≤ 32) → V (12, lnum 0 [.inl 0, .inr n], [.inr (-2)], σ) := by
    intro hq
    refine ret rfl (by constructor <;> decide) ⟨by unfold aLrn; rw [if_neg hq], ?_⟩
    unfold sLrn pLrn
    rw [if_neg hq, if_neg hq]
    exact h'
  refine M.1 [12, 21] 60 _ ?_
  refine ⟨hn, fun c1 => bad (by omega), fun c1 => ?_⟩
  refine ⟨⟨hn, by constructor <;> decide⟩, fun c2 => ?_, fun c2 => bad (by omega)⟩
  have hnn : 0 ≤ n ∧ n ≤ 32 := by omega
  have done : ∀ (τ : St) (R : Rw) (lv : List (Nat × aV)), lget 0 lv = some (.inl 0) → LSt τ T (psL T n) R P → V (58, [(0, .inl 0)], [], τ) := by
    intro τ R lv _ hL
    obtain ⟨a1, a2, a3, a4, a5, a6, a7⟩ := hL
    refine M.1 [65] 60 _ ?_
    refine ret rfl (a1 _ _) ⟨by unfold aLrn; rw [if_pos hnn]; exact a3.1, ?_⟩
    unfold sLrn pLrn
    rw [if_pos hnn, if_pos hnn]
    refine ⟨a1, a2, a3, fun t htt => ?_⟩
    unfold pNew
    by_cases c : t < 256
    · rw [if_pos (by omega)]
      exact a6 t c
    · rw [if_neg (by omega), show ((t : Int) - 256).toNat = t - 256 by omega]
      have := a7 (t - 256) (by omega)
      rwa [show 256 + (t - 256) = t by omega] at this
  have loop : ∀ (d i : Nat) (ps' : PSt) (R : Rw) (τ : St), (i : Int) + d = n → ps'.length = i → LSt τ T ps' R P → vOk ps' → seg (FT T) (wT T) (tbl ps') 0 R T.length → lrn (wT T) d ps' R = psL T n → V (37, [(0, .inl 0), (1, .inr n), (2, .inr (i : Int))], [], τ) := by
    intro d
    induction d with
    | zero =>
      intro i ps' R τ hi hl hL hvo hs hm
      refine M.1 [58] 60 _ ?_
      refine ⟨⟨by unfold inR; omega, hn⟩, fun c => ?_, fun c => absurd c (by omega)⟩
      refine M.2.2.2.2.2.1 _ (lpick_mem [0]) ?_
      have hm : ps' = psL T n := hm
      rw [hm] at hL
      exact done τ R [(0, .inl 0)] rfl hL
    | succ d ih =>
      intro i ps' R τ hi hl hL hvo hs hm
      refine M.1 [43] 60 _ ?_
      refine ⟨⟨by unfold inR; omega, hn⟩, fun c => absurd c (by omega), fun c => ?_⟩
      refine M.2.1 (vs := []) (rest := []) rfl oX5_learn_X5_learnNext rfl rfl (Nat.le_of_ble_eq_true rfl) rfl (c_X5_learnNext hL hvo hs (by omega)) (fun r υ hin hp2 => ?_)
      refine M.1 [37, 58] 60 _ ?_
      rcases hp2 with ⟨rfl, hb, hL2⟩ | ⟨κ, rfl, hb, hL2⟩
      · refine ⟨hin, fun c => absurd rfl c, fun c => ?_⟩
        rw [lrn_n hb] at hm
        rw [hm] at hL2
        refine M.2.2.2.2.2.1 _ (lpick_mem [0]) ?_
        exact done υ R [(0, .inl 0)] rfl hL2
      · refine ⟨hin, fun c => ?_, fun c => absurd c (by decide)⟩
        rw [lrn_y hb] at hm
        obtain ⟨q1, q2⟩ := vOk_step hx.1 hL.2.2.2.1.2.1 hs (by omega) hvo (bestK_ok hb)
        exact ih (i + 1) _ _ υ (by omega) (by simp [hl]) hL2 q1 q2 hm
  refine M.2.2.1 (vs := [.inl 1]) (rest := []) rfl oX5_learn_X4_startFrom rfl rfl (Nat.le_of_ble_eq_true rfl) rfl (c_X4_startFrom hk) (fun τ hp2 => ?_)
  obtain ⟨r1, x1, z1, s1⟩ := hp2
  have ht1 : textC τ T := textC_x ht (x1 1 (by decide)) (x1 6 (by decide))
  have hv1 : vocC τ [] := ⟨z1, by simp, fun t q hq => by simp at hq, fun j hj => by simp at hj⟩
  refine M.1 [32] 60 _ ?_
  refine M.2.2.1 (vs := [.inl 1]) (rest := []) rfl oX5_learn_X2_spell rfl rfl (Nat.le_of_ble_eq_true rfl) rfl (c_X2_spell (kC_of r1 ht1 hv1)) (fun υ hp2 => ?_)
  obtain ⟨r2, x2, hR2⟩ := hp2
  rw [wT_eq ht1, spT_eq ht1] at hR2
  refine M.1 [37] 60 _ ?_
  refine loop n.toNat 0 [] (spT T) υ (by omega) rfl ⟨r2, textC_x ht1 (x2 1 (by decide)) (x2 6 (by decide)), vocC_x hv1 (x2 2 (by decide)) (x2 7 (by decide)) (x2 8 (by decide)) (x2 9 (by decide)) (x2 10 (by decide)) (x2 12 (by decide)) (x2 13 (by decide)), hR2, ?_, ?_, ?_⟩ vOk_0 (seg_0 hx) rfl
  · intro i hi
    rw [x2 12 (by decide), s1 i (by have := hx.1; omega)]
    exact (ht.2.2 i hi).1
  · intro t htt
    rw [x2 11 (by decide), x1 11 (by decide)]
    exact hp t (by omega)
  · intro j hj
    simp at hj
end X5d
end
section
/-! the reference: how it holds the shared state -/
def textM (σ : St) (T : List Int) : Prop := σ 0 1 = T.length ∧ T.length ≤ 120 ∧ ∀ i, i < T.length → σ 1 i = T.getD i 0 ∧ 0 ≤ T.getD i 0 ∧ T.getD i 0 < 256
def vocM (σ : St) (ps : PSt) : Prop := σ 0 3 = ps.length ∧ ps.length ≤ 32 ∧ (∀ t q, ps[t]? = some q → σ 2 t = q.1 ∧ σ 3 t = q.2.1 ∧ σ 4 t = q.2.2) ∧ ∀ j, j < ps.length → σ 5 j = tl (tbl ps) j ∧ ∀ i, i < tl (tbl ps) j → σ 6 (120 * j + i) = ((tbl ps).getD j []).getD i 0
def ptsM (σ : St) (k : Nat) (P : Int → Int) : Prop := ∀ t : Nat, t < 256 + k → σ 7 t = P (t : Int)
def RM (σ : St) (T : List Int) (ps : PSt) (P : Int → Int) : Prop := rng σ ∧ textM σ T ∧ vocM σ ps ∧ ptsM σ ps.length P
def ob (σ τ : St) : Prop := τ 0 1 = σ 0 1 ∧ τ 0 3 = σ 0 3
theorem textM_x {σ τ : St} {T : List Int} (h : textM σ T) (h1 : τ 0 1 = σ 0 1) (h2 : τ 1 = σ 1) : textM τ T := by
  unfold textM
  rw [h1, h2]
  exact h
theorem vocM_x {σ τ : St} {ps : PSt} (h : vocM σ ps) (h1 : τ 0 3 = σ 0 3) (h2 : τ 2 = σ 2) (h3 : τ 3 = σ 3) (h4 : τ 4 = σ 4) (h5 : τ 5 = σ 5) (h6 : τ 6 = σ 6) : vocM τ ps := by
  unfold vocM
  rw [h1, h2, h3, h4, h5, h6]
  exact h
theorem RM_x {σ τ : St} {T : List Int} {ps : PSt} {P : Int → Int} (h : RM σ T ps P) (hr : rng τ) (ho : ob σ τ) (hx : eqx [0, 8, 9, 10, 11, 12, 13] σ τ) : RM τ T ps P :=
  ⟨hr, textM_x h.2.1 ho.1 (hx 1 (by decide)), vocM_x h.2.2.1 ho.2 (hx 2 (by decide)) (hx 3 (by decide)) (hx 4 (by decide)) (hx 5 (by decide)) (hx 6 (by decide)), fun t ht => by rw [hx 7 (by decide)]; exact h.2.2.2 t ht⟩
/-- the first thing that each call of the reference does -/
theorem RM_c {σ : St} {T : List Int} {ps : PSt} {P : Int → Int} (h : RM σ T ps P) {v : Int} (hv : inR v) : RM (stu σ 0 0 v) T ps P :=
  RM_x h (rng_stu h.1 hv _ _) ⟨by simp [stu, va_up], by simp [stu, va_up]⟩ (eqx_stu eqx_rfl (by decide) _ _)
section M1
variable {l : Launch} {D : va_G} {cA : Nat → ClassId} {ad : Nat → Nat} {σ : St} {T : List Int} {ps : PSt} {P : Int → Int}
theorem c_X6_in {v a b : Int} (hv : inR v) (ha : inR a) (hb : inR b) : Ci l yX6_in wsX6_in (rh 0) D cA ad LM [.inr v, .inr a, .inr b] σ (fun r τ => τ = σ ∧ r = b01 (a ≤ v ∧ v ≤ b)) := by
  refine Ci.walkZ fX6_in pX6_in [] (by decide) rfl LM_ok tX6_in_ok fX6_in_ok pX6_in_ok klOk_0 (Nat.le_of_ble_eq_true rfl) (fun V M ret => ?_)
  refine M.1 [15] 60 _ ?_
  refine ⟨⟨hv, ha⟩, fun c1 => ?_, fun c1 => ?_⟩
  · exact ret rfl (Or.inl rfl) ⟨rfl, by rw [b01_f]; omega⟩
  · refine ⟨⟨hv, hb⟩, fun c2 => ?_, fun c2 => ?_⟩
    · exact ret rfl (Or.inl rfl) ⟨rfl, by rw [b01_f]; omega⟩
    · exact ret rfl (Or.inr rfl) ⟨rfl, by rw [b01_t]; omega⟩
theorem c_X6_thrown (hr : rng σ) : Ci l yX6_thrown wsX6_thrown (rh 0) D cA ad LM [.inl 0] σ (fun r τ => τ = σ ∧ r = σ 0 0) := by
  refine Ci.walk fX6_thrown pX6_thrown [] (by decide) rfl LM_ok tX6_thrown_ok fX6_thrown_ok pX6_thrown_ok klOk_0 (Nat.le_of_ble_eq_true rfl) (fun V M ret => ?_)
  refine M.1 [4] 60 _ ?_
  exact ret rfl (hr _ _) ⟨rfl, rfl⟩
theorem c_X6_beginsWord {i : Int} (hr : rng σ) (h0 : 0 ≤ i) (h1 : i < 120) : Ci l yX6_beginsWord wsX6_beginsWord (rh 0) D cA ad LM [.inl 0, .inr i] σ (fun r τ => τ = σ ∧ r = b01 (i = 0 ∨ (σ 1 i.toNat = 32 ∧ σ 1 (i - 1).toNat ≠ 32))) := by
  refine Ci.walkZ fX6_beginsWord pX6_beginsWord [] (by decide) rfl LM_ok tX6_beginsWord_ok fX6_beginsWord_ok pX6_beginsWord_ok klOk_0 (Nat.le_of_ble_eq_true rfl) (fun V M ret => ?_)
  refine M.1 [33] 60 _ ?_
  refine ⟨by unfold inR; omega, fun c1 => ?_, fun c1 => ?_⟩
  · exact ret rfl (Or.inr rfl) ⟨rfl, by rw [b01_t]; omega⟩
  · refine ⟨⟨by omega, by omega⟩, ⟨hr _ _, by constructor <;> decide⟩, fun c2 => ?_, fun c2 => ?_⟩
    · exact ret rfl (Or.inl rfl) ⟨rfl, by rw [b01_f]; omega⟩
    · refine ⟨⟨by omega, by omega⟩, ⟨hr _ _, by constructor <;> decide⟩, fun c3 => ?_, fun c3 => ?_⟩
      · exact ret rfl (Or.inl rfl) ⟨rfl, by rw [b01_f]; omega⟩
      · exact ret rfl (Or.inr rfl) ⟨rfl, by rw [b01_t]; omega⟩
theorem bw_M (ht : textM σ T) {i : Int} (h0 : 0 ≤ i) (h1 : i < T.length) : b01 (i = 0 ∨ (σ 1 i.toNat = 32 ∧ σ 1 (i - 1).toNat ≠ 32)) = wT T i := by
  unfold wT
  apply b01_c
  unfold bwP
  by_cases h : i = 0
  · subst h
    simp
    omega
  · rw [(ht.2.2 i.toNat (by omega)).1, (ht.2.2 (i - 1).toNat (by omega)).1]
    show _ ↔ 0 ≤ i ∧ i < T.length ∧ (i = 0 ∨ (T.getD i.toNat 0 = 32 ∧ T.getD (i - 1).toNat 0 ≠ 32))
    omega
theorem c_X6_octet {b : Int} (h : RM σ T ps P) (hb : inR b) : Ci l yX6_octet wsX6_octet (rh 1) D cA ad LM [.inl 0, .inr b] σ (fun r τ => r = aOct T b ∧ RM τ (tOct T b) ps P) := by
  refine Ci.walk fX6_octet pX6_octet [] (by decide) rfl LM_ok tX6_octet_ok fX6_octet_ok pX6_octet_ok klOk_0 (Nat.le_of_ble_eq_true rfl) (fun V M ret => ?_)
  suffices start : ∀ σ : St, RM σ T ps P → V (5, lnum 0 [.inl 0, .inr b], [], σ) by
    refine M.1 [5] 60 _ ?_
    exact start _ (RM_c h inR_0)
  clear h
  intro σ h
  refine M.1 [10] 60 _ ?_
  have h' := h
  obtain ⟨hr, ht, hv, hp⟩ := h
  have h11 := ht.1
  have hn := ht.2.1
  refine M.2.2.2.1 (vs := [.inr b, .inr 0, .inr 255]) (rest := []) rfl oX6_octet_X6_in (Nat.le_of_ble_eq_true rfl) rfl (c_X6_in hb inR_0 (by constructor <;> decide)) (fun r τ _ hp2 => ?_)
  obtain ⟨rfl, rfl⟩ := hp2
  refine M.1 [18, 30, 55] 60 _ ?_
  refine ⟨b01_r _, fun c1 => ?_, fun c1 => ?_⟩
  · have c1 := Classical.not_not.mp (fun h => c1 (b01_f h))
    refine ⟨⟨hr _ _, by constructor <;> decide⟩, fun c2 => ?_, fun c2 => ?_⟩
    · refine ⟨⟨by omega, by omega⟩, ?_⟩
      refine ret rfl ?_ ⟨?_, ?_, ?_, ?_, ?_⟩
      · rw [stu_s, stu_j _ _ _ (by decide), h11]
        unfold inR
        omega
      · unfold aOct
        rw [stu_s, stu_j _ _ _ (by decide), if_pos (by omega), if_pos (by omega), h11]
      · refine rng_stu (rng_stu hr hb _ _) ?_ _ _
        rw [stu_j _ _ _ (by decide), h11]
        unfold inR
        omega
      · unfold tOct
        rw [if_pos (by omega), h11, Int.toNat_natCast]
        refine ⟨by rw [stu_s, stu_j _ _ _ (by decide), h11]; simp, by simp; omega, fun i hi => ?_⟩
        simp only [List.length_append, List.length_singleton] at hi
        rw [stu_j _ _ _ (by decide), getD_snoc]
        by_cases e : i = T.length
        · rw [e, stu_s, if_neg (by omega), if_pos rfl]
          omega
        · rw [stu_i _ _ _ e, if_pos (by omega)]
          exact ht.2.2 i (by omega)
      · exact vocM_x hv (by simp [stu, va_up]) (by simp [stu, va_up]) (by simp [stu, va_up]) (by simp [stu, va_up]) (by simp [stu, va_up]) (by simp [stu, va_up])
      · intro t htt
        simp [stu, va_up]
        exact hp t htt
    · refine ret rfl (by constructor <;> decide) ⟨by unfold aOct; rw [if_pos (by omega), if_neg (by omega)], ?_⟩
      unfold tOct
      rw [if_neg (by omega)]
      exact h'
  · have c1 := b01_0.mp c1
    refine ret rfl (by constructor <;> decide) ⟨by unfold aOct; rw [if_neg (by omega)], ?_⟩
    unfold tOct
    rw [if_neg (by omega)]
    exact h'
theorem c_X6_cut {n : Int} (h : RM σ T ps P) (hb : inR n) : Ci l yX6_cut wsX6_cut (rh 1) D cA ad LM [.inl 0, .inr n] σ (fun r τ => r = aCut T n ∧ RM τ (tCut T n) ps P) := by
  refine Ci.walk fX6_cut pX6_cut [] (by decide) rfl LM_ok tX6_cut_ok fX6_cut_ok pX6_cut_ok klOk_0 (Nat.le_of_ble_eq_true rfl) (fun V M ret => ?_)
  suffices start : ∀ σ : St, RM σ T ps P → V (5, lnum 0 [.inl 0, .inr n], [], σ) by
    refine M.1 [5] 60 _ ?_
    exact start _ (RM_c h inR_0)
  clear h
  intro σ h
  refine M.1 [11] 60 _ ?_
  have h' := h
  obtain ⟨hr, ht, hv, hp⟩ := h
  have h11 := ht.1
  have hn := ht.2.1
  refine M.2.2.2.1 (vs := [.inr n, .inr 0, .inr (σ 0 1)]) (rest := []) rfl oX6_cut_X6_in (Nat.le_of_ble_eq_true rfl) rfl (c_X6_in hb inR_0 (hr _ _)) (fun r τ _ hp2 => ?_)
  obtain ⟨rfl, rfl⟩ := hp2
  rw [h11]
  refine M.1 [19, 31] 60 _ ?_
  refine ⟨b01_r _, fun c1 => ?_, fun c1 => ?_⟩
  · have c1 := Classical.not_not.mp (fun h => c1 (b01_f h))
    refine ret rfl (hr _ _) ⟨?_, rng_stu hr hb _ _, ?_, ?_, ?_⟩
    · unfold aCut
      rw [if_pos (by omega)]
      exact h11
    · unfold tCut
      rw [if_pos (by omega)]
      refine ⟨by rw [stu_s, List.length_take]; omega, by rw [List.length_take]; omega, fun i hi => ?_⟩
      rw [List.length_take] at hi
      rw [stu_j _ _ _ (by decide), getD_take _ (by omega)]
      exact ht.2.2 i (by omega)
    · exact vocM_x hv (by simp [stu, va_up]) (by simp [stu, va_up]) (by simp [stu, va_up]) (by simp [stu, va_up]) (by simp [stu, va_up]) (by simp [stu, va_up])
    · intro t htt
      simp [stu, va_up]
      exact hp t htt
  · have c1 := b01_0.mp c1
    refine ret rfl (by constructor <;> decide) ⟨by unfold aCut; rw [if_neg (by omega)], ?_⟩
    unfold tCut
    rw [if_neg (by omega)]
    exact h'
theorem c_X6_byteAt {i : Int} (h : RM σ T ps P) (hb : inR i) : Ci l yX6_byteAt wsX6_byteAt (rh 1) D cA ad LM [.inl 0, .inr i] σ (fun r τ => r = aByt T i ∧ RM τ T ps P) := by
  refine Ci.walk fX6_byteAt pX6_byteAt [] (by decide) rfl LM_ok tX6_byteAt_ok fX6_byteAt_ok pX6_byteAt_ok klOk_0 (Nat.le_of_ble_eq_true rfl) (fun V M ret => ?_)
  suffices start : ∀ σ : St, RM σ T ps P → V (5, lnum 0 [.inl 0, .inr i], [], σ) by
    refine M.1 [5] 60 _ ?_
    exact start _ (RM_c h inR_0)
  clear h
  intro σ h
  refine M.1 [13] 60 _ ?_
  have h' := h
  obtain ⟨hr, ht, hv, hp⟩ := h
  have h11 := ht.1
  have hn := ht.2.1
  refine M.2.2.2.1 (vs := [.inr i, .inr 0, .inr (σ 0 1 - 1)]) (rest := []) rfl oX6_byteAt_X6_in (Nat.le_of_ble_eq_true rfl) rfl (c_X6_in hb inR_0 (by rw [h11]; unfold inR; omega)) (fun r τ _ hp2 => ?_)
  obtain ⟨rfl, rfl⟩ := hp2
  rw [h11]
  refine M.1 [29] 60 _ ?_
  refine ⟨b01_r _, fun c1 => ?_, fun c1 => ?_⟩
  · have c1 := b01_0.mp c1
    exact ret rfl (by constructor <;> decide) ⟨by unfold aByt; rw [if_neg (by omega)], h'⟩
  · have c1 := Classical.not_not.mp (fun h => c1 (b01_f h))
    refine ⟨⟨by omega, by omega⟩, ?_⟩
    exact ret rfl (hr _ _) ⟨by unfold aByt; rw [if_pos (by omega), (ht.2.2 i.toNat (by omega)).1], h'⟩
theorem nw_b (T : List Int) (i : Nat) : 0 ≤ nw (wT T) i ∧ nw (wT T) i ≤ i := by
  induction i with
  | zero => simp [nw]
  | succ i ih =>
    have := wT_01 T (i : Int)
    unfold nw
    omega
theorem c_X6_words (h : RM σ T ps P) : Ci l yX6_words wsX6_words (rh 1) D cA ad LM [.inl 0] σ (fun r τ => r = aWrd T ∧ RM τ T ps P) := by
  refine Ci.walk fX6_words pX6_words [] (by decide) rfl LM_ok tX6_words_ok fX6_words_ok pX6_words_ok klOk_0 (Nat.le_of_ble_eq_true rfl) (fun V M ret => ?_)
  refine M.1 [9] 60 _ ?_
  have h := RM_c h inR_0
  have h' := h
  have key : ∀ υ, RM υ T ps P → ∀ (d i : Nat), i + d = T.length → V (9, [(0, .inl 0), (1, .inr (nw (wT T) i)), (2, .inr (i : Int))], [], υ) := by
    intro υ h
    have h' := h
    obtain ⟨hr, ht, hv, hp⟩ := h
    have h11 := ht.1
    have hn := ht.2.1
    intro d
    induction d with
    | zero =>
      intro i hi
      have e : i = T.length := by omega
      subst e
      refine M.1 [40] 60 _ ?_
      refine ⟨⟨by unfold inR; omega, hr _ _⟩, fun c1 => ?_, fun c1 => absurd c1 (by omega)⟩
      have := nw_b T T.length
      exact ret rfl (by unfold inR; omega) ⟨rfl, h'⟩
    | succ d ih =>
      intro i hi
      refine M.1 [20] 60 _ ?_
      refine ⟨⟨by unfold inR; omega, hr _ _⟩, fun c1 => absurd c1 (by omega), fun c1 => ?_⟩
      refine M.2.1 (vs := [.inr (i : Int)]) (rest := [.inr (nw (wT T) i)]) rfl oX6_words_X6_beginsWord rfl rfl (Nat.le_of_ble_eq_true rfl) rfl (c_X6_beginsWord hr (by omega) (by omega)) (fun r τ _ hp' => ?_)
      obtain ⟨rfl, rfl⟩ := hp'
      rw [bw_M ht (by omega) (by omega)]
      have hh := ih (i + 1) (by omega)
      unfold nw at hh
      refine M.1 [9] 60 _ ?_
      refine ⟨b01_r _, fun c2 => ?_, fun c2 => ?_⟩
      · rw [show wT T (i : Int) = 0 from c2] at hh
        exact hh
      · rw [show wT T (i : Int) = 1 from (wT_01 T i).resolve_left c2] at hh
        exact hh
  exact key _ h T.length 0 (by omega)
def rowM (σ : St) (R : Rw) : Prop := σ 0 10 = R.length ∧ R.length ≤ 120 ∧ hold (σ 8) (σ 9) 0 R
theorem c_X6_layBytes (hr : rng σ) (ht : textM σ T) : Cv l yX6_layBytes wsX6_layBytes (rh 0) D cA ad LM [.inl 0] σ (fun τ => rng τ ∧ ob σ τ ∧ τ 0 0 = σ 0 0 ∧ eqx [0, 8, 9] σ τ ∧ rowM τ (spT T)) := by
  have h11 := ht.1
  have hn := ht.2.1
  refine Cv.walk fX6_layBytes pX6_layBytes [] (by decide) rfl LM_ok tX6_layBytes_ok fX6_layBytes_ok pX6_layBytes_ok klOk_0 (Nat.le_of_ble_eq_true rfl) (fun V M ret => ?_)
  have loop : ∀ (d i : Nat) (τ : St), i + d = T.length → rng τ → ob σ τ → τ 0 0 = σ 0 0 → eqx [0, 8, 9] σ τ → τ 0 10 = T.length → (∀ j : Nat, j < i → τ 8 j = FT T j ∧ τ 9 j = (j : Int)) → V (10, [(0, .inl 0), (1, .inr (i : Int))], [], τ) := by
    intro d
    induction d with
    | zero =>
      intro i τ hi hrt ho h00 hx h32 hw
      have e : i = T.length := by omega
      subst e
      have ho1 := ho.1
      refine M.1 [43] 60 _ ?_
      refine ⟨⟨by unfold inR; omega, hrt _ _⟩, fun c1 => ?_, fun c1 => absurd c1 (by omega)⟩
      refine ret rfl ⟨hrt, ho, h00, hx, ?_, ?_, ?_⟩
      · rw [h32]; unfold spT; rw [spl_len]
      · unfold spT; rw [spl_len]; omega
      · exact hold_spl hw
    | succ d ih =>
      intro i τ hi hrt ho h00 hx h32 hw
      have ho1 := ho.1
      have e1 : τ 1 i = FT T i := by rw [hx 1 (by decide)]; exact (ht.2.2 i (by omega)).1
      refine M.1 [10] 60 _ ?_
      refine ⟨⟨by unfold inR; omega, hrt _ _⟩, fun c1 => absurd c1 (by omega), fun c1 => ?_⟩
      refine ⟨⟨by omega, by omega⟩, ⟨by omega, by omega⟩, ⟨by omega, by omega⟩, ?_⟩
      rw [Int.toNat_natCast, e1]
      have hFi : inR (FT T i) := by rw [← e1]; exact hrt _ _
      refine ih (i + 1) _ (by omega) (rng_stu (rng_stu hrt hFi _ _) (by unfold inR; omega) _ _) ⟨by simp [stu, va_up, ho.1], by simp [stu, va_up, ho.2]⟩ (by simp [stu, va_up, h00]) (eqx_stu (eqx_stu hx (by decide) _ _) (by decide) _ _) (by simp [stu, va_up, h32]) (fun j hj => ?_)
      by_cases e : j = i
      · subst e
        simp [stu, va_up]
      · have := hw j (by omega)
        simp [stu, va_up, e, this]
  refine M.1 [10] 60 _ ?_
  refine loop T.length 0 _ (by omega) (rng_stu hr (hr _ _) _ _) ⟨by simp [stu, va_up], by simp [stu, va_up]⟩ (by simp [stu, va_up]) (eqx_stu eqx_rfl (by decide) _ _) (by rw [stu_s]; exact h11) (fun j hj => absurd hj (by omega))
end M1
end
section
def plIn (T : List Int) (R : Rw) : Prop := ∀ q ∈ R, 0 ≤ q.2 ∧ q.2 < T.length
theorem mrg_pl {Q : Int → Prop} (w : Int → Int) (a b t : Int) : ∀ (k : Nat) (R : Rw), R.length ≤ k → (∀ q ∈ R, Q q.2) → ∀ q ∈ mrg w a b t R, Q q.2
  | _, [], _, h => h
  | _, [q], _, h => h
  | 0, q :: q2 :: r, hk, _ => by simp at hk
  | k + 1, q :: q2 :: r, hk, h => by
    simp only [List.length_cons] at hk
    by_cases c : q.1 = a ∧ q2.1 = b ∧ w q2.2 = 0
    · rw [mrg_y c]
      intro z hz
      rcases List.mem_cons.mp hz with rfl | hz
      · exact h q List.mem_cons_self
      · exact mrg_pl w a b t k r (by omega) (fun z hz => h z (List.mem_cons_of_mem _ (List.mem_cons_of_mem _ hz))) z hz
    · rw [mrg_n c]
      intro z hz
      rcases List.mem_cons.mp hz with rfl | hz
      · exact h z List.mem_cons_self
      · exact mrg_pl w a b t k (q2 :: r) (by simp only [List.length_cons]; omega) (fun z hz => h z (List.mem_cons_of_mem _ hz)) z hz
theorem spl_pl (f : Nat → Int) : ∀ (n : Nat), ∀ q ∈ spl f n, 0 ≤ q.2 ∧ q.2 < n
  | 0, q, h => by simp [spl] at h
  | n + 1, q, h => by
    unfold spl at h
    rcases List.mem_append.mp h with h | h
    · have := spl_pl f n q h
      omega
    · rw [List.mem_singleton] at h
      subst h
      simp
      omega
theorem spT_pl (T : List Int) : plIn T (spT T) := fun q hq => spl_pl (FT T) T.length q hq
section M2
variable {l : Launch} {D : va_G} {cA : Nat → ClassId} {ad : Nat → Nat} {σ : St} {T : List Int} {ps : PSt} {P : Int → Int} {R : Rw}
theorem c_X6_isPair {i : Nat} {a b : Int} (hr : rng σ) (ht : textM σ T) (hN : (i : Int) < σ 0 10) (hN2 : σ 0 10 ≤ 120) (hpl : (i : Int) + 1 < σ 0 10 → 0 ≤ σ 9 (i + 1) ∧ σ 9 (i + 1) < T.length) (ha : inR a) (hb : inR b) : Ci l yX6_isPair wsX6_isPair (rh 1) D cA ad LM [.inl 0, .inr (i : Int), .inr a, .inr b] σ (fun r τ => τ = σ ∧ r = b01 ((i : Int) + 1 < σ 0 10 ∧ σ 8 i = a ∧ σ 8 (i + 1) = b ∧ wT T (σ 9 (i + 1)) = 0)) := by
  have hn := ht.2.1
  refine Ci.walkZ fX6_isPair pX6_isPair [] (by decide) rfl LM_ok tX6_isPair_ok fX6_isPair_ok pX6_isPair_ok klOk_0 (Nat.le_of_ble_eq_true rfl) (fun V M ret => ?_)
  have e1 : ((i : Int) + 1).toNat = i + 1 := by omega
  refine M.1 [41, 52] 60 _ ?_
  refine ⟨⟨by unfold inR; omega, hr _ _⟩, fun c1 => ?_, fun c1 => ?_⟩
  · refine ret rfl (Or.inl rfl) ⟨rfl, ?_⟩
    rw [b01_f]
    omega
  · refine ⟨⟨by omega, by omega⟩, ⟨hr _ _, ha⟩, fun c2 => ?_, fun c2 => ?_⟩
    · rw [Int.toNat_natCast] at c2
      exact ret rfl (Or.inl rfl) ⟨rfl, by rw [b01_f (fun h => c2 h.2.1)]⟩
    · rw [Int.toNat_natCast] at c2
      refine ⟨⟨by omega, by omega⟩, ⟨hr _ _, hb⟩, fun c3 => ?_, fun c3 => ?_⟩
      · rw [e1] at c3
        exact ret rfl (Or.inl rfl) ⟨rfl, by rw [b01_f (fun h => c3 h.2.2.1)]⟩
      · rw [e1] at c3
        refine ⟨⟨by omega, by omega⟩, ?_⟩
        rw [e1]
        have hp2 := hpl (by omega)
        refine M.2.1 (vs := [.inr (σ 9 (i + 1))]) (rest := []) rfl oX6_isPair_X6_beginsWord rfl rfl (Nat.le_of_ble_eq_true rfl) rfl (c_X6_beginsWord hr hp2.1 (by omega)) (fun r τ _ hp' => ?_)
        obtain ⟨rfl, rfl⟩ := hp'
        rw [bw_M ht hp2.1 hp2.2]
        refine M.1 [52] 60 _ ?_
        refine ⟨b01_r _, fun c4 => ?_, fun c4 => ?_⟩
        · exact ret rfl (Or.inl rfl) ⟨rfl, by rw [b01_f (fun h => c4 h.2.2.2)]⟩
        · exact ret rfl (Or.inr rfl) ⟨rfl, by rw [b01_t ⟨by omega, c2, c3, c4⟩]⟩
theorem c_X6_join {a b t : Int} (hr : rng σ) (ht : textM σ T) (hR : rowM σ R) (hpl : plIn T R) (ha : inR a) (hb : inR b) (htt : inR t) : Cv l yX6_join wsX6_join (rh 2) D cA ad LM [.inl 0, .inr a, .inr b, .inr t] σ (fun τ => rng τ ∧ ob σ τ ∧ τ 0 0 = σ 0 0 ∧ eqx [0, 8, 9] σ τ ∧ rowM τ (mrg (wT T) a b t R)) := by
  obtain ⟨hN, hN2, hh0⟩ := hR
  have hn := ht.2.1
  refine Cv.walk fX6_join pX6_join [] (by decide) rfl LM_ok tX6_join_ok fX6_join_ok pX6_join_ok klOk_0 (Nat.le_of_ble_eq_true rfl) (fun V M ret => ?_)
  have loop : ∀ (d : Nat) (o s : Rw) (i k : Nat) (τ : St), s.length ≤ d → i + s.length = R.length → o.length = k → k ≤ i → rng τ → eqx [8, 9] σ τ → hold (τ 8) (τ 9) 0 o → hold (τ 8) (τ 9) i s → (∀ q ∈ s, 0 ≤ q.2 ∧ q.2 < T.length) → o ++ mrg (wT T) a b t s = mrg (wT T) a b t R → V (6, [(0, .inl 0), (1, .inr a), (2, .inr b), (3, .inr t), (4, .inr (k : Int)), (5, .inr (i : Int))], [], τ) := by
    intro d
    induction d with
    | zero =>
      intro o s i k τ hd hi ho hki hrt hx hho hhs hps hm
      have e : s = [] := List.length_eq_zero_iff.mp (by omega)
      subst e
      have e0 : τ 0 = σ 0 := hx 0 (by decide)
      refine M.1 [93] 60 _ ?_
      refine ⟨⟨by unfold inR; omega, hrt _ _⟩, fun c1 => ?_, fun c1 => absurd c1 (by rw [e0]; simp at hi; omega)⟩
      simp only [mrg, List.append_nil] at hm
      refine ret rfl ⟨rng_stu hrt (by unfold inR; omega) _ _, ⟨by simp [stu, va_up, e0], by simp [stu, va_up, e0]⟩, by simp [stu, va_up, e0], eqx_stu (eqx_mono hx (by decide)) (by decide) _ _, ?_⟩
      refine ⟨by rw [stu_s, ← hm, ho], by rw [← hm]; omega, ?_⟩
      rw [← hm, stu_j _ _ _ (by decide), stu_j _ _ _ (by decide)]
      exact hho
    | succ d ih =>
      intro o s i k τ hd hi ho hki hrt hx hho hhs hps hm
      have e0 : τ 0 = σ 0 := hx 0 (by decide)
      have ht1 : textM τ T := textM_x ht (by rw [e0]) (hx 1 (by decide))
      cases s with
      | nil => exact ih o [] i k τ (by simp) hi ho hki hrt hx hho hhs hps hm
      | cons q s =>
      simp only [List.length_cons] at hi hd
      have hhs0 := hhs
      obtain ⟨hq1, hq2, hhs'⟩ := hhs
      have fin : ∀ (m x : Int) (s2 : Rw) (i2 : Nat), ((m = 1 ∧ x = t ∧ i2 = i + 2) ∨ (m = 0 ∧ x = q.1 ∧ i2 = i + 1)) → hold (τ 8) (τ 9) i2 s2 → (∀ z ∈ s2, 0 ≤ z.2 ∧ z.2 < T.length) → i2 + s2.length = R.length → (o ++ [(x, q.2)]) ++ mrg (wT T) a b t s2 = mrg (wT T) a b t R → V (23, [(0, .inl 0), (1, .inr a), (2, .inr b), (3, .inr t), (4, .inr (k : Int)), (5, .inr (i : Int))], [.inr m], τ) := by
        intro m x s2 i2 hmx hh2 hp2 hl2 hm2
        have hxr : inR x := by
          rcases hmx with h | h
          · rw [h.2.1]; exact htt
          · rw [h.2.1, ← hq1]; exact hrt _ _
        have next : V (6, [(0, .inl 0), (1, .inr a), (2, .inr b), (3, .inr t), (4, .inr ((k + 1 : Nat) : Int)), (5, .inr (i2 : Int))], [], stu (stu τ 8 k x) 9 k (τ 9 i)) := by
          refine ih (o ++ [(x, q.2)]) s2 i2 (k + 1) _ (by omega) hl2 (by simp [ho]) (by omega) (rng_stu (rng_stu hrt hxr _ _) (hrt _ _) _ _) (eqx_stu (eqx_stu hx (by decide) _ _) (by decide) _ _) ?_ ?_ hp2 hm2
          · rw [hold_app]
            refine ⟨hold_congr (fun j h1 h2 => ?_) hho, ?_, ?_, trivial⟩
            · have e : j ≠ k := by omega
              simp [stu, va_up, e]
            · simp [stu, va_up, ho]
            · simp [stu, va_up, ho, hq2]
          · refine hold_congr (fun j h1 h2 => ?_) hh2
            have e : j ≠ k := by omega
            simp [stu, va_up, e]
        rcases hmx with ⟨rfl, rfl, rfl⟩ | ⟨rfl, rfl, rfl⟩
        · refine M.1 [6] 80 _ ?_
          refine ⟨⟨by omega, by omega⟩, by constructor <;> decide, fun c => absurd c (by decide), fun _ => ?_⟩
          refine ⟨⟨by omega, by omega⟩, ⟨by omega, by omega⟩, by constructor <;> decide, fun c => absurd c (by decide), fun _ => ?_⟩
          exact M.2.2.2.2.2.1 _ (lpick_mem [0, 1, 2, 3, 4, 5]) next
        · refine M.1 [6] 80 _ ?_
          refine ⟨⟨by omega, by omega⟩, by constructor <;> decide, fun _ => ?_, fun c => absurd rfl c⟩
          refine ⟨⟨by omega, by omega⟩, ⟨by omega, by omega⟩, ⟨by omega, by omega⟩, by constructor <;> decide, fun _ => ?_, fun c => absurd rfl c⟩
          rw [← hq1] at next
          exact M.2.2.2.2.2.1 _ (lpick_mem [0, 1, 2, 3, 4, 5]) next
      refine M.1 [20] 60 _ ?_
      refine ⟨⟨by unfold inR; omega, hrt _ _⟩, fun c1 => absurd c1 (by rw [e0]; omega), fun c1 => ?_⟩
      have hp9 : (i : Int) + 1 < τ 0 10 → 0 ≤ τ 9 (i + 1) ∧ τ 9 (i + 1) < T.length := by
        intro h
        rw [e0, hN] at h
        cases s with
        | nil => simp at hi; omega
        | cons q2 s2 =>
          rw [hhs'.2.1]
          exact hps q2 (List.mem_cons_of_mem _ List.mem_cons_self)
      refine M.2.1 (vs := [.inr (i : Int), .inr a, .inr b]) (rest := []) rfl oX6_join_X6_isPair rfl rfl (Nat.le_of_ble_eq_true rfl) rfl (c_X6_isPair hrt ht1 (by rw [e0]; omega) (by rw [e0]; omega) hp9 ha hb) (fun r υ _ hp => ?_)
      obtain ⟨rfl, rfl⟩ := hp
      rw [e0, hN, hq1]
      by_cases hc : (i : Int) + 1 < R.length ∧ q.1 = a ∧ υ 8 (i + 1) = b ∧ wT T (υ 9 (i + 1)) = 0
      · rw [b01_t hc]
        obtain ⟨h1, h2, h3, h4⟩ := hc
        cases s with
        | nil => simp at hi; omega
        | cons q2 s2 =>
          simp only [List.length_cons] at hi
          obtain ⟨hz1, hz2, hz3⟩ := hhs'
          refine fin 1 t s2 (i + 2) (Or.inl ⟨rfl, rfl, rfl⟩) hz3 (fun z hz => hps z (List.mem_cons_of_mem _ (List.mem_cons_of_mem _ hz))) (by omega) ?_
          rw [← hm, mrg_y ⟨h2, by rw [← hz1]; exact h3, by rw [← hz2]; exact h4⟩]
          simp
      · rw [b01_f hc]
        refine fin 0 q.1 s (i + 1) (Or.inr ⟨rfl, rfl, rfl⟩) hhs' (fun z hz => hps z (List.mem_cons_of_mem _ hz)) (by omega) ?_
        rw [← hm]
        cases s with
        | nil => simp [mrg]
        | cons q2 s2 =>
          simp only [List.length_cons] at hi
          rw [mrg_n (fun h => hc ⟨by omega, h.1, by rw [hhs'.1]; exact h.2.1, by rw [hhs'.2.1]; exact h.2.2⟩)]
          simp
  refine M.1 [6] 60 _ ?_
  exact loop R.length [] R 0 0 σ (Nat.le_refl _) (by simp) rfl (Nat.le_refl _) hr eqx_rfl trivial hh0 hpl rfl
theorem c_X6_tell (h : RM σ T ps P) : Cv l yX6_tell wsX6_tell (rh 3) D cA ad LM [.inl 0] σ (fun τ => RM τ T ps P ∧ τ 0 0 = σ 0 0 ∧ rowM τ (told T ps)) := by
  have h' := h
  obtain ⟨hr, ht, hv, hp⟩ := h
  have hl2 := hv.2.1
  refine Cv.walk fX6_tell pX6_tell [] (by decide) rfl LM_ok tX6_tell_ok fX6_tell_ok pX6_tell_ok klOk_0 (Nat.le_of_ble_eq_true rfl) (fun V M ret => ?_)
  have loop : ∀ (qs : PSt) (j : Nat) (R : Rw) (τ : St), (∀ i q, qs[i]? = some q → ps[j + i]? = some q) → j + qs.length = ps.length → rng τ → ob σ τ → τ 0 0 = σ 0 0 → eqx [0, 8, 9] σ τ → rowM τ R → plIn T R → tellR (wT T) qs j R = told T ps → V (6, [(0, .inl 0), (1, .inr (j : Int))], [], τ) := by
    intro qs
    induction qs with
    | nil =>
      intro j R τ hq hj hrt ho h00 hx hR hpl hm
      have ho2 := ho.2
      simp at hj
      refine M.1 [41] 60 _ ?_
      refine ⟨⟨by unfold inR; omega, hrt _ _⟩, fun c1 => ?_, fun c1 => absurd c1 (by rw [ho2, hv.1]; omega)⟩
      refine ret rfl ⟨RM_x h' hrt ho (eqx_mono hx (by decide)), h00, ?_⟩
      rw [← hm]
      exact hR
    | cons q qs ih =>
      intro j R τ hq hj hrt ho h00 hx hR hpl hm
      have ho2 := ho.2
      have hRM := RM_x h' hrt ho (eqx_mono hx (by decide))
      simp only [List.length_cons] at hj
      have hq0 : ps[j]? = some q := by simpa using hq 0 q rfl
      have e := hRM.2.2.1.2.2.1 j q hq0
      refine M.1 [32] 60 _ ?_
      refine ⟨⟨by unfold inR; omega, hrt _ _⟩, fun c1 => absurd c1 (by rw [ho2, hv.1]; omega), fun c1 => ?_⟩
      refine ⟨⟨by omega, by omega⟩, ⟨by omega, by omega⟩, ?_⟩
      rw [Int.toNat_natCast, e.1, e.2.1]
      refine M.2.2.1 (vs := [.inr q.1, .inr q.2.1, .inr (256 + (j : Int))]) (rest := []) rfl oX6_tell_X6_join rfl rfl (Nat.le_of_ble_eq_true rfl) rfl (c_X6_join hrt hRM.2.1 hR hpl (by rw [← e.1]; exact hrt _ _) (by rw [← e.2.1]; exact hrt _ _) (by unfold inR; omega)) (fun υ hp2 => ?_)
      obtain ⟨p1, p2, p3, p4, p5⟩ := hp2
      refine M.1 [6] 60 _ ?_
      refine ih (j + 1) _ υ (fun i z hz => ?_) (by omega) p1 ⟨p2.1.trans ho.1, p2.2.trans ho.2⟩ (p3.trans h00) (eqx_trans hx p4) p5 (mrg_pl (Q := fun x => 0 ≤ x ∧ x < (T.length : Int)) _ _ _ _ R.length R (Nat.le_refl _) hpl) hm
      have := hq (i + 1) z (by simpa using hz)
      rwa [show j + (i + 1) = j + 1 + i by omega] at this
  refine M.1 [1] 60 _ ?_
  refine M.2.2.1 (vs := []) (rest := []) rfl oX6_tell_X6_layBytes rfl rfl (Nat.le_of_ble_eq_true rfl) rfl (c_X6_layBytes hr ht) (fun υ hp2 => ?_)
  obtain ⟨p1, p2, p3, p4, p5⟩ := hp2
  refine M.1 [6] 60 _ ?_
  exact loop ps 0 (spT T) υ (fun i q hq => by rw [Nat.zero_add]; exact hq) (by omega) p1 p2 p3 p4 p5 (spT_pl T) rfl
end M2
end
section
def dThr (ps : PSt) (t i : Int) : Prop := (0 ≤ t ∧ t < 256 + ps.length) ∧ ¬ (0 ≤ i ∧ i < (tbo (tbl ps) t).length)
def aDec (ps : PSt) (t i : Int) : Int := if 0 ≤ t ∧ t < 256 + ps.length then (tbo (tbl ps) t).getD i.toNat 0 else -1
section M3
variable {l : Launch} {D : va_G} {cA : Nat → ClassId} {ad : Nat → Nat} {σ : St} {T : List Int} {ps : PSt} {P : Int → Int} {R : Rw}
theorem rowM_at (hR : rowM σ R) {i : Nat} (hi : i < R.length) : σ 8 i = (R.getD i (0, 0)).1 ∧ σ 9 i = (R.getD i (0, 0)).2 := by
  have e : R[i]? = some (R.getD i (0, 0)) := by
    rw [List.getD_eq_getElem?_getD, List.getElem?_eq_getElem hi]
    rfl
  have := hold_at hR.2.2 e
  rwa [Nat.zero_add] at this
theorem c_X6_tokens (h : RM σ T ps P) : Ci l yX6_tokens wsX6_tokens (rh 4) D cA ad LM [.inl 0] σ (fun r τ => r = aTok T ps ∧ RM τ T ps P) := by
  refine Ci.walk fX6_tokens pX6_tokens [] (by decide) rfl LM_ok tX6_tokens_ok fX6_tokens_ok pX6_tokens_ok klOk_0 (Nat.le_of_ble_eq_true rfl) (fun V M ret => ?_)
  refine M.1 [6] 60 _ ?_
  refine M.2.2.1 (vs := []) (rest := []) rfl oX6_tokens_X6_tell rfl rfl (Nat.le_of_ble_eq_true rfl) rfl (c_X6_tell (RM_c h inR_0)) (fun υ hp2 => ?_)
  obtain ⟨p1, -, p2⟩ := hp2
  refine M.1 [13] 60 _ ?_
  exact ret rfl (p1.1 _ _) ⟨p2.1, p1⟩
theorem c_X6_at {i : Int} (h : RM σ T ps P) (hi : inR i) : Ci l yX6_at wsX6_at (rh 4) D cA ad LM [.inl 0, .inr i] σ (fun r τ => r = aAt T ps i ∧ RM τ T ps P) := by
  refine Ci.walk fX6_at pX6_at [] (by decide) rfl LM_ok tX6_at_ok fX6_at_ok pX6_at_ok klOk_0 (Nat.le_of_ble_eq_true rfl) (fun V M ret => ?_)
  refine M.1 [6] 60 _ ?_
  refine M.2.2.1 (vs := []) (rest := []) rfl oX6_at_X6_tell rfl rfl (Nat.le_of_ble_eq_true rfl) rfl (c_X6_tell (RM_c h inR_0)) (fun υ hp2 => ?_)
  obtain ⟨p1, -, p2⟩ := hp2
  have hN := p2.1
  have hN2 := p2.2.1
  refine M.1 [17] 60 _ ?_
  refine M.2.2.2.1 (vs := [.inr i, .inr 0, .inr (υ 0 10 - 1)]) (rest := []) rfl oX6_at_X6_in (Nat.le_of_ble_eq_true rfl) rfl (c_X6_in hi inR_0 (by rw [hN]; unfold inR; omega)) (fun r τ _ hp3 => ?_)
  obtain ⟨rfl, rfl⟩ := hp3
  rw [hN]
  refine M.1 [33] 60 _ ?_
  refine ⟨b01_r _, fun c1 => ?_, fun c1 => ?_⟩
  · have c1 := b01_0.mp c1
    exact ret rfl (by constructor <;> decide) ⟨by unfold aAt; rw [if_neg (by omega)], p1⟩
  · have c1 := Classical.not_not.mp (fun h => c1 (b01_f h))
    refine ⟨⟨by omega, by omega⟩, ?_⟩
    exact ret rfl (p1.1 _ _) ⟨by unfold aAt; rw [if_pos (by omega), (rowM_at p2 (i := i.toNat) (by omega)).1], p1⟩
theorem c_X6_from {i : Int} (h : RM σ T ps P) (hi : inR i) : Ci l yX6_from wsX6_from (rh 4) D cA ad LM [.inl 0, .inr i] σ (fun r τ => r = aFrm T ps i ∧ RM τ T ps P) := by
  refine Ci.walk fX6_from pX6_from [] (by decide) rfl LM_ok tX6_from_ok fX6_from_ok pX6_from_ok klOk_0 (Nat.le_of_ble_eq_true rfl) (fun V M ret => ?_)
  refine M.1 [6] 60 _ ?_
  refine M.2.2.1 (vs := []) (rest := []) rfl oX6_from_X6_tell rfl rfl (Nat.le_of_ble_eq_true rfl) rfl (c_X6_tell (RM_c h inR_0)) (fun υ hp2 => ?_)
  obtain ⟨p1, -, p2⟩ := hp2
  have hN := p2.1
  have hN2 := p2.2.1
  refine M.1 [17] 60 _ ?_
  refine M.2.2.2.1 (vs := [.inr i, .inr 0, .inr (υ 0 10 - 1)]) (rest := []) rfl oX6_from_X6_in (Nat.le_of_ble_eq_true rfl) rfl (c_X6_in hi inR_0 (by rw [hN]; unfold inR; omega)) (fun r τ _ hp3 => ?_)
  obtain ⟨rfl, rfl⟩ := hp3
  rw [hN]
  refine M.1 [33] 60 _ ?_
  refine ⟨b01_r _, fun c1 => ?_, fun c1 => ?_⟩
  · have c1 := b01_0.mp c1
    exact ret rfl (by constructor <;> decide) ⟨by unfold aFrm; rw [if_neg (by omega)], p1⟩
  · have c1 := Classical.not_not.mp (fun h => c1 (b01_f h))
    refine ⟨⟨by omega, by omega⟩, ?_⟩
    exact ret rfl (p1.1 _ _) ⟨by unfold aFrm; rw [if_pos (by omega), (rowM_at p2 (i := i.toNat) (by omega)).2], p1⟩
theorem c_X6_isLearned {t : Int} (hr : rng σ) (hv : vocM σ ps) (ht : inR t) : Ci l yX6_isLearned wsX6_isLearned (rh 1) D cA ad LM [.inl 0, .inr t] σ (fun r τ => τ = σ ∧ r = b01 (256 ≤ t ∧ t < 256 + ps.length)) := by
  have h1 := hv.1
  have h2 := hv.2.1
  refine Ci.walkZ fX6_isLearned pX6_isLearned [] (by decide) rfl LM_ok tX6_isLearned_ok fX6_isLearned_ok pX6_isLearned_ok klOk_0 (Nat.le_of_ble_eq_true rfl) (fun V M ret => ?_)
  refine M.1 [12] 60 _ ?_
  refine M.2.2.2.1 (vs := [.inr t, .inr 256, .inr (255 + σ 0 3)]) (rest := []) rfl oX6_isLearned_X6_in (Nat.le_of_ble_eq_true rfl) rfl (c_X6_in ht (by constructor <;> decide) (by unfold inR; omega)) (fun r τ _ hp3 => ?_)
  obtain ⟨rfl, rfl⟩ := hp3
  exact ret rfl (b01_z _) ⟨rfl, b01_c (by omega)⟩
theorem c_X6_isToken {t : Int} (hr : rng σ) (hv : vocM σ ps) (ht : inR t) : Ci l yX6_isToken wsX6_isToken (rh 1) D cA ad LM [.inl 0, .inr t] σ (fun r τ => τ = σ ∧ r = b01 (0 ≤ t ∧ t < 256 + ps.length)) := by
  have h1 := hv.1
  have h2 := hv.2.1
  refine Ci.walkZ fX6_isToken pX6_isToken [] (by decide) rfl LM_ok tX6_isToken_ok fX6_isToken_ok pX6_isToken_ok klOk_0 (Nat.le_of_ble_eq_true rfl) (fun V M ret => ?_)
  refine M.1 [10] 60 _ ?_
  refine M.2.2.2.1 (vs := [.inr t, .inr 0, .inr (255 + σ 0 3)]) (rest := []) rfl oX6_isToken_X6_in (Nat.le_of_ble_eq_true rfl) rfl (c_X6_in ht (by constructor <;> decide) (by unfold inR; omega)) (fun r τ _ hp3 => ?_)
  obtain ⟨rfl, rfl⟩ := hp3
  exact ret rfl (b01_z _) ⟨rfl, b01_c (by omega)⟩
theorem c_X6_sizeOf {t : Int} (hr : rng σ) (hv : vocM σ ps) (ht : 0 ≤ t ∧ t < 256 + ps.length) : Ci l yX6_sizeOf wsX6_sizeOf (rh 0) D cA ad LM [.inl 0, .inr t] σ (fun r τ => τ = σ ∧ r = (tbo (tbl ps) t).length) := by
  have h2 := hv.2.1
  refine Ci.walk fX6_sizeOf pX6_sizeOf [] (by decide) rfl LM_ok tX6_sizeOf_ok fX6_sizeOf_ok pX6_sizeOf_ok klOk_0 (Nat.le_of_ble_eq_true rfl) (fun V M ret => ?_)
  refine M.1 [21] 60 _ ?_
  refine ⟨⟨by unfold inR; omega, by constructor <;> decide⟩, fun c1 => ?_, fun c1 => ?_⟩
  · refine ⟨⟨by omega, by omega⟩, ?_⟩
    refine ret rfl (hr _ _) ⟨rfl, ?_⟩
    unfold tbo
    rw [if_neg (by omega), (hv.2.2.2 (t - 256).toNat (by omega)).1]
    rfl
  · refine ret rfl (by constructor <;> decide) ⟨rfl, ?_⟩
    unfold tbo
    rw [if_pos (by omega)]
    rfl
theorem c_X6_byteOf {t : Int} {i : Nat} (hr : rng σ) (hv : vocM σ ps) (h120 : ∀ j, j < ps.length → tl (tbl ps) j ≤ 120) (ht : 0 ≤ t ∧ t < 256 + ps.length) (hi : i < (tbo (tbl ps) t).length) : Ci l yX6_byteOf wsX6_byteOf (rh 0) D cA ad LM [.inl 0, .inr t, .inr (i : Int)] σ (fun r τ => τ = σ ∧ r = (tbo (tbl ps) t).getD i 0) := by
  have h2 := hv.2.1
  refine Ci.walk fX6_byteOf pX6_byteOf [] (by decide) rfl LM_ok tX6_byteOf_ok fX6_byteOf_ok pX6_byteOf_ok klOk_0 (Nat.le_of_ble_eq_true rfl) (fun V M ret => ?_)
  unfold tbo at hi
  refine M.1 [26] 60 _ ?_
  refine ⟨⟨by unfold inR; omega, by constructor <;> decide⟩, fun c1 => ?_, fun c1 => ?_⟩
  · rw [if_neg (by omega)] at hi
    have h3 := h120 (t - 256).toNat (by omega)
    have hi' : i < tl (tbl ps) (t - 256).toNat := hi
    refine ⟨⟨by omega, by omega⟩, ?_⟩
    refine ret rfl (hr _ _) ⟨rfl, ?_⟩
    rw [show (120 * (t - 256) + (i : Int)).toNat = 120 * (t - 256).toNat + i by omega, (hv.2.2.2 (t - 256).toNat (by omega)).2 i hi']
    unfold tbo
    rw [if_neg (by omega)]
  · rw [if_pos (by omega)] at hi
    refine ret rfl (by unfold inR; omega) ⟨rfl, ?_⟩
    unfold tbo
    rw [if_pos (by omega)]
    simp at hi
    subst hi
    rfl
theorem psM_at (hv : vocM σ ps) {j : Nat} (hj : j < ps.length) : σ 2 j = (ps.getD j d3).1 ∧ σ 3 j = (ps.getD j d3).2.1 ∧ σ 4 j = (ps.getD j d3).2.2 := by
  have e : ps[j]? = some (ps.getD j d3) := by
    rw [List.getD_eq_getElem?_getD, List.getElem?_eq_getElem hj]
    rfl
  exact hv.2.2.1 j _ e
theorem c_X6_pair {t s : Int} (h : RM σ T ps P) (ht' : inR t) (hs : inR s) : Ci l yX6_pair wsX6_pair (rh 2) D cA ad LM [.inl 0, .inr t, .inr s] σ (fun r τ => r = aPai ps t s ∧ RM τ T ps P) := by
  refine Ci.walk fX6_pair pX6_pair [] (by decide) rfl LM_ok tX6_pair_ok fX6_pair_ok pX6_pair_ok klOk_0 (Nat.le_of_ble_eq_true rfl) (fun V M ret => ?_)
  suffices start : ∀ σ : St, RM σ T ps P → V (5, lnum 0 [.inl 0, .inr t, .inr s], [], σ) by
    refine M.1 [5] 60 _ ?_
    exact start _ (RM_c h inR_0)
  clear h
  intro σ h
  have h' := h
  obtain ⟨hr, ht, hv, hp⟩ := h
  have hl := hv.2.1
  refine M.1 [7] 60 _ ?_
  refine M.2.1 (vs := [.inr t]) (rest := []) rfl oX6_pair_X6_isLearned rfl rfl (Nat.le_of_ble_eq_true rfl) rfl (c_X6_isLearned hr hv ht') (fun r τ _ hp' => ?_)
  obtain ⟨rfl, rfl⟩ := hp'
  refine M.1 [14, 52] 60 _ ?_
  refine ⟨b01_r _, fun c1 => ?_, fun c1 => ?_⟩
  · have h1 := Classical.not_not.mp (fun h => c1 (b01_f h))
    have e := psM_at hv (j := (t - 256).toNat) (by omega)
    refine ⟨hs, fun c2 => ?_, fun c2 => ?_⟩
    · refine ⟨⟨hs, by constructor <;> decide⟩, fun c3 => ?_, fun c3 => ?_⟩
      · exact ret rfl (by constructor <;> decide) ⟨by unfold aPai; rw [if_pos h1, if_neg c2, if_neg c3], h'⟩
      · refine ⟨⟨by omega, by omega⟩, ?_⟩
        exact ret rfl (hr _ _) ⟨by unfold aPai; rw [if_pos h1, if_neg c2, if_pos c3, e.2.1], h'⟩
    · refine ⟨⟨by omega, by omega⟩, ?_⟩
      exact ret rfl (hr _ _) ⟨by unfold aPai; rw [if_pos h1, if_pos c2, e.1], h'⟩
  · exact ret rfl (by constructor <;> decide) ⟨by unfold aPai; rw [if_neg (b01_0.mp c1)], h'⟩
theorem c_X6_count {t : Int} (h : RM σ T ps P) (ht' : inR t) : Ci l yX6_count wsX6_count (rh 2) D cA ad LM [.inl 0, .inr t] σ (fun r τ => r = aCnt ps t ∧ RM τ T ps P) := by
  refine Ci.walk fX6_count pX6_count [] (by decide) rfl LM_ok tX6_count_ok fX6_count_ok pX6_count_ok klOk_0 (Nat.le_of_ble_eq_true rfl) (fun V M ret => ?_)
  suffices start : ∀ σ : St, RM σ T ps P → V (5, lnum 0 [.inl 0, .inr t], [], σ) by
    refine M.1 [5] 60 _ ?_
    exact start _ (RM_c h inR_0)
  clear h
  intro σ h
  have h' := h
  obtain ⟨hr, ht, hv, hp⟩ := h
  have hl := hv.2.1
  refine M.1 [7] 60 _ ?_
  refine M.2.1 (vs := [.inr t]) (rest := []) rfl oX6_count_X6_isLearned rfl rfl (Nat.le_of_ble_eq_true rfl) rfl (c_X6_isLearned hr hv ht') (fun r τ _ hp' => ?_)
  obtain ⟨rfl, rfl⟩ := hp'
  refine M.1 [27] 60 _ ?_
  refine ⟨b01_r _, fun c1 => ?_, fun c1 => ?_⟩
  · exact ret rfl (by constructor <;> decide) ⟨by unfold aCnt; rw [if_neg (b01_0.mp c1)], h'⟩
  · have h1 := Classical.not_not.mp (fun h => c1 (b01_f h))
    have e := psM_at hv (j := (t - 256).toNat) (by omega)
    refine ⟨⟨by omega, by omega⟩, ?_⟩
    exact ret rfl (hr _ _) ⟨by unfold aCnt; rw [if_pos h1, e.2.2], h'⟩
theorem c_X6_size {t : Int} (h : RM σ T ps P) (ht' : inR t) : Ci l yX6_size wsX6_size (rh 2) D cA ad LM [.inl 0, .inr t] σ (fun r τ => r = aSiz ps t ∧ RM τ T ps P) := by
  refine Ci.walk fX6_size pX6_size [] (by decide) rfl LM_ok tX6_size_ok fX6_size_ok pX6_size_ok klOk_0 (Nat.le_of_ble_eq_true rfl) (fun V M ret => ?_)
  suffices start : ∀ σ : St, RM σ T ps P → V (5, lnum 0 [.inl 0, .inr t], [], σ) by
    refine M.1 [5] 60 _ ?_
    exact start _ (RM_c h inR_0)
  clear h
  intro σ h
  have h' := h
  obtain ⟨hr, ht, hv, hp⟩ := h
  refine M.1 [7] 60 _ ?_
  refine M.2.1 (vs := [.inr t]) (rest := []) rfl oX6_size_X6_isToken rfl rfl (Nat.le_of_ble_eq_true rfl) rfl (c_X6_isToken hr hv ht') (fun r τ _ hp' => ?_)
  obtain ⟨rfl, rfl⟩ := hp'
  refine M.1 [15, 22] 60 _ ?_
  refine ⟨b01_r _, fun c1 => ?_, fun c1 => ?_⟩
  · exact ret rfl (by constructor <;> decide) ⟨by unfold aSiz; rw [if_neg (b01_0.mp c1)], h'⟩
  · have h1 := Classical.not_not.mp (fun h => c1 (b01_f h))
    refine M.2.1 (vs := [.inr t]) (rest := []) rfl oX6_size_X6_sizeOf rfl rfl (Nat.le_of_ble_eq_true rfl) rfl (c_X6_sizeOf hr hv h1) (fun r τ hin hp' => ?_)
    obtain ⟨rfl, rfl⟩ := hp'
    refine M.1 [22] 60 _ ?_
    exact ret rfl hin ⟨by unfold aSiz; rw [if_pos h1], h'⟩
theorem c_X6_points {t p : Int} (h : RM σ T ps P) (ht' : inR t) (hp' : inR p) : Ci l yX6_points wsX6_points (rh 2) D cA ad LM [.inl 0, .inr t, .inr p] σ (fun r τ => r = aPts ps t p ∧ RM τ T ps (pPts ps P t p)) := by
  refine Ci.walk fX6_points pX6_points [] (by decide) rfl LM_ok tX6_points_ok fX6_points_ok pX6_points_ok klOk_0 (Nat.le_of_ble_eq_true rfl) (fun V M ret => ?_)
  suffices start : ∀ σ : St, RM σ T ps P → V (5, lnum 0 [.inl 0, .inr t, .inr p], [], σ) by
    refine M.1 [5] 60 _ ?_
    exact start _ (RM_c h inR_0)
  clear h
  intro σ h
  have h' := h
  obtain ⟨hr, ht, hv, hp⟩ := h
  have hl2 := hv.2.1
  refine M.1 [7] 60 _ ?_
  refine M.2.1 (vs := [.inr t]) (rest := []) rfl oX6_points_X6_isToken rfl rfl (Nat.le_of_ble_eq_true rfl) rfl (c_X6_isToken hr hv ht') (fun r τ _ hp2 => ?_)
  obtain ⟨rfl, rfl⟩ := hp2
  have no : ¬ (0 ≤ t ∧ t < 256 + ps.length ∧ -100 ≤ p ∧ p ≤ 100) → RM τ T ps (pPts ps P t p) := by
    intro q
    unfold pPts
    rw [if_neg q]
    exact h'
  refine M.1 [14, 20] 60 _ ?_
  refine ⟨b01_r _, fun c1 => ?_, fun c1 => ?_⟩
  · have h1 := Classical.not_not.mp (fun h => c1 (b01_f h))
    refine M.2.2.2.1 (vs := [.inr p, .inr (-100), .inr 100]) (rest := []) rfl oX6_points_X6_in (Nat.le_of_ble_eq_true rfl) rfl (c_X6_in hp' (by constructor <;> decide) (by constructor <;> decide)) (fun r τ2 _ hp3 => ?_)
    obtain ⟨rfl, rfl⟩ := hp3
    refine M.1 [28, 37] 60 _ ?_
    refine ⟨b01_r _, fun c2 => ?_, fun c2 => ?_⟩
    · have c2 := Classical.not_not.mp (fun h => c2 (b01_f h))
      refine ⟨⟨by omega, by omega⟩, ?_⟩
      refine ret rfl (by constructor <;> decide) ⟨by unfold aPts; rw [if_pos h1, if_pos (by omega)], rng_stu hr hp' _ _, textM_x ht (by simp [stu, va_up]) (by simp [stu, va_up]), vocM_x hv (by simp [stu, va_up]) (by simp [stu, va_up]) (by simp [stu, va_up]) (by simp [stu, va_up]) (by simp [stu, va_up]) (by simp [stu, va_up]), ?_⟩
      intro x hx
      unfold pPts
      rw [if_pos (by omega)]
      by_cases e : x = t.toNat
      · subst e
        rw [stu_s, if_pos (by omega)]
      · rw [stu_i _ _ _ e, if_neg (by omega)]
        exact hp x hx
    · have c2 := b01_0.mp c2
      exact ret rfl (by constructor <;> decide) ⟨by unfold aPts; rw [if_pos h1, if_neg c2], no (by omega)⟩
  · have h1 := b01_0.mp c1
    exact ret rfl (by constructor <;> decide) ⟨by unfold aPts; rw [if_neg h1], no (by omega)⟩
theorem c_X6_decode {t i : Int} (h : RM σ T ps P) (h120 : ∀ j, j < ps.length → tl (tbl ps) j ≤ 120) (ht' : inR t) (hi : inR i) : Ci l yX6_decode wsX6_decode (rh 2) D cA ad LM [.inl 0, .inr t, .inr i] σ (fun r τ => RM τ T ps P ∧ ((dThr ps t i ∧ τ 0 0 = 1) ∨ (¬ dThr ps t i ∧ τ 0 0 = 0 ∧ r = aDec ps t i))) := by
  refine Ci.walk fX6_decode pX6_decode [] (by decide) rfl LM_ok tX6_decode_ok fX6_decode_ok pX6_decode_ok klOk_0 (Nat.le_of_ble_eq_true rfl) (fun V M ret => ?_)
  suffices start : ∀ σ : St, RM σ T ps P → σ 0 0 = 0 → V (5, lnum 0 [.inl 0, .inr t, .inr i], [], σ) by
    refine M.1 [5] 60 _ ?_
    exact start _ (RM_c h inR_0) (stu_s _ _ _ _)
  clear h
  intro σ h h00
  have h' := h
  obtain ⟨hr, ht, hv, hp⟩ := h
  have hl2 := hv.2.1
  refine M.1 [7] 60 _ ?_
  refine M.2.1 (vs := [.inr t]) (rest := []) rfl oX6_decode_X6_isToken rfl rfl (Nat.le_of_ble_eq_true rfl) rfl (c_X6_isToken hr hv ht') (fun r τ _ hp2 => ?_)
  obtain ⟨rfl, rfl⟩ := hp2
  refine M.1 [14, 19] 60 _ ?_
  refine ⟨b01_r _, fun c1 => ?_, fun c1 => ?_⟩
  · have h1 := Classical.not_not.mp (fun h => c1 (b01_f h))
    have hsz : (tbo (tbl ps) t).length ≤ 120 := by
      unfold tbo
      split
      · simp
      · exact h120 (t - 256).toNat (by omega)
    refine M.2.1 (vs := [.inr t]) (rest := [.inr 0, .inr i]) rfl oX6_decode_X6_sizeOf rfl rfl (Nat.le_of_ble_eq_true rfl) rfl (c_X6_sizeOf hr hv h1) (fun r τ2 hin hp3 => ?_)
    obtain ⟨rfl, rfl⟩ := hp3
    refine M.1 [24] 60 _ ?_
    refine M.2.2.2.1 (vs := [.inr i, .inr 0, .inr (((tbo (tbl ps) t).length : Int) - 1)]) (rest := []) rfl oX6_decode_X6_in (Nat.le_of_ble_eq_true rfl) rfl (c_X6_in hi inR_0 (by unfold inR; omega)) (fun r τ3 _ hp4 => ?_)
    obtain ⟨rfl, rfl⟩ := hp4
    refine M.1 [36, 40] 60 _ ?_
    refine ⟨b01_r _, fun c2 => ?_, fun c2 => ?_⟩
    · have c2 := Classical.not_not.mp (fun h => c2 (b01_f h))
      have e : i = (i.toNat : Int) := by omega
      refine M.2.1 (vs := [.inr t, .inr i]) (rest := []) rfl oX6_decode_X6_byteOf rfl rfl (Nat.le_of_ble_eq_true rfl) rfl (by rw [e]; exact c_X6_byteOf (i := i.toNat) hr hv h120 h1 (by omega)) (fun r τ4 hin2 hp5 => ?_)
      obtain ⟨rfl, rfl⟩ := hp5
      refine ret rfl hin2 ⟨h', Or.inr ⟨fun q => q.2 (by omega), h00, ?_⟩⟩
      unfold aDec
      rw [if_pos h1]
    · have c2 := b01_0.mp c2
      exact ret rfl (by constructor <;> decide) ⟨RM_c h' (by constructor <;> decide), Or.inl ⟨⟨h1, by omega⟩, stu_s _ _ _ _⟩⟩
  · have h1 := b01_0.mp c1
    refine ret rfl (by constructor <;> decide) ⟨h', Or.inr ⟨fun q => h1 q.1, h00, ?_⟩⟩
    unfold aDec
    rw [if_neg h1]
end M3
end
section
section M4
variable {l : Launch} {D : va_G} {cA : Nat → ClassId} {ad : Nat → Nat} {σ : St} {T : List Int} {ps : PSt} {P : Int → Int} {R : Rw}
theorem vocM_y {τ : St} (h : vocM σ ps) (h120 : ∀ j, j < ps.length → tl (tbl ps) j ≤ 120) (h03 : τ 0 3 = σ 0 3) (hj : ∀ j, j < ps.length → τ 2 j = σ 2 j ∧ τ 3 j = σ 3 j ∧ τ 4 j = σ 4 j ∧ τ 5 j = σ 5 j) (h6 : ∀ x, x < 120 * ps.length → τ 6 x = σ 6 x) : vocM τ ps := by
  obtain ⟨a1, a2, a3, a4⟩ := h
  refine ⟨by rw [h03]; exact a1, a2, fun t q hq => ?_, fun j hjl => ?_⟩
  · have htl := (List.getElem?_eq_some_iff.mp hq).1
    have e := hj t htl
    rw [e.1, e.2.1, e.2.2.1]
    exact a3 t q hq
  · have e := hj j hjl
    have b := h120 j hjl
    rw [e.2.2.2]
    refine ⟨(a4 j hjl).1, fun i hi => ?_⟩
    rw [h6 _ (by omega)]
    exact (a4 j hjl).2 i hi
theorem c_X6_keep {a b c : Int} {k : Nat} (hk : ps.length = k) (hr : rng σ) (hv : vocM σ ps) (h120 : ∀ j, j < k → tl (tbl ps) j ≤ 120) (hl : k < 32) (ha : 0 ≤ a ∧ a < 256 + k) (hb : 0 ≤ b ∧ b < 256 + k) (hc : inR c) (hz : (tbo (tbl ps) a).length + (tbo (tbl ps) b).length ≤ 120) : Cv l yX6_keep wsX6_keep (rh 1) D cA ad LM [.inl 0, .inr a, .inr b, .inr c] σ (fun τ => rng τ ∧ τ 0 0 = σ 0 0 ∧ τ 0 1 = σ 0 1 ∧ τ 0 10 = σ 0 10 ∧ eqx [0, 2, 3, 4, 5, 6, 7] σ τ ∧ vocM τ (ps ++ [(a, b, c)]) ∧ τ 7 = va_up (σ 7) (256 + k) (((tbo (tbl ps) a).length + (tbo (tbl ps) b).length : Nat) : Int)) := by
  have h03 : σ 0 3 = (k : Int) := by rw [hv.1, hk]
  have hlen : (tbl ps).length = k := by rw [tbl_len ps, hk]
  refine Cv.walk fX6_keep pX6_keep [] (by decide) rfl LM_ok tX6_keep_ok fX6_keep_ok pX6_keep_ok klOk_0 (Nat.le_of_ble_eq_true rfl) (fun V M ret => ?_)
  obtain ⟨la, hla⟩ : ∃ x, x = (tbo (tbl ps) a).length := ⟨_, rfl⟩
  obtain ⟨lb, hlb⟩ : ∃ x, x = (tbo (tbl ps) b).length := ⟨_, rfl⟩
  rw [← hla, ← hlb] at hz ret
  -- the bytes of the new token
  have loop : ∀ (d i : Nat) (τ : St), i + d = la + lb → rng τ → τ 0 = σ 0 → eqx [2, 3, 4, 5, 6] σ τ → τ 2 = va_up (σ 2) k a → τ 3 = va_up (σ 3) k b → τ 4 = va_up (σ 4) k c → τ 5 = va_up (σ 5) k ((la + lb : Nat) : Int) → (∀ x, x < 120 * k → τ 6 x = σ 6 x) → (∀ j, j < i → τ 6 (120 * k + j) = (tbo (tbl ps) a ++ tbo (tbl ps) b).getD j 0) → V (55, [(0, .inl 0), (1, .inr a), (2, .inr b), (3, .inr c), (4, .inr (k : Int)), (5, .inr (la : Int)), (6, .inr (i : Int))], [], τ) := by
    intro d
    induction d with
    | zero =>
      intro i τ hi hrt e0 hx e2 e3 e4 e5 h6 hw
      have e5k : τ 5 k = ((la + lb : Nat) : Int) := by rw [e5, va_up_self]
      have e7 : τ 7 = σ 7 := hx 7 (by decide)
      refine M.1 [141] 80 _ ?_
      refine ⟨⟨by omega, by omega⟩, ?_⟩
      rw [Int.toNat_natCast, e5k]
      refine ⟨⟨by unfold inR; omega, by unfold inR; omega⟩, fun c1 => ?_, fun c1 => absurd c1 (by omega)⟩
      refine ⟨⟨by omega, by omega⟩, ⟨by omega, by omega⟩, ?_⟩
      rw [Int.toNat_natCast, e5k, show (256 + (k : Int)).toNat = 256 + k by omega]
      have e03 : stu τ 7 (256 + k) ((la + lb : Nat) : Int) 0 3 = (k : Int) := by rw [stu_j _ _ _ (by decide), e0, h03]
      refine ret rfl ⟨rng_stu (rng_stu hrt (by unfold inR; omega) _ _) (by rw [e03]; unfold inR; omega) _ _, by simp [stu, va_up, e0], by simp [stu, va_up, e0], by simp [stu, va_up, e0], eqx_stu (eqx_stu (eqx_mono hx (by decide)) (by decide) _ _) (by decide) _ _, ?_, ?_⟩
      · refine ⟨by rw [stu_s, e03]; simp [hk], by simp; omega, ?_, ?_⟩
        · intro t q hq
          have g2 : stu (stu τ 7 (256 + k) ((la + lb : Nat) : Int)) 0 3 (stu τ 7 (256 + k) ((la + lb : Nat) : Int) 0 3 + 1) 2 = va_up (σ 2) k a := by rw [stu_j _ _ _ (by decide), stu_j _ _ _ (by decide), e2]
          have g3 : stu (stu τ 7 (256 + k) ((la + lb : Nat) : Int)) 0 3 (stu τ 7 (256 + k) ((la + lb : Nat) : Int) 0 3 + 1) 3 = va_up (σ 3) k b := by rw [stu_j _ _ _ (by decide), stu_j _ _ _ (by decide), e3]
          have g4 : stu (stu τ 7 (256 + k) ((la + lb : Nat) : Int)) 0 3 (stu τ 7 (256 + k) ((la + lb : Nat) : Int) 0 3 + 1) 4 = va_up (σ 4) k c := by rw [stu_j _ _ _ (by decide), stu_j _ _ _ (by decide), e4]
          rw [g2, g3, g4]
          rw [List.getElem?_append] at hq
          split at hq
          · rename_i htl
            have := hv.2.2.1 t q hq
            rw [va_up_ne _ _ (by omega), va_up_ne _ _ (by omega), va_up_ne _ _ (by omega)]
            exact this
          · rename_i htl
            have e : t = ps.length := by
              rcases Nat.lt_or_ge (t - ps.length) 1 with h | h
              · omega
              · rw [List.getElem?_eq_none (by simp; omega)] at hq
                cases hq
            rw [e] at hq ⊢
            simp at hq
            subst hq
            rw [hk, va_up_self, va_up_self, va_up_self]
            exact ⟨rfl, rfl, rfl⟩
        · intro j hj
          rw [List.length_append, List.length_singleton] at hj
          rw [stu_j _ _ _ (by decide), stu_j _ _ _ (by decide), stu_j _ _ _ (by decide), stu_j _ _ _ (by decide), e5, tbl_snoc]
          unfold tl
          rcases Nat.lt_or_ge j (tbl ps).length with hc2 | hc2
          · rw [tl_app hc2, va_up_ne _ _ (by omega)]
            have b := h120 j (by omega)
            refine ⟨(hv.2.2.2 j (by omega)).1, fun i hi => ?_⟩
            have hi : i < tl (tbl ps) j := hi
            rw [h6 _ (by omega)]
            exact (hv.2.2.2 j (by omega)).2 i hi
          · have e : j = (tbl ps).length := by omega
            rw [e, tl_new]
            rw [hlen, va_up_self]
            refine ⟨by rw [List.length_append, ← hla, ← hlb], fun i hi => hw i ?_⟩
            rw [List.length_append, ← hla, ← hlb] at hi
            omega
      · rw [stu_j _ _ _ (by decide), ← e7]
        simp [stu, va_up]
    | succ d ih =>
      intro i τ hi hrt e0 hx e2 e3 e4 e5 h6 hw
      have e5k : τ 5 k = ((la + lb : Nat) : Int) := by rw [e5, va_up_self]
      have hvt : vocM τ ps := vocM_y hv (by rw [hk]; exact h120) (by rw [e0]) (fun j hj => by rw [e2, e3, e4, e5, va_up_ne _ _ (by omega), va_up_ne _ _ (by omega), va_up_ne _ _ (by omega), va_up_ne _ _ (by omega)]; exact ⟨rfl, rfl, rfl, rfl⟩) (by rw [hk]; exact h6)
      have next : ∀ x : Int, inR x → x = (tbo (tbl ps) a ++ tbo (tbl ps) b).getD i 0 → V (106, [(0, .inl 0), (1, .inr a), (2, .inr b), (3, .inr c), (4, .inr (k : Int)), (5, .inr (la : Int)), (6, .inr (i : Int))], [.inr x, .inr (120 * (k : Int) + (i : Int)), .inl 6], τ) := by
        intro x hxr hxe
        refine M.1 [55] 80 _ ?_
        refine ⟨⟨by omega, by omega⟩, ?_⟩
        rw [show (120 * (k : Int) + (i : Int)).toNat = 120 * k + i by omega]
        refine ih (i + 1) _ (by omega) (rng_stu hrt hxr _ _) (by rw [stu_j _ _ _ (by decide), e0]) (eqx_stu hx (by decide) _ _) (by rw [stu_j _ _ _ (by decide), e2]) (by rw [stu_j _ _ _ (by decide), e3]) (by rw [stu_j _ _ _ (by decide), e4]) (by rw [stu_j _ _ _ (by decide), e5]) (fun y hy => ?_) (fun j hj => ?_)
        · rw [stu_i _ _ _ (by omega)]
          exact h6 y hy
        · by_cases e : j = i
          · rw [e, stu_s]
            exact hxe
          · rw [stu_i _ _ _ (by omega)]
            exact hw j (by omega)
      refine M.1 [90, 103] 80 _ ?_
      refine ⟨⟨by omega, by omega⟩, ?_⟩
      rw [Int.toNat_natCast, e5k]
      refine ⟨⟨by unfold inR; omega, by unfold inR; omega⟩, fun c1 => absurd c1 (by omega), fun c1 => ?_⟩
      refine ⟨⟨by unfold inR; omega, by unfold inR; omega⟩, fun c2 => ?_, fun c2 => ?_⟩
      · have ei : (i : Int) - (la : Int) = ((i - la : Nat) : Int) := by omega
        refine M.2.1 (vs := [.inr b, .inr ((i : Int) - (la : Int))]) (rest := [.inr (120 * (k : Int) + (i : Int)), .inl 6]) rfl oX6_keep_X6_byteOf rfl rfl (Nat.le_of_ble_eq_true rfl) rfl (by rw [ei]; exact c_X6_byteOf (i := i - la) hrt hvt (by rw [hk]; exact h120) (by rw [hk]; exact hb) (by omega)) (fun r τ2 hin hp2 => ?_)
        obtain ⟨rfl, rfl⟩ := hp2
        exact next _ hin (by rw [getD_app, ← hla, if_neg (by omega)])
      · refine M.2.1 (vs := [.inr a, .inr (i : Int)]) (rest := [.inr (120 * (k : Int) + (i : Int)), .inl 6]) rfl oX6_keep_X6_byteOf rfl rfl (Nat.le_of_ble_eq_true rfl) rfl (c_X6_byteOf (i := i) hrt hvt (by rw [hk]; exact h120) (by rw [hk]; exact ha) (by omega)) (fun r τ2 hin hp2 => ?_)
        obtain ⟨rfl, rfl⟩ := hp2
        refine M.1 [106] 80 _ ?_
        exact next _ hin (by rw [getD_app, ← hla, if_pos (by omega)])
  refine M.1 [32] 80 _ ?_
  refine ⟨⟨by rw [h03]; omega, by rw [h03]; omega⟩, ⟨by rw [h03]; omega, by rw [h03]; omega⟩, ⟨by rw [h03]; omega, by rw [h03]; omega⟩, ?_⟩
  rw [h03, Int.toNat_natCast]
  obtain ⟨σ3, hs3⟩ : ∃ z, z = stu (stu (stu σ 2 k a) 3 k b) 4 k c := ⟨_, rfl⟩
  rw [← hs3]
  have r3 : rng σ3 := by rw [hs3]; exact rng_stu (rng_stu (rng_stu hr (by unfold inR; omega) _ _) (by unfold inR; omega) _ _) hc _ _
  have q0 : σ3 0 = σ 0 := by rw [hs3]; simp [stu, va_up]
  have q2 : σ3 2 = va_up (σ 2) k a := by rw [hs3]; simp [stu, va_up]
  have q3 : σ3 3 = va_up (σ 3) k b := by rw [hs3]; simp [stu, va_up]
  have q4 : σ3 4 = va_up (σ 4) k c := by rw [hs3]; simp [stu, va_up]
  have q5 : σ3 5 = σ 5 := by rw [hs3]; simp [stu, va_up]
  have q6 : σ3 6 = σ 6 := by rw [hs3]; simp [stu, va_up]
  have qx : eqx [2, 3, 4, 5, 6] σ σ3 := by rw [hs3]; exact eqx_stu (eqx_stu (eqx_stu eqx_rfl (by decide) _ _) (by decide) _ _) (by decide) _ _
  have hv3 : vocM σ3 ps := vocM_y hv (by rw [hk]; exact h120) (by rw [q0]) (fun j hj => by rw [q2, q3, q4, q5, va_up_ne _ _ (by omega), va_up_ne _ _ (by omega), va_up_ne _ _ (by omega)]; exact ⟨rfl, rfl, rfl, rfl⟩) (fun x _ => by rw [q6])
  refine M.2.1 (vs := [.inr a]) (rest := []) rfl oX6_keep_X6_sizeOf rfl rfl (Nat.le_of_ble_eq_true rfl) rfl (c_X6_sizeOf r3 hv3 (by rw [hk]; exact ha)) (fun r τ _ hp2 => ?_)
  obtain ⟨rfl, rfl⟩ := hp2
  rw [← hla]
  refine M.1 [47] 80 _ ?_
  refine M.2.1 (vs := [.inr b]) (rest := [.inr (la : Int), .inr (k : Int), .inl 5]) rfl oX6_keep_X6_sizeOf rfl rfl (Nat.le_of_ble_eq_true rfl) rfl (c_X6_sizeOf r3 hv3 (by rw [hk]; exact hb)) (fun r τ _ hp2 => ?_)
  obtain ⟨rfl, rfl⟩ := hp2
  rw [← hlb]
  refine M.1 [55] 80 _ ?_
  refine ⟨⟨by omega, by omega⟩, ?_⟩
  rw [Int.toNat_natCast]
  refine loop (la + lb) 0 _ (by omega) (rng_stu r3 (by unfold inR; omega) _ _) (by rw [stu_j _ _ _ (by decide), q0]) (eqx_stu qx (by decide) _ _) (by rw [stu_j _ _ _ (by decide), q2]) (by rw [stu_j _ _ _ (by decide), q3]) (by rw [stu_j _ _ _ (by decide), q4]) ?_ (fun x hx => by rw [stu_j _ _ _ (by decide), q6]) (fun j hj => absurd hj (by omega))
  rw [← q5]
  simp [stu, va_up]
end M4
end
section
theorem hold_len {f g : Nat → Int} {R : Rw} {i : Nat} (h : hold f g 0 R) (hi : i < R.length) : ∃ q s, R = R.take i ++ q :: s ∧ f i = q.1 ∧ g i = q.2 ∧ hold f g (i + 1) s ∧ i + 1 + s.length = R.length := by
  have e : R = R.take i ++ R[i] :: R.drop (i + 1) := by
    rw [List.getElem_cons_drop, List.take_append_drop]
  have hl : (R.take i).length = i := by rw [List.length_take]; omega
  have h2 := h
  rw [e, hold_app, hl, Nat.zero_add] at h2
  exact ⟨R[i], R.drop (i + 1), e, h2.2.1, h2.2.2.1, h2.2.2.2, by rw [List.length_drop]; omega⟩
section M5
variable {l : Launch} {D : va_G} {cA : Nat → ClassId} {ad : Nat → Nat} {σ : St} {T : List Int} {ps : PSt} {P : Int → Int} {R : Rw}
def tk288 (R : Rw) : Prop := ∀ q ∈ R, 0 ≤ q.1 ∧ q.1 < 288
theorem c_X6_countOf {a b : Int} (hr : rng σ) (ht : textM σ T) (hR : rowM σ R) (hpl : plIn T R) (h288 : tk288 R) (ha : 0 ≤ a ∧ a < 288) (hb : 0 ≤ b ∧ b < 288) : Ci l yX6_countOf wsX6_countOf (rh 2) D cA ad LM [.inl 0, .inr a, .inr b] σ (fun r τ => τ = σ ∧ r = cnt (a * 512 + b) (prs (wT T) R)) := by
  obtain ⟨hN, hN2, hh⟩ := hR
  refine Ci.walk fX6_countOf pX6_countOf [] (by decide) rfl LM_ok tX6_countOf_ok fX6_countOf_ok pX6_countOf_ok klOk_0 (Nat.le_of_ble_eq_true rfl) (fun V M ret => ?_)
  have hcb := cnt_le (a * 512 + b) (prs (wT T) R)
  have hpb := prs_len (wT T) R
  have loop : ∀ (s : Rw) (i : Nat) (x : Int), i + s.length = R.length → hold (σ 8) (σ 9) i s → (∀ q ∈ s, 0 ≤ q.2 ∧ q.2 < T.length) → tk288 s → 0 ≤ x → x + cnt (a * 512 + b) (prs (wT T) s) = cnt (a * 512 + b) (prs (wT T) R) → V (5, [(0, .inl 0), (1, .inr a), (2, .inr b), (3, .inr x), (4, .inr (i : Int))], [], σ) := by
    intro s
    induction s with
    | nil =>
      intro i x hi hhs hps h8 hx0 hm
      simp at hi
      refine M.1 [40] 60 _ ?_
      refine ⟨⟨by unfold inR; omega, hr _ _⟩, fun c1 => ?_, fun c1 => absurd c1 (by omega)⟩
      simp only [prs, cnt, Int.add_zero] at hm
      exact ret rfl (by unfold inR; omega) ⟨rfl, hm⟩
    | cons q s ih =>
      intro i x hi hhs hps h8 hx0 hm
      simp only [List.length_cons] at hi
      obtain ⟨hq1, hq2, hhs'⟩ := hhs
      have hp9 : (i : Int) + 1 < σ 0 10 → 0 ≤ σ 9 (i + 1) ∧ σ 9 (i + 1) < T.length := by
        intro h
        rw [hN] at h
        cases s with
        | nil => simp at hi; omega
        | cons q2 s2 =>
          rw [hhs'.2.1]
          exact hps q2 (List.mem_cons_of_mem _ List.mem_cons_self)
      refine M.1 [20] 60 _ ?_
      refine ⟨⟨by unfold inR; omega, hr _ _⟩, fun c1 => absurd c1 (by omega), fun c1 => ?_⟩
      refine M.2.1 (vs := [.inr (i : Int), .inr a, .inr b]) (rest := [.inr x]) rfl oX6_countOf_X6_isPair rfl rfl (Nat.le_of_ble_eq_true rfl) rfl (c_X6_isPair hr ht (by omega) (by omega) hp9 (by unfold inR; omega) (by unfold inR; omega)) (fun r υ _ hp => ?_)
      obtain ⟨rfl, rfl⟩ := hp
      rw [hN, hq1]
      have hs' := ih (i + 1)
      refine M.1 [5] 60 _ ?_
      refine ⟨b01_r _, fun c2 => ?_, fun c2 => ?_⟩
      · have c2 := b01_0.mp c2
        refine hs' (x + 0) (by omega) hhs' (fun z hz => hps z (List.mem_cons_of_mem _ hz)) (fun z hz => h8 z (List.mem_cons_of_mem _ hz)) (by omega) ?_
        rw [← hm]
        cases s with
        | nil => simp [prs]
        | cons q2 s2 =>
          simp only [List.length_cons] at hi
          have g1 := h8 q List.mem_cons_self
          have g2 := h8 q2 (List.mem_cons_of_mem _ List.mem_cons_self)
          rw [hhs'.1, hhs'.2.1] at c2
          rw [prs]
          split
          · rename_i hw
            rw [cnt, if_neg (fun e => c2 ⟨by omega, by omega, by omega, hw⟩)]
            omega
          · omega
      · have c2 := Classical.not_not.mp (fun h => c2 (b01_f h))
        refine hs' (x + 1) (by omega) hhs' (fun z hz => hps z (List.mem_cons_of_mem _ hz)) (fun z hz => h8 z (List.mem_cons_of_mem _ hz)) (by omega) ?_
        rw [← hm]
        cases s with
        | nil => simp at hi; omega
        | cons q2 s2 =>
          rw [hhs'.1, hhs'.2.1] at c2
          rw [prs, if_pos c2.2.2.2, cnt, if_pos (by rw [c2.2.1, c2.2.2.1])]
          omega
  refine M.1 [5] 60 _ ?_
  exact loop R 0 0 (by simp) hh hpl h288 (by omega) (by omega)
/-- the best of the pairs o, of all pairs pp -/
def bInv (σ : St) (pp o : List (Int × Int)) (N : Nat) (b m : Int) : Prop := (b = -1 ∧ m = 1 ∧ ∀ z ∈ o, cnt z.1 pp ≤ 1) ∨ ∃ j : Nat, b = (j : Int) ∧ j + 1 < N ∧ m = cnt (σ 8 j * 512 + σ 8 (j + 1)) pp ∧ 2 ≤ m ∧ ∀ z ∈ o, cnt z.1 pp ≤ m ∧ (cnt z.1 pp = m → σ 8 j * 512 + σ 8 (j + 1) ≤ z.1)
theorem bInv_add {pp o : List (Int × Int)} {N : Nat} {b m : Int} {i : Nat} {p : Int} (h : bInv σ pp o N b m) (hi : i + 1 < N) (h1 : 1 ≤ cnt (σ 8 i * 512 + σ 8 (i + 1)) pp)
    (take : Bool) (ht : take = true ↔ (m < cnt (σ 8 i * 512 + σ 8 (i + 1)) pp ∨ (cnt (σ 8 i * 512 + σ 8 (i + 1)) pp = m ∧ ∃ j : Nat, b = (j : Int) ∧ σ 8 i * 512 + σ 8 (i + 1) < σ 8 j * 512 + σ 8 (j + 1)))) : bInv σ pp (o ++ [(σ 8 i * 512 + σ 8 (i + 1), p)]) N (if take then (i : Int) else b) (if take then cnt (σ 8 i * 512 + σ 8 (i + 1)) pp else m) := by
  generalize hκ : σ 8 i * 512 + σ 8 (i + 1) = κ at *
  cases take with
  | true =>
    have ht := ht.mp rfl
    simp only [if_true]
    refine Or.inr ⟨i, rfl, hi, by rw [hκ], ?_, fun z hz => ?_⟩
    · rcases h with ⟨hb, hm, -⟩ | ⟨j, -, -, -, hm, -⟩
      · rcases ht with ht | ⟨-, j, hj, -⟩
        · omega
        · omega
      · rcases ht with ht | ⟨ht, -⟩ <;> omega
    · rw [hκ]
      rcases List.mem_append.mp hz with hz | hz
      · rcases h with ⟨hb, hm, ho⟩ | ⟨j, hb, hj, hmj, hm, ho⟩
        · have := ho z hz
          rcases ht with ht | ⟨-, j, hj, -⟩
          · exact ⟨by omega, fun e => by omega⟩
          · omega
        · have hz2 := ho z hz
          rcases ht with ht | ⟨he, j', hj', hlt⟩
          · exact ⟨by omega, fun e => by omega⟩
          · have : j' = j := by omega
            subst this
            refine ⟨by omega, fun e => ?_⟩
            have := hz2.2 (by omega)
            omega
      · rw [List.mem_singleton] at hz
        subst hz
        exact ⟨Int.le_refl _, fun _ => Int.le_refl _⟩
  | false =>
    have ht : ¬ _ := fun q => Bool.false_ne_true (ht.mpr q)
    simp only [Bool.false_eq_true, if_false]
    rcases h with ⟨hb, hm, ho⟩ | ⟨j, hb, hj, hmj, hm, ho⟩
    · refine Or.inl ⟨hb, hm, fun z hz => ?_⟩
      rcases List.mem_append.mp hz with hz | hz
      · exact ho z hz
      · rw [List.mem_singleton] at hz
        subst hz
        show cnt κ pp ≤ 1
        rcases Int.lt_or_le 1 (cnt κ pp) with q | q
        · exact absurd (Or.inl (by omega)) ht
        · exact q
    · refine Or.inr ⟨j, hb, hj, hmj, hm, fun z hz => ?_⟩
      rcases List.mem_append.mp hz with hz | hz
      · exact ho z hz
      · rw [List.mem_singleton] at hz
        subst hz
        show cnt κ pp ≤ m ∧ (cnt κ pp = m → σ 8 j * 512 + σ 8 (j + 1) ≤ κ)
        refine ⟨?_, fun e => ?_⟩
        · rcases Int.lt_or_le m (cnt κ pp) with q | q
          · exact absurd (Or.inl q) ht
          · exact q
        · rcases Int.lt_or_le κ (σ 8 j * 512 + σ 8 (j + 1)) with q | q
          · exact absurd (Or.inr ⟨e, j, hb, q⟩) ht
          · exact q
theorem bInv_n {pp : List (Int × Int)} {N : Nat} {b m : Int} (h : bInv σ pp pp N b m) (hb : b < 0) : bestK pp = none := by
  rcases h with ⟨-, -, ho⟩ | ⟨j, hj, -⟩
  · refine bestK_n (fun κ hk => ?_)
    obtain ⟨z, hz, e⟩ := cnt_mem (κ := κ) (pp := pp) (by have := hk.1; omega)
    have := ho z hz
    have := hk.1
    rw [e] at *
    omega
  · omega
theorem bInv_y {pp : List (Int × Int)} {N : Nat} {b m : Int} (h : bInv σ pp pp N b m) (hb : ¬ b < 0) : ∃ j : Nat, b = (j : Int) ∧ j + 1 < N ∧ BK pp (σ 8 j * 512 + σ 8 (j + 1)) ∧ m = cnt (σ 8 j * 512 + σ 8 (j + 1)) pp := by
  rcases h with ⟨hb', -⟩ | ⟨j, hb', hj, hm, h2, ho⟩
  · omega
  · refine ⟨j, hb', hj, ⟨by omega, fun z hz => ?_⟩, hm⟩
    have := ho z hz
    rw [← hm]
    exact this
end M5
end
section
def LMt (σ : St) (T : List Int) (ps : PSt) (R : Rw) (P : Int → Int) : Prop := rng σ ∧ textM σ T ∧ vocM σ ps ∧ rowM σ R ∧ (∀ t : Nat, t < 256 → σ 7 t = P (t : Int)) ∧ ∀ j, j < ps.length → σ 7 (256 + j) = tl (tbl ps) j
section M6
variable {l : Launch} {D : va_G} {cA : Nat → ClassId} {ad : Nat → Nat} {σ : St} {T : List Int} {ps : PSt} {P : Int → Int} {R : Rw}
theorem c_X6_learn {n : Int} (h : RM σ T ps P) (hn : inR n) : Ci l yX6_learn wsX6_learn (rh 3) D cA ad LM [.inl 0, .inr n] σ (fun r τ => r = aLrn T n ∧ RM τ T (sLrn T ps n) (pLrn T P n)) := by
  have hx : txOk T := ⟨h.2.1.2.1, fun i hi => (h.2.1.2.2 i hi).2⟩
  refine Ci.walk fX6_learn pX6_learn [] (by decide) rfl LM_ok tX6_learn_ok fX6_learn_ok pX6_learn_ok klOk_0 (Nat.le_of_ble_eq_true rfl) (fun V M ret => ?_)
  suffices start : ∀ σ : St, RM σ T ps P → V (5, lnum 0 [.inl 0, .inr n], [], σ) by
    refine M.1 [5] 60 _ ?_
    exact start _ (RM_c h inR_0)
  clear h
  intro σ h
  have h' := h
  obtain ⟨hr, ht, hv, hp⟩ := h
  refine M.1 [9] 60 _ ?_
  refine M.2.2.2.1 (vs := [.inr n, .inr 0, .inr 32]) (rest := []) rfl oX6_learn_X6_in (Nat.le_of_ble_eq_true rfl) rfl (c_X6_in hn inR_0 (by constructor <;> decide)) (fun r τ _ hp2 => ?_)
  obtain ⟨rfl, rfl⟩ := hp2
  by_cases hnn : 0 ≤ n ∧ n ≤ 32
  rotate_left
  · rw [b01_f hnn]
    refine M.1 [17] 60 _ ?_
    refine ⟨inR_0, fun c => absurd rfl c, fun _ => ?_⟩
    refine ret rfl (by constructor <;> decide) ⟨by unfold aLrn; rw [if_neg hnn], ?_⟩
    unfold sLrn pLrn
    rw [if_neg hnn, if_neg hnn]
    exact h'
  rw [b01_t hnn]
  have done : ∀ (τ : St) (R : Rw), LMt τ T (psL T n) R P → V (266, [(0, .inl 0)], [], τ) := by
    intro τ R hL
    obtain ⟨a1, a2, a3, a4, a6, a7⟩ := hL
    refine M.1 [270] 60 _ ?_
    refine ret rfl (a1 _ _) ⟨by unfold aLrn; rw [if_pos hnn]; exact a3.1, ?_⟩
    unfold sLrn pLrn
    rw [if_pos hnn, if_pos hnn]
    refine ⟨a1, a2, a3, fun t htt => ?_⟩
    unfold pNew
    by_cases c : t < 256
    · rw [if_pos (by omega)]
      exact a6 t c
    · rw [if_neg (by omega), show ((t : Int) - 256).toNat = t - 256 by omega]
      have := a7 (t - 256) (by omega)
      rwa [show 256 + (t - 256) = t by omega] at this
  have outer : ∀ (d : Nat) (ps' : PSt) (R : Rw) (τ : St), (ps'.length : Int) + d = n → LMt τ T ps' R P → plIn T R → vOk ps' → seg (FT T) (wT T) (tbl ps') 0 R T.length → lrn (wT T) d ps' R = psL T n → V (29, [(0, .inl 0), (1, .inr n), (2, .inr 1)], [], τ) := by
    intro d
    induction d with
    | zero =>
      intro ps' R τ hd hL hpl hvo hs hm
      have h3 := hL.2.2.1.1
      refine M.1 [266] 60 _ ?_
      refine ⟨by constructor <;> decide, fun c => absurd c (by decide), fun _ => ?_⟩
      refine ⟨⟨hL.1 _ _, hn⟩, fun c => ?_, fun c => absurd c (by omega)⟩
      refine M.2.2.2.2.2.1 _ (lpick_mem [0]) ?_
      have hm : ps' = psL T n := hm
      rw [hm] at hL
      exact done τ R hL
    | succ d ih =>
      intro ps' R τ hd hL hpl hvo hs hm
      have hL' := hL
      obtain ⟨hrt, htt, hvt, hR, hp1, hp2⟩ := hL
      have h3 := hvt.1
      have hR' := hR
      obtain ⟨hN, hN2, hh⟩ := hR
      have htok := seg_tok hs
      rw [tbl_len] at htok
      have h288 : tk288 R := fun q hq => by have := htok q hq; omega
      generalize hpp : prs (wT T) R = pp at *
      have hppl : pp.length ≤ 120 := by rw [← hpp]; exact Nat.le_trans (prs_len _ _) hN2
      have tok8 : ∀ i, i < R.length → 0 ≤ τ 8 i ∧ τ 8 i < 288 := by
        intro i hi
        have e := rowM_at hR' hi
        rw [e.1]
        refine h288 _ ?_
        rw [List.getD_eq_getElem?_getD, List.getElem?_eq_getElem hi]
        exact List.getElem_mem hi
      have brng : ∀ (o : List (Int × Int)) (b m : Int), bInv τ pp o R.length b m → -1 ≤ b ∧ b ≤ 120 ∧ 1 ≤ m ∧ m ≤ 120 := by
        intro o b m hb
        rcases hb with ⟨h1, h2, -⟩ | ⟨j, h1, h2, h3, h4, -⟩
        · omega
        · have := cnt_le (τ 8 j * 512 + τ 8 (j + 1)) pp
          omega
      -- behind the search
      have after : ∀ (b m : Int), bInv τ pp pp R.length b m → V (205, [(0, .inl 0), (1, .inr n), (3, .inr b), (4, .inr m)], [], τ) := by
        intro b m hb
        have hbr := brng pp b m hb
        refine M.1 [29, 244] 80 _ ?_
        refine ⟨by unfold inR; omega, fun c1 => ?_, fun c1 => ?_⟩
        · refine ⟨inR_0, fun _ => ?_, fun c => absurd rfl c⟩
          have hbn := bInv_n hb c1
          rw [← hpp] at hbn
          rw [lrn_n hbn] at hm
          rw [hm] at hL'
          refine M.1 [266] 60 _ ?_
          refine ⟨inR_0, fun _ => ?_, fun c => absurd rfl c⟩
          refine M.2.2.2.2.2.1 _ (lpick_mem [0]) ?_
          exact done τ R hL'
        · refine ⟨by constructor <;> decide, fun c => absurd c (by decide), fun _ => ?_⟩
          obtain ⟨j, rfl, hj, hBK, hmj⟩ := bInv_y hb c1
          have g1 := tok8 j (by omega)
          have g2 := tok8 (j + 1) hj
          refine ⟨⟨by omega, by omega⟩, ⟨by omega, by omega⟩, ?_⟩
          rw [Int.toNat_natCast, show ((j : Int) + 1).toNat = j + 1 by omega]
          obtain ⟨z, hz, ez⟩ := cnt_mem (κ := τ 8 j * 512 + τ 8 (j + 1)) (pp := pp) (by have := hBK.1; omega)
          rw [← hpp] at hz
          obtain ⟨b1, b2, -, p, -, hpl2, -, -⟩ := seg_pair hs (by omega) hz
          rw [ez] at b1 b2 hpl2
          have ea : (τ 8 j * 512 + τ 8 (j + 1)) / 512 = τ 8 j := by omega
          have eb : (τ 8 j * 512 + τ 8 (j + 1)) % 512 = τ 8 (j + 1) := by omega
          rw [ea] at b1 hpl2
          rw [eb] at b2 hpl2
          have hT120 := hx.1
          refine M.2.2.1 (vs := [.inr (τ 8 j), .inr (τ 8 (j + 1)), .inr m]) (rest := []) rfl oX6_learn_X6_keep rfl rfl (Nat.le_of_ble_eq_true rfl) rfl (c_X6_keep rfl hrt hvt hvo.2.2.1 (by omega) b1 b2 (by unfold inR; omega) (by omega)) (fun τ2 hp3 => ?_)
          obtain ⟨r2, f00, f01, f10, x2, v2, f7⟩ := hp3
          have t2 : textM τ2 T := textM_x htt f01 (x2 1 (by decide))
          have R2 : rowM τ2 R := by
            unfold rowM
            rw [f10, x2 8 (by decide), x2 9 (by decide)]
            exact hR'
          have f3 := v2.1
          simp only [List.length_append, List.length_singleton] at f3
          refine M.1 [260] 80 _ ?_
          refine M.2.2.1 (vs := [.inr (τ 8 j), .inr (τ 8 (j + 1)), .inr (255 + τ2 0 3)]) (rest := []) rfl oX6_learn_X6_join rfl rfl (Nat.le_of_ble_eq_true rfl) rfl (c_X6_join r2 t2 R2 hpl (by unfold inR; omega) (by unfold inR; omega) (by unfold inR; omega)) (fun τ3 hp4 => ?_)
          obtain ⟨r3, o3, -, x3, R3⟩ := hp4
          have hby := bestK_y hBK
          rw [← hpp] at hby hBK
          rw [lrn_y hby, ea, eb, hpp, ← hmj] at hm
          obtain ⟨q1, q2⟩ := vOk_step hx.1 hN2 hs (by omega) hvo hBK
          rw [ea, eb, hpp, ← hmj] at q1 q2
          rw [show 255 + τ2 0 3 = 256 + (ps'.length : Int) by omega] at R3
          refine M.1 [29] 80 _ ?_
          refine M.2.2.2.2.2.1 _ (lpick_mem [0, 1, 2]) ?_
          refine ih _ _ τ3 (by simp only [List.length_append, List.length_singleton]; omega) ⟨r3, textM_x t2 o3.1 (x3 1 (by decide)), vocM_x v2 o3.2 (x3 2 (by decide)) (x3 3 (by decide)) (x3 4 (by decide)) (x3 5 (by decide)) (x3 6 (by decide)), R3, ?_, ?_⟩ (mrg_pl (Q := fun x => 0 ≤ x ∧ x < (T.length : Int)) _ _ _ _ R.length R (Nat.le_refl _) hpl) q1 q2 hm
          · intro t ht8
            rw [x3 7 (by decide), f7, va_up_ne _ _ (by omega)]
            exact hp1 t ht8
          · intro i hi
            simp only [List.length_append, List.length_singleton] at hi
            rw [x3 7 (by decide), f7, tbl_snoc]
            unfold tl
            have hlen := tbl_len ps'
            rcases Nat.lt_or_ge i ps'.length with hc | hc
            · rw [tl_app (by omega), va_up_ne _ _ (by omega)]
              exact hp2 i hc
            · have e : i = (tbl ps').length := by omega
              rw [e, tl_new, hlen, va_up_self, List.length_append]
      have inner : ∀ (s : Rw) (i : Nat) (b m : Int) (o : List (Int × Int)), i + s.length = R.length → hold (τ 8) (τ 9) i s → (∀ q ∈ s, 0 ≤ q.2 ∧ q.2 < T.length) → o ++ prs (wT T) s = pp → bInv τ pp o R.length b m → V (49, [(0, .inl 0), (1, .inr n), (3, .inr b), (4, .inr m), (5, .inr (i : Int))], [], τ) := by
        intro s
        induction s with
        | nil =>
          intro i b m o hi hhs hps ho hb
          simp at hi
          simp only [prs, List.append_nil] at ho
          subst ho
          refine M.1 [205] 60 _ ?_
          refine ⟨⟨by unfold inR; omega, hrt _ _⟩, fun c => ?_, fun c => absurd c (by omega)⟩
          refine M.2.2.2.2.2.1 _ (lpick_mem [0, 1, 3, 4]) ?_
          exact after b m hb
        | cons q s ihs =>
          intro i b m o hi hhs hps ho hb
          simp only [List.length_cons] at hi
          obtain ⟨hq1, hq2, hhs'⟩ := hhs
          have hbr := brng o b m hb
          cases s with
          | nil =>
            simp at hi
            simp only [prs, List.append_nil] at ho
            subst ho
            refine M.1 [205] 60 _ ?_
            refine ⟨⟨by unfold inR; omega, hrt _ _⟩, fun c => ?_, fun c => absurd c (by omega)⟩
            refine M.2.2.2.2.2.1 _ (lpick_mem [0, 1, 3, 4]) ?_
            exact after b m hb
          | cons q2 s2 =>
            simp only [List.length_cons] at hi
            obtain ⟨hz1, hz2, hz3⟩ := hhs'
            have g1 := tok8 i (by omega)
            have g2 := tok8 (i + 1) (by omega)
            have hps' : ∀ z ∈ q2 :: s2, 0 ≤ z.2 ∧ z.2 < T.length := fun z hz => hps z (List.mem_cons_of_mem _ hz)
            have e1 : ((i : Int) + 1).toNat = i + 1 := by omega
            have skip : ∀ (b m : Int) (o : List (Int × Int)) (lv : List (Nat × aV)), o ++ prs (wT T) (q2 :: s2) = pp → bInv τ pp o R.length b m → V (199, [(0, .inl 0), (1, .inr n), (3, .inr b), (4, .inr m), (5, .inr (i : Int))], [], τ) := by
              intro b m o lv ho hb
              refine M.1 [49] 60 _ ?_
              exact ihs (i + 1) b m o (by simp only [List.length_cons]; omega) ⟨hz1, hz2, hz3⟩ hps' ho hb
            refine M.1 [79] 60 _ ?_
            refine ⟨⟨by unfold inR; omega, hrt _ _⟩, fun c => absurd c (by omega), fun c => ?_⟩
            refine ⟨⟨by omega, by omega⟩, ⟨by omega, by omega⟩, ?_⟩
            rw [Int.toNat_natCast, e1]
            refine M.2.1 (vs := [.inr (i : Int), .inr (τ 8 i), .inr (τ 8 (i + 1))]) (rest := []) rfl oX6_learn_X6_isPair rfl rfl (Nat.le_of_ble_eq_true rfl) rfl (c_X6_isPair hrt htt (by omega) (by omega) (fun _ => by rw [hz2]; exact hps' q2 List.mem_cons_self) (hrt _ _) (hrt _ _)) (fun r τ' _ hp3 => ?_)
            obtain ⟨rfl, rfl⟩ := hp3
            rw [hN, hz2]
            refine M.1 [105, 199] 60 _ ?_
            refine ⟨b01_r _, fun c2 => ?_, fun c2 => ?_⟩
            rotate_left
            · have c2 := b01_0.mp c2
              refine skip b m o [] ?_ hb
              rw [← ho, prs, if_neg (fun hw => c2 ⟨by omega, rfl, rfl, hw⟩)]
            have c2 := Classical.not_not.mp (fun h => c2 (b01_f h))
            have hw := c2.2.2.2
            refine ⟨⟨by omega, by omega⟩, ⟨by omega, by omega⟩, ?_⟩
            rw [Int.toNat_natCast, e1]
            refine M.2.1 (vs := [.inr (τ' 8 i), .inr (τ' 8 (i + 1))]) (rest := []) rfl oX6_learn_X6_countOf rfl rfl (Nat.le_of_ble_eq_true rfl) rfl (c_X6_countOf hrt htt hR' hpl h288 g1 g2) (fun r τ hin hp3 => ?_)
            obtain ⟨rfl, rfl⟩ := hp3
            rw [hpp] at hin ⊢
            obtain ⟨y, hy⟩ : ∃ x, x = cnt (τ 8 i * 512 + τ 8 (i + 1)) pp := ⟨_, rfl⟩
            rw [← hy] at hin ⊢
            have hyl := cnt_le (τ 8 i * 512 + τ 8 (i + 1)) pp
            have hyn := cnt_nn (τ 8 i * 512 + τ 8 (i + 1)) pp
            have hstep : prs (wT T) (q :: q2 :: s2) = (τ 8 i * 512 + τ 8 (i + 1), q.2) :: prs (wT T) (q2 :: s2) := by
              rw [prs, if_pos hw, hq1, hz1]
            have hy1 : 1 ≤ y := by
              have : cnt (τ 8 i * 512 + τ 8 (i + 1)) (o ++ prs (wT T) (q :: q2 :: s2)) = y := by rw [ho, hy]
              rw [cnt_app, hstep, cnt, if_pos rfl] at this
              have n1 := cnt_nn (τ 8 i * 512 + τ 8 (i + 1)) o
              have n2 := cnt_nn (τ 8 i * 512 + τ 8 (i + 1)) (prs (wT T) (q2 :: s2))
              omega
            have ho2 : (o ++ [(τ 8 i * 512 + τ 8 (i + 1), q.2)]) ++ prs (wT T) (q2 :: s2) = pp := by
              rw [← ho, hstep]
              simp
            -- both ends of the comparison
            have fin : ∀ tk : Bool, (tk = true ↔ (m < y ∨ (y = m ∧ ∃ j : Nat, b = (j : Int) ∧ τ 8 i * 512 + τ 8 (i + 1) < τ 8 j * 512 + τ 8 (j + 1)))) → V (199, [(0, .inl 0), (1, .inr n), (3, .inr (if tk then (i : Int) else b)), (4, .inr (if tk then y else m)), (5, .inr (i : Int))], [], τ) := by
              intro tk htk
              have := bInv_add (p := q.2) hb (show i + 1 < R.length by omega) (by omega) tk (by rw [← hy]; exact htk)
              rw [← hy] at this
              exact skip _ _ _ [] ho2 this
            have dec : ∀ ls : Int, (ls = 1 ∧ ∃ j : Nat, b = (j : Int) ∧ τ 8 i * 512 + τ 8 (i + 1) < τ 8 j * 512 + τ 8 (j + 1)) ∨ (ls = 0 ∧ ¬ ∃ j : Nat, b = (j : Int) ∧ τ 8 i * 512 + τ 8 (i + 1) < τ 8 j * 512 + τ 8 (j + 1)) → V (171, [(0, .inl 0), (1, .inr n), (3, .inr b), (4, .inr m), (5, .inr (i : Int)), (6, .inr y)], [.inr ls], τ) := by
              intro ls hls
              have yes : (m < y ∨ (y = m ∧ ∃ j : Nat, b = (j : Int) ∧ τ 8 i * 512 + τ 8 (i + 1) < τ 8 j * 512 + τ 8 (j + 1))) → V (192, [(0, .inl 0), (1, .inr n), (3, .inr b), (4, .inr m), (5, .inr (i : Int)), (6, .inr y)], [], τ) := by
                intro hyes
                have hf := fin true ⟨fun _ => hyes, fun _ => rfl⟩
                simp only [if_true] at hf
                refine M.1 [199] 60 _ ?_
                exact M.2.2.2.2.2.1 _ (lpick_mem [0, 1, 3, 4, 5]) hf
              have no : ¬ (m < y ∨ (y = m ∧ ∃ j : Nat, b = (j : Int) ∧ τ 8 i * 512 + τ 8 (i + 1) < τ 8 j * 512 + τ 8 (j + 1))) → V (199, [(0, .inl 0), (1, .inr n), (3, .inr b), (4, .inr m), (5, .inr (i : Int))], [], τ) := by
                intro hno
                have hf := fin false ⟨fun q => (Bool.false_ne_true q).elim, fun q => absurd q hno⟩
                simp only [Bool.false_eq_true, if_false] at hf
                exact hf
              refine M.1 [192, 199] 60 _ ?_
              refine ⟨⟨hin, by unfold inR; omega⟩, fun c5 => ?_, fun c5 => ?_⟩
              · exact M.2.2.2.2.2.1 _ (lpick_mem [0, 1, 3, 4, 5, 6]) (yes (Or.inl c5))
              · refine ⟨⟨hin, by unfold inR; omega⟩, fun c6 => ?_, fun c6 => ?_⟩
                · exact M.2.2.2.2.2.1 _ (lpick_mem [0, 1, 3, 4, 5]) (no (by omega))
                · rcases hls with ⟨rfl, hls⟩ | ⟨rfl, hls⟩
                  · refine ⟨by constructor <;> decide, fun c7 => absurd c7 (by decide), fun _ => ?_⟩
                    exact M.2.2.2.2.2.1 _ (lpick_mem [0, 1, 3, 4, 5, 6]) (yes (Or.inr ⟨c6, hls⟩))
                  · refine ⟨by constructor <;> decide, fun _ => ?_, fun c7 => absurd rfl c7⟩
                    refine M.2.2.2.2.2.1 _ (lpick_mem [0, 1, 3, 4, 5]) (no ?_)
                    rintro (q | q)
                    · omega
                    · exact hls q.2
            refine M.1 [171] 80 _ ?_
            refine ⟨by unfold inR; omega, fun c3 => ?_, fun c3 => ?_⟩
            · exact dec 0 (Or.inr ⟨rfl, fun ⟨j, hj, _⟩ => by omega⟩)
            · obtain ⟨j, hj⟩ : ∃ j : Nat, b = (j : Int) := ⟨b.toNat, by omega⟩
              have hjR : j + 1 < R.length := by
                rcases hb with ⟨h1, -⟩ | ⟨j', h1, h2, -⟩ <;> omega
              subst hj
              have k1 := tok8 j (by omega)
              have k2 := tok8 (j + 1) hjR
              have e2 : ((j : Int) + 1).toNat = j + 1 := by omega
              have less0 : ¬ τ 8 i * 512 + τ 8 (i + 1) < τ 8 j * 512 + τ 8 (j + 1) → ¬ ∃ j' : Nat, (j : Int) = (j' : Int) ∧ τ 8 i * 512 + τ 8 (i + 1) < τ 8 j' * 512 + τ 8 (j' + 1) := by
                rintro h ⟨j', e, h2⟩
                have : j' = j := by omega
                subst this
                exact h h2
              refine ⟨⟨by omega, by omega⟩, ⟨by omega, by omega⟩, ⟨hrt _ _, hrt _ _⟩, fun c4 => ?_, fun c4 => ?_⟩
              · simp only [Int.toNat_natCast] at c4
                exact dec 1 (Or.inl ⟨rfl, j, rfl, by omega⟩)
              · simp only [Int.toNat_natCast] at c4
                refine ⟨⟨by omega, by omega⟩, ⟨by omega, by omega⟩, ⟨hrt _ _, hrt _ _⟩, fun c5 => ?_, fun c5 => ?_⟩
                · simp only [Int.toNat_natCast] at c5
                  exact dec 0 (Or.inr ⟨rfl, less0 (by omega)⟩)
                · simp only [Int.toNat_natCast] at c5
                  refine ⟨⟨by omega, by omega⟩, ⟨by omega, by omega⟩, ⟨hrt _ _, hrt _ _⟩, fun c6 => ?_, fun c6 => ?_⟩
                  · rw [e1, e2] at c6
                    exact dec 0 (Or.inr ⟨rfl, less0 (by omega)⟩)
                  · rw [e1, e2] at c6
                    exact dec 1 (Or.inl ⟨rfl, j, rfl, by omega⟩)
      refine M.1 [49] 60 _ ?_
      refine ⟨by constructor <;> decide, fun c => absurd c (by decide), fun _ => ?_⟩
      refine ⟨⟨hrt _ _, hn⟩, fun c => absurd c (by omega), fun c => ?_⟩
      refine M.2.2.2.2.2.1 _ (lpick_mem [0, 1, 3, 4, 5]) ?_
      exact inner R 0 (-1) 1 [] (by simp) hh hpl (by rw [← hpp]; rfl) (Or.inl ⟨rfl, rfl, fun z hz => by simp at hz⟩)
  refine M.1 [24] 60 _ ?_
  refine ⟨by constructor <;> decide, fun _ => ?_, fun c => absurd c (by decide)⟩
  have ht0 : textM (stu τ 0 3 0) T := textM_x ht (by simp [stu, va_up]) (by simp [stu, va_up])
  refine M.2.2.1 (vs := []) (rest := []) rfl oX6_learn_X6_layBytes rfl rfl (Nat.le_of_ble_eq_true rfl) rfl (c_X6_layBytes (rng_stu hr inR_0 _ _) ht0) (fun υ hp2 => ?_)
  obtain ⟨p1, p2, p3, p4, p5⟩ := hp2
  refine M.1 [29] 60 _ ?_
  refine outer n.toNat [] (spT T) υ (by simp; omega) ⟨p1, textM_x ht0 p2.1 (p4 1 (by decide)), ⟨by rw [p2.2, stu_s]; rfl, by simp, fun t q hq => by simp at hq, fun j hj => by simp at hj⟩, p5, ?_, fun j hj => by simp at hj⟩ (spT_pl T) vOk_0 (seg_0 hx) rfl
  intro t ht8
  rw [p4 7 (by decide), stu_j _ _ _ (by decide)]
  exact hp t (by omega)
end M6
end
section
/-! the reference's forward table, told purely -/
theorem lx_appr_inv : ∀ {r s : List Int} (u : List Int), r.length = s.length → lx (r ++ u) (s ++ u) → lx r s
  | [], [], u, _, h => (lx_irr u h).elim
  | [], _ :: _, _, h, _ => by simp at h
  | _ :: _, [], _, h, _ => by simp at h
  | a :: r, b :: s, u, h, hl => by
    rcases hl with hl | ⟨e, hl⟩
    · exact Or.inl hl
    · exact Or.inr ⟨e, lx_appr_inv u (by simpa using h) hl⟩
theorem bt_appr_inv {P : Int → Int} {r s : List Int} (u : List Int) (h : bt P (r ++ u) (s ++ u)) : bt P r s := by
  unfold bt at *
  rw [sm_app, sm_app, List.length_append, List.length_append] at h
  rcases h with h | ⟨e, h | ⟨e2, h⟩⟩
  · left; omega
  · right; exact ⟨by omega, Or.inl (by omega)⟩
  · right; exact ⟨by omega, Or.inr ⟨by omega, lx_appr_inv u (by omega) h⟩⟩
theorem lx_appl_iff {r s : List Int} : ∀ (u : List Int), lx (u ++ r) (u ++ s) ↔ lx r s
  | [] => Iff.rfl
  | a :: u => by
    constructor
    · rintro (h | ⟨-, h⟩)
      · omega
      · exact (lx_appl_iff u).mp h
    · intro h
      exact Or.inr ⟨rfl, (lx_appl_iff u).mpr h⟩
theorem pth_last {n : Nat} {F : Nat → Int} {bs : List (List Int)} {r : List Int} {q : Nat} (h : pth n F bs 0 r q) (hq : 0 < q) : ∃ r' t p z, r = r' ++ [t] ∧ pth n F bs 0 r' p ∧ stp n F bs p t z ∧ p + z = q := by
  rcases List.eq_nil_or_concat r with e | ⟨r', t, e⟩
  · subst e
    have : 0 = q := h
    omega
  · rw [List.concat_eq_append] at e
    subst e
    obtain ⟨p, h1, z, h2, h3⟩ := pth_app.mp h
    exact ⟨r', t, p, z, rfl, h1, h2, h3⟩
theorem pth_snoc {n : Nat} {F : Nat → Int} {bs : List (List Int)} {r : List Int} {p z : Nat} {t : Int} (h : pth n F bs 0 r p) (hs : stp n F bs p t z) : pth n F bs 0 (r ++ [t]) (p + z) := pth_app.mpr ⟨p, h, z, hs, rfl⟩
theorem pth_by {n : Nat} {F : Nat → Int} {bs : List (List Int)} : ∀ {q : Nat}, q ≤ n → ∃ r, pth n F bs 0 r q
  | 0, _ => ⟨[], rfl⟩
  | q + 1, h => by
    obtain ⟨r, hr⟩ := pth_by (n := n) (F := F) (bs := bs) (q := q) (by omega)
    exact ⟨r ++ [F q], pth_snoc hr ⟨by omega, Or.inl ⟨rfl, rfl⟩⟩⟩
def cons (F : Nat → Int) (i s p : Nat) (t : Int) : Prop := p < i ∨ (p = i ∧ ((1 ≤ s ∧ t = F i) ∨ ∃ j, j + 1 < s ∧ t = 256 + (j : Int)))
def fwR (n : Nat) (F : Nat → Int) (bs : List (List Int)) (P : Int → Int) (rows : Nat → Option (List Int)) (i s : Nat) : Prop :=
  rows 0 = some [] ∧ (∀ q L, rows q = some L → pth n F bs 0 L q) ∧ ∀ r t p z, pth n F bs 0 r p → stp n F bs p t z → cons F i s p t → ∃ L, rows (p + z) = some L ∧ ¬ bt P (r ++ [t]) L
/-- all rows to a place that is dealt with are weighed -/
theorem fwR_at {n : Nat} {F : Nat → Int} {bs : List (List Int)} {P : Int → Int} {rows : Nat → Option (List Int)} {i s : Nat} (hb : bsOk bs) (h : fwR n F bs P rows i s) (hi : i ≤ n) : ∃ L, rows i = some L ∧ pth n F bs 0 L i ∧ ∀ r, pth n F bs 0 r i → ¬ bt P r L := by
  obtain ⟨h0, h1, h2⟩ := h
  rcases Nat.eq_zero_or_pos i with e | e
  · subst e
    refine ⟨[], h0, rfl, fun r hr => ?_⟩
    have := (pth_le hb hr).1
    have e : r = [] := List.length_eq_zero_iff.mp (by omega)
    rw [e]
    exact bt_irr []
  · obtain ⟨r0, hr0⟩ := pth_by (F := F) (bs := bs) hi
    obtain ⟨r', t, p, z, -, a1, a2, a3⟩ := pth_last hr0 e
    have hz := stp_le a2 hb
    obtain ⟨L, hL, -⟩ := h2 r' t p z a1 a2 (Or.inl (by omega))
    rw [a3] at hL
    refine ⟨L, hL, h1 i L hL, fun r hr => ?_⟩
    obtain ⟨r', t, p, z, e1, a1, a2, a3⟩ := pth_last hr e
    have hz := stp_le a2 hb
    obtain ⟨L', hL', hn⟩ := h2 r' t p z a1 a2 (Or.inl (by omega))
    rw [a3, hL] at hL'
    cases hL'
    rw [e1]
    exact hn
noncomputable def mx (P : Int → Int) (c : List Int) (o : Option (List Int)) : List Int := match o with
  | none => c
  | some L => @ite _ (bt P c L) (Classical.propDecidable _) c L
theorem fwR_come {n : Nat} {F : Nat → Int} {bs : List (List Int)} {P : Int → Int} {rows : Nat → Option (List Int)} {i s s' z : Nat} {t : Int} {Lf : List Int} (hF : ∀ i, i < n → F i < 256) (hb : bsOk bs) (h : fwR n F bs P rows i s) (hi : i < n) (hLf : rows i = some Lf) (hst : stp n F bs i t z) (hs : ∀ p x, cons F i s' p x → cons F i s p x ∨ (p = i ∧ x = t)) : fwR n F bs P (va_up rows (i + z) (some (mx P (Lf ++ [t]) (rows (i + z))))) i s' := by
  have hz := stp_le hst hb
  obtain ⟨L0, e0, hp0, hopt⟩ := fwR_at hb h (by omega)
  rw [hLf] at e0
  cases e0
  obtain ⟨h0, h1, h2⟩ := h
  have hc : pth n F bs 0 (Lf ++ [t]) (i + z) := pth_snoc hp0 hst
  have mxc : ¬ bt P (Lf ++ [t]) (mx P (Lf ++ [t]) (rows (i + z))) := by
    unfold mx
    split
    · exact bt_irr _
    · split
      · exact bt_irr _
      · assumption
  have mxo : ∀ L, rows (i + z) = some L → ∀ r, ¬ bt P r L → ¬ bt P r (mx P (Lf ++ [t]) (rows (i + z))) := by
    intro L hL r hr
    rw [hL]
    unfold mx
    simp only []
    split
    · rename_i hbt
      exact fun q => hr (bt_trans q hbt)
    · exact hr
  refine ⟨by rw [va_up_ne _ _ (by omega)]; exact h0, fun q L hL => ?_, fun r x p y a1 a2 a3 => ?_⟩
  · by_cases e : q = i + z
    · subst e
      rw [va_up_self] at hL
      cases hL
      unfold mx
      split
      · exact hc
      · rename_i L hL
        split
        · exact hc
        · exact h1 _ L hL
    · rw [va_up_ne _ _ e] at hL
      exact h1 q L hL
  · have old : cons F i s p x → ∃ L, va_up rows (i + z) (some (mx P (Lf ++ [t]) (rows (i + z)))) (p + y) = some L ∧ ¬ bt P (r ++ [x]) L := by
      intro hc
      obtain ⟨L, hL, hn⟩ := h2 r x p y a1 a2 hc
      by_cases e : p + y = i + z
      · rw [e, va_up_self]
        rw [e] at hL
        exact ⟨_, rfl, mxo L hL _ hn⟩
      · rw [va_up_ne _ _ e]
        exact ⟨L, hL, hn⟩
    rcases hs p x a3 with hc | ⟨e1, e2⟩
    · exact old hc
    · rw [e1, e2] at a2
      have hyz : y = z := stp_fun (hF i hi) a2 hst
      rw [e1, e2, hyz, va_up_self]
      refine ⟨_, rfl, fun q => ?_⟩
      rw [e1] at a1
      -- r to i is no better than Lf
      have hr : ¬ bt P (r ++ [t]) (Lf ++ [t]) := fun w => hopt r a1 (bt_appr_inv [t] w)
      by_cases e : Lf ++ [t] = mx P (Lf ++ [t]) (rows (i + z))
      · rw [← e] at q
        exact hr q
      · rcases bt_tot (P := P) e with w | w
        · exact mxc w
        · exact hr (bt_trans q w)
theorem fwR_fin {n : Nat} {F : Nat → Int} {bs : List (List Int)} {P : Int → Int} {rows : Nat → Option (List Int)} {s : Nat} (hb : bsOk bs) (h : fwR n F bs P rows n s) : ∃ L, rows n = some L ∧ isBst n F bs P L := by
  obtain ⟨L, h1, h2, h3⟩ := fwR_at hb h (Nat.le_refl _)
  exact ⟨L, h1, h2, h3⟩
/-! the number of ways -/
theorem sumf_up {f g : Nat → Nat} {q : Nat} : ∀ {k : Nat}, q < k → (∀ x, x ≠ q → g x = f x) → sumf g k + f q = sumf f k + g q
  | 0, h, _ => by omega
  | k + 1, h, he => by
    unfold sumf
    by_cases e : q = k
    · subst e
      rw [sumf_congr (g := g) (h := f) (fun j hj => he j (by omega))]
      omega
    · have := sumf_up (k := k) (by omega) he
      rw [he k (by omega)]
      omega
def sW (n : Nat) (B W : Nat → Nat) (i : Nat) : Nat := sumf (fun q => if i < q then W q * B q else 0) (n + 1)
theorem sW_next {n : Nat} {B W : Nat → Nat} {i : Nat} (hi : i < n) : sW n B W i = sW n B W (i + 1) + W (i + 1) * B (i + 1) := by
  have := sumf_up (f := fun q => if i + 1 < q then W q * B q else 0) (g := fun q => if i < q then W q * B q else 0) (q := i + 1) (k := n + 1) (by omega) (fun x hx => by
    by_cases h : i < x
    · rw [if_pos h, if_pos (by omega)]
    · rw [if_neg h, if_neg (by omega)])
  simp only [Nat.lt_irrefl, if_false, Nat.add_zero, Nat.lt_add_one, if_true] at this
  exact this
theorem sW_n {n : Nat} {B W : Nat → Nat} : sW n B W n = 0 := by
  unfold sW
  have : ∀ k, k ≤ n + 1 → sumf (fun q => if n < q then W q * B q else 0) k = 0 := by
    intro k
    induction k with
    | zero => intro _; rfl
    | succ k ih =>
      intro hk
      unfold sumf
      rw [ih (by omega), if_neg (by omega)]
  exact this (n + 1) (Nat.le_refl _)
theorem sW_come {n : Nat} {B W : Nat → Nat} {i q : Nat} (hq : i < q) (hqn : q ≤ n) : sW n B (va_up W q (W q + W i)) i = sW n B W i + W i * B q := by
  have := sumf_up (f := fun x => if i < x then W x * B x else 0) (g := fun x => if i < x then va_up W q (W q + W i) x * B x else 0) (q := q) (k := n + 1) (by omega) (fun x hx => by
    rw [va_up_ne _ _ hx])
  rw [if_pos hq, if_pos hq, va_up_self, Nat.add_mul] at this
  unfold sW
  omega
end
section
section M7
variable {l : Launch} {D : va_G} {cA : Nat → ClassId} {ad : Nat → Nat} {σ : St} {T : List Int} {ps : PSt} {P : Int → Int}
theorem tbo_l (ps : PSt) (j : Nat) : tbo (tbl ps) (256 + (j : Int)) = (tbl ps).getD j [] := by
  unfold tbo
  rw [if_neg (by omega), show (256 + (j : Int) - 256).toNat = j by omega]
theorem c_X6_fits {j p : Nat} (hr : rng σ) (ht : textM σ T) (hv : vocM σ ps) (hvo : vOk ps) (hj : j < ps.length) (hp : p < T.length) : Ci l yX6_fits wsX6_fits (rh 1) D cA ad LM [.inl 0, .inr (256 + (j : Int)), .inr (p : Int)] σ (fun r τ => τ = σ ∧ r = b01 (fit T.length (FT T) (tbl ps) j p)) := by
  have h01 := ht.1
  have hn := ht.2.1
  have hl := hv.2.1
  have h120 := hvo.2.2.1 j hj
  have hnw := hvo.2.2.2 j hj
  have htok : 0 ≤ 256 + (j : Int) ∧ 256 + (j : Int) < 256 + ps.length := by omega
  have hlen : (tbo (tbl ps) (256 + (j : Int))).length = tl (tbl ps) j := by rw [tbo_l]; rfl
  refine Ci.walkZ fX6_fits pX6_fits [] (by decide) rfl LM_ok tX6_fits_ok fX6_fits_ok pX6_fits_ok klOk_0 (Nat.le_of_ble_eq_true rfl) (fun V M ret => ?_)
  obtain ⟨z, hz⟩ : ∃ z, z = tl (tbl ps) j := ⟨_, rfl⟩
  have loop : ∀ (d i : Nat), i + d = z → p + z ≤ T.length → (∀ x, x < i → FT T (p + x) = ((tbl ps).getD j []).getD x 0) → V (21, [(0, .inl 0), (1, .inr (256 + (j : Int))), (2, .inr (p : Int)), (3, .inr (z : Int)), (4, .inr (i : Int))], [], σ) := by
    intro d
    induction d with
    | zero =>
      intro i hi hpz hw
      refine M.1 [71] 60 _ ?_
      refine ⟨⟨by unfold inR; omega, by unfold inR; omega⟩, fun c1 => ret rfl (Or.inr rfl) ⟨rfl, ?_⟩, fun c1 => absurd c1 (by omega)⟩
      rw [b01_t ⟨by omega, fun x hx => hw x (by omega)⟩]
    | succ d ih =>
      intro i hi hpz hw
      have e1 : ((p : Int) + (i : Int)).toNat = p + i := by omega
      have g1 := (ht.2.2 (p + i) (by omega)).1
      have hlt : i < (tbo (tbl ps) (256 + (j : Int))).length := by rw [hlen]; omega
      have go : FT T (p + i) = ((tbl ps).getD j []).getD i 0 → V (64, [(0, .inl 0), (1, .inr (256 + (j : Int))), (2, .inr (p : Int)), (3, .inr (z : Int)), (4, .inr (i : Int))], [], σ) := by
        intro he
        refine M.1 [21] 60 _ ?_
        refine ih (i + 1) (by omega) hpz (fun x hx => ?_)
        rcases Nat.lt_or_ge x i with hc | hc
        · exact hw x hc
        · rw [show x = i by omega]; exact he
      refine M.1 [40] 60 _ ?_
      refine ⟨⟨by unfold inR; omega, by unfold inR; omega⟩, fun c1 => absurd c1 (by omega), fun c1 => ?_⟩
      refine ⟨⟨by omega, by omega⟩, ?_⟩
      rw [e1, g1]
      refine M.2.1 (vs := [.inr (256 + (j : Int)), .inr (i : Int)]) (rest := [.inr (T.getD (p + i) 0)]) rfl oX6_fits_X6_byteOf rfl rfl (Nat.le_of_ble_eq_true rfl) rfl (c_X6_byteOf hr hv hvo.2.2.1 htok hlt) (fun r τ hin hp2 => ?_)
      obtain ⟨e3, e4⟩ := hp2
      rw [tbo_l] at e4
      subst e3
      subst e4
      refine M.1 [56, 63, 64] 60 _ ?_
      refine ⟨⟨by rw [← g1]; exact hr _ _, hin⟩, fun c2 => ?_, fun c2 => ?_⟩
      · refine ret rfl (Or.inl rfl) ⟨rfl, ?_⟩
        rw [b01_f]
        intro h
        exact c2 (h.2 i (by omega))
      · refine ⟨by unfold inR; omega, fun c3 => go c2, fun c3 => ?_⟩
        refine M.2.1 (vs := [.inr ((p : Int) + (i : Int))]) (rest := []) rfl oX6_fits_X6_beginsWord rfl rfl (Nat.le_of_ble_eq_true rfl) rfl (c_X6_beginsWord hr (by omega) (by omega)) (fun r τ2 _ hp3 => ?_)
        obtain ⟨rfl, rfl⟩ := hp3
        have hno : ¬ ((p : Int) + (i : Int) = 0 ∨ (τ2 1 ((p : Int) + (i : Int)).toNat = 32 ∧ τ2 1 ((p : Int) + (i : Int) - 1).toNat ≠ 32)) := by
          rintro (h | ⟨h1, h2⟩)
          · omega
          · rw [e1, g1] at h1
            rw [show ((p : Int) + (i : Int) - 1).toNat = p + (i - 1) by omega, (ht.2.2 (p + (i - 1)) (by omega)).1] at h2
            have hlt2 : i < ((tbl ps).getD j []).length := by rw [← tbo_l]; exact hlt
            refine hnw i (by omega) hlt2 ⟨?_, ?_⟩
            · rw [← c2]; exact h1
            · rw [← hw (i - 1) (by omega)]; exact h2
        rw [b01_f hno]
        refine M.1 [64] 60 _ ?_
        exact ⟨inR_0, fun _ => go c2, fun c => absurd rfl c⟩
  refine M.1 [2] 60 _ ?_
  refine M.2.1 (vs := [.inr (256 + (j : Int))]) (rest := []) rfl oX6_fits_X6_sizeOf rfl rfl (Nat.le_of_ble_eq_true rfl) rfl (c_X6_sizeOf hr hv htok) (fun r τ hin hp2 => ?_)
  obtain ⟨rfl, rfl⟩ := hp2
  rw [hlen, ← hz]
  refine M.1 [17, 21] 60 _ ?_
  refine ⟨⟨by unfold inR; omega, hr _ _⟩, fun c1 => ?_, fun c1 => ?_⟩
  · exact loop z 0 (by omega) (by omega) (fun x hx => absurd hx (by omega))
  · refine ret rfl (Or.inl rfl) ⟨rfl, ?_⟩
    rw [b01_f]
    intro h
    have := h.1
    omega
/-- place p of the forward table holds the row L -/
def rowAt (σ : St) (p : Nat) (L : List Int) : Prop := σ 11 p = L.length ∧ L.length ≤ p ∧ ∀ i, i < L.length → σ 12 (120 * p + i) = L.getD i 0
theorem getD_cons_app (A : List Int) (x : Int) (r : List Int) : (A ++ x :: r).getD A.length 0 = x := by
  rw [getD_app, if_neg (by omega), Nat.sub_self]
  rfl
theorem c_X6_isBefore {p q : Nat} {t : Int} {Lf Lt : List Int} (hr : rng σ) (hp : p ≤ 120) (hq : q ≤ 120) (hp1 : rowAt σ p Lf) (hq1 : rowAt σ q Lt) (hlen : Lt.length = Lf.length + 1) (hpq : p < q) (ht : inR t) (hf8 : ∀ x ∈ Lf, 0 ≤ x ∧ x < 288) (ht8 : ∀ x ∈ Lt, 0 ≤ x ∧ x < 288) : Ci l yX6_isBefore wsX6_isBefore (rh 0) D cA ad LM [.inl 0, .inr (p : Int), .inr t, .inr (q : Int)] σ (fun r τ => τ = σ ∧ r = b01 (lx (Lf ++ [t]) Lt)) := by
  obtain ⟨f1, f2, f3⟩ := hp1
  obtain ⟨g1, g2, g3⟩ := hq1
  refine Ci.walkZ fX6_isBefore pX6_isBefore [] (by decide) rfl LM_ok tX6_isBefore_ok fX6_isBefore_ok pX6_isBefore_ok klOk_0 (Nat.le_of_ble_eq_true rfl) (fun V M ret => ?_)
  have loop : ∀ (rf rt A : List Int), Lf = A ++ rf → Lt = A ++ rt → V (11, [(0, .inl 0), (1, .inr (p : Int)), (2, .inr t), (3, .inr (q : Int)), (4, .inr (Lf.length : Int)), (5, .inr (A.length : Int))], [], σ) := by
    intro rf
    induction rf with
    | nil =>
      intro rt A hf htt
      rw [List.append_nil] at hf
      subst hf
      cases rt with
      | nil => rw [htt] at hlen; simp at hlen
      | cons y rt =>
        have hrt : rt = [] := by rw [htt] at hlen; simp at hlen; exact hlen
        subst hrt
        have e2 : (120 * (q : Int) + (Lf.length : Int)).toNat = 120 * q + Lf.length := by omega
        have hy : σ 12 (120 * q + Lf.length) = y := by rw [g3 Lf.length (by omega), htt, getD_cons_app]
        refine M.1 [88] 60 _ ?_
        refine ⟨⟨by unfold inR; omega, by unfold inR; omega⟩, fun c1 => ?_, fun c1 => absurd c1 (by omega)⟩
        refine ⟨⟨by omega, by omega⟩, ⟨ht, hr _ _⟩, fun c2 => ?_, fun c2 => ?_⟩
        · rw [e2, hy] at c2
          refine ret rfl (Or.inl rfl) ⟨rfl, ?_⟩
          rw [b01_f]
          rw [htt, lx_appl_iff]
          rintro (h | ⟨-, h⟩)
          · omega
          · exact h
        · rw [e2, hy] at c2
          refine ret rfl (Or.inr rfl) ⟨rfl, ?_⟩
          rw [b01_t]
          rw [htt, lx_appl_iff]
          exact Or.inl (by omega)
    | cons x rf ih =>
      intro rt A hf htt
      have hfl : Lf.length = A.length + (rf.length + 1) := by rw [hf]; simp
      cases rt with
      | nil => rw [htt] at hlen; simp at hlen; omega
      | cons y rt =>
        have hx : σ 12 (120 * p + A.length) = x := by rw [f3 A.length (by omega), hf, getD_cons_app]
        have hy : σ 12 (120 * q + A.length) = y := by rw [g3 A.length (by omega), htt, getD_cons_app]
        have e1 : (120 * (p : Int) + (A.length : Int)).toNat = 120 * p + A.length := by omega
        have e2 : (120 * (q : Int) + (A.length : Int)).toNat = 120 * q + A.length := by omega
        have b1 := hf8 x (by rw [hf]; exact List.mem_append_right _ List.mem_cons_self)
        have b2 := ht8 y (by rw [htt]; exact List.mem_append_right _ List.mem_cons_self)
        refine M.1 [11, 60] 60 _ ?_
        refine ⟨⟨by unfold inR; omega, by unfold inR; omega⟩, fun c1 => absurd c1 (by omega), fun c1 => ?_⟩
        refine ⟨⟨by omega, by omega⟩, ⟨by omega, by omega⟩, ?_⟩
        rw [e1, e2, hx, hy]
        refine ⟨by unfold inR; omega, fun c2 => ?_, fun c2 => ?_⟩
        · have e : x = y := by omega
          subst e
          refine M.2.2.2.2.2.1 _ (lpick_mem [0, 1, 2, 3, 4, 5]) ?_
          have := ih rt (A ++ [x]) (by rw [hf]; simp) (by rw [htt]; simp)
          rw [List.length_append] at this
          exact this
        · refine ⟨by unfold inR; omega, fun c3 => ?_, fun c3 => ?_⟩
          · refine ret rfl (Or.inl rfl) ⟨rfl, ?_⟩
            rw [b01_f]
            rw [hf, htt, List.append_assoc, lx_appl_iff]
            rintro (h | ⟨h, -⟩) <;> omega
          · refine ret rfl (Or.inr rfl) ⟨rfl, ?_⟩
            rw [b01_t]
            rw [hf, htt, List.append_assoc, lx_appl_iff]
            exact Or.inl (by omega)
  refine M.1 [11] 60 _ ?_
  refine ⟨⟨by omega, by omega⟩, ?_⟩
  rw [Int.toNat_natCast, f1]
  exact loop Lf Lt [] rfl rfl
end M7
end
section
section M8
variable {l : Launch} {D : va_G} {cA : Nat → ClassId} {ad : Nat → Nat} {σ : St} {T : List Int} {ps : PSt} {P : Int → Int}
def cellO (σ : St) (P : Int → Int) (q : Nat) (o : Option (List Int)) : Prop := match o with
  | none => σ 11 q = -1
  | some L => σ 10 q = sm P L ∧ rowAt σ q L ∧ ∀ x ∈ L, 0 ≤ x ∧ x < 288
theorem sm_bd2 (hP : ptsR ps.length P) (hl : ps.length ≤ 32) : ∀ {L : List Int}, (∀ x ∈ L, 0 ≤ x ∧ x < 256 + ps.length) → -120 * (L.length : Int) ≤ sm P L ∧ sm P L ≤ 120 * (L.length : Int)
  | [], _ => by simp [sm]
  | x :: L, h => by
    have h1 := h x List.mem_cons_self
    have h2 := hP x h1.1 h1.2
    have h3 := sm_bd2 hP hl (L := L) (fun y hy => h y (List.mem_cons_of_mem _ hy))
    simp only [sm, List.length_cons]
    omega
theorem c_X6_come {p z : Nat} {t : Int} {Lf : List Int} {o : Option (List Int)} (hr : rng σ) (hv : vocM σ ps) (hz : (tbo (tbl ps) t).length = z) (hz1 : 1 ≤ z) (ht : 0 ≤ t ∧ t < 256 + ps.length) (hpz : p + z ≤ 120) (hPt : σ 7 t.toNat = P t) (hPb : -120 ≤ P t ∧ P t ≤ 120) (hp : σ 10 p = sm P Lf ∧ rowAt σ p Lf ∧ ∀ x ∈ Lf, 0 ≤ x ∧ x < 288) (hpb : -14400 ≤ sm P Lf ∧ sm P Lf ≤ 14400) (hq : cellO σ P (p + z) o) (hw1 : 0 ≤ σ 13 p ∧ σ 13 p ≤ 1000000) (hw2 : 0 ≤ σ 13 (p + z) ∧ σ 13 (p + z) ≤ 1000000) : Cv l yX6_come wsX6_come (rh 1) D cA ad LM [.inl 0, .inr (p : Int), .inr t] σ (fun τ => rng τ ∧ eqx [10, 11, 12, 13] σ τ ∧ (∀ x, x ≠ p + z → τ 10 x = σ 10 x ∧ τ 11 x = σ 11 x ∧ τ 13 x = σ 13 x ∧ ∀ i, i < 120 → τ 12 (120 * x + i) = σ 12 (120 * x + i)) ∧ τ 13 (p + z) = (if 1000000 < σ 13 (p + z) + σ 13 p then 1000000 else σ 13 (p + z) + σ 13 p) ∧ cellO τ P (p + z) (some (mx P (Lf ++ [t]) o))) := by
  have hl := hv.2.1
  obtain ⟨hp10, ⟨hp11, hpl, hp12⟩, hp8⟩ := hp
  have ht8 : 0 ≤ t ∧ t < 288 := by omega
  refine Cv.walk fX6_come pX6_come kX6_come (by decide) rfl LM_ok tX6_come_ok fX6_come_ok pX6_come_ok kX6_come_ok (Nat.le_of_ble_eq_true rfl) (fun V M ret => ?_)
  obtain ⟨q, hqe⟩ : ∃ q, q = p + z := ⟨_, rfl⟩
  obtain ⟨S, hS⟩ : ∃ S, S = sm P Lf + P t := ⟨_, rfl⟩
  obtain ⟨w, hw⟩ : ∃ w, w = (if 1000000 < σ 13 q + σ 13 p then 1000000 else σ 13 q + σ 13 p) := ⟨_, rfl⟩
  rw [← hqe] at hq hw2 ret
  rw [← hw] at ret
  have hSm : sm P (Lf ++ [t]) = S := by rw [sm_app, hS]; simp [sm]
  have hSr : inR S := by unfold inR; omega
  have hwr : inR w := by
    rw [hw]
    split
    · constructor <;> decide
    · unfold inR; omega
  have hpq : p < q := by omega
  -- the state behind the ways
  obtain ⟨σ2, hs2⟩ : ∃ s, s = stu (stu σ 13 q (σ 13 q + σ 13 p)) 13 q w := ⟨_, rfl⟩
  have r2 : rng σ2 := by rw [hs2]; exact rng_stu (rng_stu hr (by unfold inR; omega) _ _) hwr _ _
  have x2 : eqx [10, 11, 12, 13] σ σ2 := by rw [hs2]; exact eqx_stu (eqx_stu eqx_rfl (by decide) _ _) (by decide) _ _
  have f10 : σ2 10 = σ 10 := by rw [hs2]; simp [stu, va_up]
  have f11 : σ2 11 = σ 11 := by rw [hs2]; simp [stu, va_up]
  have f12 : σ2 12 = σ 12 := by rw [hs2]; simp [stu, va_up]
  have f13 : ∀ x, x ≠ q → σ2 13 x = σ 13 x := fun x hx => by rw [hs2, stu_i _ _ _ hx, stu_i _ _ _ hx]
  have f13q : σ2 13 q = w := by rw [hs2, stu_s]
  have keep : ∀ L, o = some L → ¬ bt P (Lf ++ [t]) L → V (151, [(0, .inl 0), (1, .inr (p : Int)), (2, .inr t), (3, .inr (q : Int)), (4, .inr S), (5, .inr ((Lf.length : Int) + 1))], [], σ2) := by
    intro L hL hn
    refine ret rfl ⟨r2, x2, fun x hx => ⟨by rw [f10], by rw [f11], f13 x hx, fun i _ => by rw [f12]⟩, f13q, ?_⟩
    subst hL
    have e : mx P (Lf ++ [t]) (some L) = L := by unfold mx; simp only []; rw [if_neg hn]
    rw [e]
    obtain ⟨a1, ⟨a2, a3, a4⟩, a5⟩ := hq
    exact ⟨by rw [f10]; exact a1, ⟨by rw [f11]; exact a2, a3, by rw [f12]; exact a4⟩, a5⟩
  have copy : ∀ (d i : Nat) (τ : St), i + d = Lf.length → rng τ → eqx [10, 11, 12, 13] σ τ → (∀ x, x ≠ q → τ 10 x = σ 10 x ∧ τ 11 x = σ 11 x ∧ τ 13 x = σ 13 x ∧ ∀ i, i < 120 → τ 12 (120 * x + i) = σ 12 (120 * x + i)) → τ 13 q = w → τ 10 q = S → τ 11 q = (Lf.length : Int) + 1 → (∀ x, x < i → τ 12 (120 * q + x) = Lf.getD x 0) → mx P (Lf ++ [t]) o = Lf ++ [t] → V (171, [(0, .inl 0), (1, .inr (p : Int)), (2, .inr t), (3, .inr (q : Int)), (5, .inr ((Lf.length : Int) + 1)), (7, .inr (i : Int))], [], τ) := by
    intro d
    induction d with
    | zero =>
      intro i τ hi hrt hx hoth h13 h10 h11 hc hmx
      refine M.1 [225] 80 _ ?_
      refine ⟨⟨by unfold inR; omega, by unfold inR; omega⟩, fun c1 => ?_, fun c1 => absurd c1 (by omega)⟩
      refine ⟨⟨by omega, by omega⟩, ?_⟩
      rw [show (120 * (q : Int) + ((Lf.length : Int) + 1) - 1).toNat = 120 * q + Lf.length by omega]
      refine ret rfl ⟨rng_stu hrt (by unfold inR; omega) _ _, eqx_stu hx (by decide) _ _, fun x hxq => ?_, by rw [stu_j _ _ _ (by decide)]; exact h13, ?_⟩
      · have := hoth x hxq
        refine ⟨by rw [stu_j _ _ _ (by decide)]; exact this.1, by rw [stu_j _ _ _ (by decide)]; exact this.2.1, by rw [stu_j _ _ _ (by decide)]; exact this.2.2.1, fun i hi => ?_⟩
        rw [stu_i _ _ _ (by omega)]
        exact this.2.2.2 i hi
      · rw [hmx]
        refine ⟨by rw [stu_j _ _ _ (by decide), hSm]; exact h10, ⟨by rw [stu_j _ _ _ (by decide), h11]; simp, by simp; omega, fun x hxl => ?_⟩, fun x hxm => ?_⟩
        · rw [List.length_append, List.length_singleton] at hxl
          rw [getD_snoc]
          by_cases e : x = Lf.length
          · rw [e, stu_s, if_neg (by omega), if_pos rfl]
          · rw [stu_i _ _ _ (by omega), if_pos (by omega)]
            exact hc x (by omega)
        · rcases List.mem_append.mp hxm with h | h
          · exact hp8 x h
          · rw [List.mem_singleton] at h
            rw [h]
            exact ht8
    | succ d ih =>
      intro i τ hi hrt hx hoth h13 h10 h11 hc hmx
      have e1 : τ 12 (120 * p + i) = Lf.getD i 0 := by rw [(hoth p (by omega)).2.2.2 i (by omega)]; exact hp12 i (by omega)
      refine M.1 [171] 80 _ ?_
      refine ⟨⟨by unfold inR; omega, by unfold inR; omega⟩, fun c1 => absurd c1 (by omega), fun c1 => ?_⟩
      refine ⟨⟨by omega, by omega⟩, ⟨by omega, by omega⟩, ?_⟩
      rw [show (120 * (q : Int) + (i : Int)).toNat = 120 * q + i by omega, show (120 * (p : Int) + (i : Int)).toNat = 120 * p + i by omega, e1]
      refine ih (i + 1) _ (by omega) (rng_stu hrt (by rw [← e1]; exact hrt _ _) _ _) (eqx_stu hx (by decide) _ _) (fun x hxq => ?_) (by rw [stu_j _ _ _ (by decide)]; exact h13) (by rw [stu_j _ _ _ (by decide)]; exact h10) (by rw [stu_j _ _ _ (by decide)]; exact h11) (fun x hxi => ?_) hmx
      · have := hoth x hxq
        refine ⟨by rw [stu_j _ _ _ (by decide)]; exact this.1, by rw [stu_j _ _ _ (by decide)]; exact this.2.1, by rw [stu_j _ _ _ (by decide)]; exact this.2.2.1, fun j hj => ?_⟩
        rw [stu_i _ _ _ (by omega)]
        exact this.2.2.2 j hj
      · by_cases e : x = i
        · rw [e, stu_s]
        · rw [stu_i _ _ _ (by omega)]
          exact hc x (by omega)
  have upd : (∀ L, o = some L → bt P (Lf ++ [t]) L) → V (152, [(0, .inl 0), (1, .inr (p : Int)), (2, .inr t), (3, .inr (q : Int)), (4, .inr S), (5, .inr ((Lf.length : Int) + 1))], [], σ2) := by
    intro hbt
    have hmx : mx P (Lf ++ [t]) o = Lf ++ [t] := by
      unfold mx
      cases o with
      | none => rfl
      | some L => simp only []; rw [if_pos (hbt L rfl)]
    refine M.1 [171] 80 _ ?_
    refine ⟨⟨by omega, by omega⟩, ⟨by omega, by omega⟩, ?_⟩
    rw [Int.toNat_natCast]
    refine M.2.2.2.2.2.1 _ (lpick_mem [0, 1, 2, 3, 5, 7]) ?_
    refine copy Lf.length 0 _ (by omega) (rng_stu (rng_stu r2 hSr _ _) (by unfold inR; omega) _ _) (eqx_stu (eqx_stu x2 (by decide) _ _) (by decide) _ _) (fun x hxq => ⟨?_, ?_, ?_, fun i _ => ?_⟩) ?_ ?_ ?_ (fun x hx => absurd hx (by omega)) hmx
    · rw [stu_j _ _ _ (by decide), stu_i _ _ _ hxq, f10]
    · rw [stu_i _ _ _ hxq, stu_j _ _ _ (by decide), f11]
    · rw [stu_j _ _ _ (by decide), stu_j _ _ _ (by decide)]; exact f13 x hxq
    · rw [stu_j _ _ _ (by decide), stu_j _ _ _ (by decide), f12]
    · rw [stu_j _ _ _ (by decide), stu_j _ _ _ (by decide)]; exact f13q
    · rw [stu_j _ _ _ (by decide), stu_s]
    · rw [stu_s]
  have yes : (∀ L, o = some L → bt P (Lf ++ [t]) L) → V (139, [(0, .inl 0), (1, .inr (p : Int)), (2, .inr t), (3, .inr (q : Int)), (4, .inr S), (5, .inr ((Lf.length : Int) + 1))], [], σ2) := by
    intro hbt
    refine M.1 [152] 60 _ ?_
    refine ⟨by constructor <;> decide, fun _ => ?_, fun c => absurd c (by decide)⟩
    exact M.2.2.2.2.2.1 _ (lpick_mem [0, 1, 2, 3, 4, 5]) (upd hbt)
  have no : ∀ L, o = some L → ¬ bt P (Lf ++ [t]) L → V (143, [(0, .inl 0), (1, .inr (p : Int)), (2, .inr t), (3, .inr (q : Int)), (4, .inr S), (5, .inr ((Lf.length : Int) + 1))], [], σ2) := by
    intro L hL hbt
    refine M.1 [151] 60 _ ?_
    refine ⟨by constructor <;> decide, fun c => absurd rfl c, fun _ => ?_⟩
    exact M.2.2.2.2.2.1 _ (lpick_mem [0, 1, 2, 3, 4, 5]) (keep L hL hbt)
  have cmp : V (76, [(0, .inl 0), (1, .inr (p : Int)), (2, .inr t), (3, .inr (q : Int)), (4, .inr S), (5, .inr ((Lf.length : Int) + 1))], [], σ2) := by
    refine M.1 [133, 139, 143] 80 _ ?_
    refine ⟨⟨by omega, by omega⟩, r2 _ _, fun c1 => ?_, fun c1 => ?_⟩
    · rw [Int.toNat_natCast, f11] at c1
      refine yes (fun L hL => ?_)
      subst hL
      have := hq.2.1.1
      omega
    · rw [Int.toNat_natCast, f11] at c1
      cases o with
      | none => have hq : σ 11 q = -1 := hq; omega
      | some L =>
        obtain ⟨a1, ⟨a2, a3, a4⟩, a5⟩ := hq
        have one : ∀ {X : Prop}, (X → bt P (Lf ++ [t]) L) → X → ∀ L', some L = some L' → bt P (Lf ++ [t]) L' := fun h x L' e => by cases e; exact h x
        refine ⟨⟨by omega, by omega⟩, ⟨hSr, r2 _ _⟩, fun c2 => ?_, fun c2 => ?_⟩
        · rw [Int.toNat_natCast, f10, a1] at c2
          exact yes (one (fun c2 => Or.inl (by rw [hSm]; exact c2)) c2)
        · rw [Int.toNat_natCast, f10, a1] at c2
          refine ⟨⟨by omega, by omega⟩, ⟨hSr, r2 _ _⟩, fun c3 => ?_, fun c3 => ?_⟩
          · rw [Int.toNat_natCast, f10, a1] at c3
            refine no L rfl ?_
            rintro (h | ⟨h, -⟩) <;> rw [hSm] at h <;> omega
          · rw [Int.toNat_natCast, f10, a1] at c3
            refine ⟨⟨by omega, by omega⟩, ⟨by unfold inR; omega, r2 _ _⟩, fun c4 => ?_, fun c4 => ?_⟩
            · rw [Int.toNat_natCast, f11, a2] at c4
              exact yes (one (fun _ => Or.inr ⟨by rw [hSm]; omega, Or.inl (by simp; omega)⟩) trivial)
            · rw [Int.toNat_natCast, f11, a2] at c4
              refine ⟨⟨by omega, by omega⟩, ⟨by unfold inR; omega, r2 _ _⟩, fun c5 => ?_, fun c5 => ?_⟩
              · rw [Int.toNat_natCast, f11, a2] at c5
                refine no L rfl ?_
                rintro (h | ⟨-, h | ⟨h, -⟩⟩)
                · rw [hSm] at h; omega
                · simp at h; omega
                · simp at h; omega
              · rw [Int.toNat_natCast, f11, a2] at c5
                refine M.2.1 (vs := [.inr (p : Int), .inr t, .inr (q : Int)]) (rest := []) rfl oX6_come_X6_isBefore rfl rfl (Nat.le_of_ble_eq_true rfl) rfl (c_X6_isBefore (Lf := Lf) (Lt := L) r2 (by omega) (by omega) ⟨by rw [f11]; exact hp11, hpl, by rw [f12]; exact hp12⟩ ⟨by rw [f11]; exact a2, a3, by rw [f12]; exact a4⟩ (by omega) hpq (by unfold inR; omega) hp8 a5) (fun r τ2 _ hp3 => ?_)
                obtain ⟨e3, e4⟩ := hp3
                subst e3
                subst e4
                refine M.1 [139, 143] 60 _ ?_
                refine ⟨b01_r _, fun c6 => ?_, fun c6 => ?_⟩
                · have c6 := b01_0.mp c6
                  refine no L rfl ?_
                  rintro (h | ⟨-, h | ⟨-, h⟩⟩)
                  · rw [hSm] at h; omega
                  · simp at h; omega
                  · exact c6 h
                · have c6 := Classical.not_not.mp (fun h => c6 (b01_f h))
                  exact yes (one (fun _ => Or.inr ⟨by rw [hSm]; omega, Or.inr ⟨by simp; omega, c6⟩⟩) trivial)
  refine M.1 [3] 60 _ ?_
  refine M.2.1 (vs := [.inr t]) (rest := [.inr (p : Int)]) rfl oX6_come_X6_sizeOf rfl rfl (Nat.le_of_ble_eq_true rfl) rfl (c_X6_sizeOf hr hv ht) (fun r τ hin hp2 => ?_)
  obtain ⟨e3, e4⟩ := hp2
  subst e3
  rw [hz] at e4
  subst e4
  refine M.1 [48] 80 _ ?_
  refine ⟨⟨by omega, by omega⟩, ⟨by omega, by omega⟩, ⟨by omega, by omega⟩, ⟨by omega, by omega⟩, ⟨by omega, by omega⟩, ⟨by omega, by omega⟩, ?_⟩
  rw [Int.toNat_natCast, show ((p : Int) + (z : Int)).toNat = q by omega, hp10, hPt, hp11, show (p : Int) + (z : Int) = (q : Int) by omega, ← hS]
  refine M.1 [76] 80 _ ?_
  refine ⟨⟨by omega, by omega⟩, ?_⟩
  rw [Int.toNat_natCast, stu_s]
  refine ⟨⟨by unfold inR; omega, by constructor <;> decide⟩, fun c1 => ?_, fun c1 => ?_⟩
  · refine ⟨⟨by omega, by omega⟩, ⟨by omega, by omega⟩, ?_⟩
    rw [Int.toNat_natCast, stu_s]
    rw [hs2, hw, if_neg (by omega)] at cmp
    exact cmp
  · refine ⟨⟨by omega, by omega⟩, ?_⟩
    rw [Int.toNat_natCast]
    rw [hs2, hw, if_pos (by omega)] at cmp
    exact cmp
end M8
end
section
section M9
variable {l : Launch} {D : va_G} {cA : Nat → ClassId} {ad : Nat → Nat} {σ : St} {T : List Int} {ps : PSt} {P : Int → Int}
def fw (τ : St) (P : Int → Int) (n : Nat) (rows : Nat → Option (List Int)) (W : Nat → Nat) : Prop := ∀ q, q ≤ n → cellO τ P q (rows q) ∧ τ 13 q = (Nat.min (W q) 1000000 : Nat)
theorem fw_come {τ υ : St} {n p z : Nat} {rows : Nat → Option (List Int)} {W : Nat → Nat} {L : List Int} (hn : n ≤ 120) (hp : p ≤ n) (hz : p + z ≤ n) (h : fw τ P n rows W) (h1 : ∀ x, x ≠ p + z → υ 10 x = τ 10 x ∧ υ 11 x = τ 11 x ∧ υ 13 x = τ 13 x ∧ ∀ i, i < 120 → υ 12 (120 * x + i) = τ 12 (120 * x + i)) (h2 : υ 13 (p + z) = (if 1000000 < τ 13 (p + z) + τ 13 p then 1000000 else τ 13 (p + z) + τ 13 p)) (h3 : cellO υ P (p + z) (some L)) : fw υ P n (va_up rows (p + z) (some L)) (va_up W (p + z) (W (p + z) + W p)) := by
  intro q hq
  by_cases e : q = p + z
  · subst e
    rw [va_up_self, va_up_self]
    refine ⟨h3, ?_⟩
    rw [h2, (h (p + z) hz).2, (h p hp).2, ← min_cap (W (p + z)) (W p)]
    generalize Nat.min (W (p + z)) 1000000 = a
    generalize Nat.min (W p) 1000000 = b
    simp only [Nat.min_def]
    split <;> split <;> omega
  · rw [va_up_ne _ _ e, va_up_ne _ _ e]
    have k := h1 q e
    obtain ⟨g1, g2⟩ := h q hq
    refine ⟨?_, by rw [k.2.2.1]; exact g2⟩
    unfold cellO at *
    cases hr : rows q with
    | none =>
      rw [hr] at g1
      show υ 11 q = -1
      rw [k.2.1]
      exact g1
    | some L =>
      rw [hr] at g1
      obtain ⟨a1, ⟨a2, a3, a4⟩, a5⟩ := g1
      refine ⟨by rw [k.1]; exact a1, ⟨by rw [k.2.1]; exact a2, a3, fun i hi => ?_⟩, a5⟩
      rw [k.2.2.2 i (by omega)]
      exact a4 i hi
def comeP (σ : St) (P : Int → Int) (p z : Nat) (t : Int) (Lf : List Int) (o : Option (List Int)) (τ : St) : Prop := rng τ ∧ eqx [10, 11, 12, 13] σ τ ∧ (∀ x, x ≠ p + z → τ 10 x = σ 10 x ∧ τ 11 x = σ 11 x ∧ τ 13 x = σ 13 x ∧ ∀ i, i < 120 → τ 12 (120 * x + i) = σ 12 (120 * x + i)) ∧ τ 13 (p + z) = (if 1000000 < σ 13 (p + z) + σ 13 p then 1000000 else σ 13 (p + z) + σ 13 p) ∧ cellO τ P (p + z) (some (mx P (Lf ++ [t]) o))
theorem c_X6_findBest (h : RM σ T ps P) (hPr : ptsR ps.length P) (hvo : vOk ps) : Cv l yX6_findBest wsX6_findBest (rh 2) D cA ad LM [.inl 0] σ (fun τ => RM τ T ps P ∧ cellO τ P T.length (some (bst T ps P)) ∧ τ 13 T.length = aWay T ps) := by
  have h' := h
  obtain ⟨hr, ht, hv, hp⟩ := h
  have h01 := ht.1
  have hn := ht.2.1
  have h03 := hv.1
  have hl := hv.2.1
  have hb := hvo.2.1
  have hlen := tbl_len ps
  have hF : ∀ i, i < T.length → 0 ≤ FT T i ∧ FT T i < 256 := fun i hi => (ht.2.2 i hi).2
  have hPr' : ptsR (tbl ps).length P := by rw [hlen]; exact hPr
  refine Cv.walk fX6_findBest pX6_findBest [] (by decide) rfl LM_ok tX6_findBest_ok fX6_findBest_ok pX6_findBest_ok klOk_0 (Nat.le_of_ble_eq_true rfl) (fun V M ret => ?_)
  obtain ⟨B, hB⟩ : ∃ B, B = nB T.length (FT T) (tbl ps) := ⟨_, rfl⟩
  have keepR : ∀ τ : St, rng τ → eqx [10, 11, 12, 13] σ τ → RM τ T ps P := fun τ hrt hx => RM_x h' hrt ⟨by rw [hx 0 (by decide)], by rw [hx 0 (by decide)]⟩ (eqx_mono hx (by decide))
  -- a token comes from place i
  have come : ∀ (i s s' z : Nat) (t : Int) (rows : Nat → Option (List Int)) (W : Nat → Nat) (τ : St), i < T.length → rng τ → eqx [10, 11, 12, 13] σ τ → fw τ P T.length rows W → fwR T.length (FT T) (tbl ps) P rows i s → stp T.length (FT T) (tbl ps) i t z → (tbo (tbl ps) t).length = z → (∀ p x, cons (FT T) i s' p x → cons (FT T) i s p x ∨ (p = i ∧ x = t)) → ∃ Lf, Cv l yX6_come wsX6_come (rh 1) D cA ad LM [.inl 0, .inr (i : Int), .inr t] τ (comeP τ P i z t Lf (rows (i + z))) ∧ ∀ υ, comeP τ P i z t Lf (rows (i + z)) υ → rng υ ∧ eqx [10, 11, 12, 13] σ υ ∧ ∃ rows', fw υ P T.length rows' (va_up W (i + z) (W (i + z) + W i)) ∧ fwR T.length (FT T) (tbl ps) P rows' i s' := by
    intro i s s' z t rows W τ hi hrt hx hfw hfr hst hz hs
    have hzb := stp_le hst hb
    obtain ⟨Lf, e1, e2, -⟩ := fwR_at hb hfr (by omega)
    have hRM := keepR τ hrt hx
    have htk := stp_tok hF hst
    rw [hlen] at htk
    have g := (hfw i (by omega)).1
    rw [e1] at g
    have hsm := sm_bd hF hPr' e2
    have hle := pth_le hb e2
    have w1 := (hfw i (by omega)).2
    have w2 := (hfw (i + z) (by omega)).2
    have m1 : Nat.min (W i) 1000000 ≤ 1000000 := Nat.min_le_right _ _
    have m2 : Nat.min (W (i + z)) 1000000 ≤ 1000000 := Nat.min_le_right _ _
    have hc := c_X6_come (l := l) (D := D) (cA := cA) (ad := ad) (P := P) (o := rows (i + z)) (p := i) (z := z) (t := t) (Lf := Lf) hrt hRM.2.2.1 hz hzb.1 htk (by omega) (by rw [hRM.2.2.2 t.toNat (by omega), show ((t.toNat : Nat) : Int) = t by omega]) (hPr t htk.1 htk.2) g (by omega) (hfw (i + z) (by omega)).1 (by rw [w1]; omega) (by rw [w2]; omega)
    refine ⟨Lf, hc, fun υ hp => ?_⟩
    obtain ⟨c1, c2, c3, c4, c5⟩ := hp
    exact ⟨c1, eqx_trans hx c2, _, fw_come hn (by omega) hzb.2 hfw c3 c4 c5, fwR_come (fun i hi => (hF i hi).2) hb hfr hi e1 hst hs⟩
  have main : ∀ (d i : Nat) (rows : Nat → Option (List Int)) (W : Nat → Nat) (τ : St), i + d = T.length → rng τ → eqx [10, 11, 12, 13] σ τ → fw τ P T.length rows W → fwR T.length (FT T) (tbl ps) P rows i 0 → sW T.length B W i + W i * B i = B 0 → V (55, [(0, .inl 0), (1, .inr (i : Int))], [], τ) := by
    intro d
    induction d with
    | zero =>
      intro i rows W τ hi hrt hx hfw hfr hw
      have e : i = T.length := by omega
      subst e
      have e0 : τ 0 = σ 0 := hx 0 (by decide)
      refine M.1 [119] 60 _ ?_
      refine ⟨⟨by unfold inR; omega, hrt _ _⟩, fun c1 => ?_, fun c1 => absurd c1 (by rw [e0]; omega)⟩
      obtain ⟨L, hL1, hL2⟩ := fwR_fin hb hfr
      have g := hfw T.length (Nat.le_refl _)
      rw [hL1] at g
      refine ret rfl ⟨keepR τ hrt hx, ?_, ?_⟩
      · rw [bst_eq hL2]
        exact g.1
      · rw [g.2]
        unfold aWay
        rw [sW_n, hB, nB_n] at hw
        rw [show W T.length = nB T.length (FT T) (tbl ps) 0 by omega]
    | succ d ih =>
      intro i rows W τ hi hrt hx hfw hfr hw
      have e0 : τ 0 = σ 0 := hx 0 (by decide)
      have hFi := hF i (by omega)
      have hoc : τ 1 i = FT T i := by rw [hx 1 (by decide)]; exact (ht.2.2 i (by omega)).1
      have hstb : stp T.length (FT T) (tbl ps) i (FT T i) 1 := ⟨by omega, Or.inl ⟨rfl, rfl⟩⟩
      refine M.1 [71] 60 _ ?_
      refine ⟨⟨by unfold inR; omega, hrt _ _⟩, fun c1 => absurd c1 (by rw [e0]; omega), fun c1 => ?_⟩
      refine ⟨⟨by omega, by omega⟩, ?_⟩
      rw [Int.toNat_natCast, hoc]
      obtain ⟨Lf, hc, hpost⟩ := come i 0 1 1 (FT T i) rows W τ (by omega) hrt hx hfw hfr hstb (by unfold tbo; rw [if_pos hFi.2]; rfl) (fun p x hc => by
        rcases hc with hc | ⟨hc, ⟨-, hc2⟩ | ⟨j, hj, -⟩⟩
        · exact Or.inl (Or.inl hc)
        · exact Or.inr ⟨hc, hc2⟩
        · omega)
      refine M.2.2.1 (vs := [.inr (i : Int), .inr (FT T i)]) (rest := []) rfl oX6_findBest_X6_come rfl rfl (Nat.le_of_ble_eq_true rfl) rfl hc (fun υ hp2 => ?_)
      obtain ⟨r2, x2, rows2, fw2, fr2⟩ := hpost υ hp2
      obtain ⟨g, hg⟩ : ∃ g, g = fun j => iff0 (fit T.length (FT T) (tbl ps) j i) (B (i + tl (tbl ps) j)) := ⟨_, rfl⟩
      have hBi : B i = B (i + 1) + sumf g ps.length := by
        rw [hg, hB, nB_p hb (show i < T.length by omega), hlen]
      have inner : ∀ (d j : Nat) (rows : Nat → Option (List Int)) (W : Nat → Nat) (υ : St), j + d = ps.length → rng υ → eqx [10, 11, 12, 13] σ υ → fw υ P T.length rows W → fwR T.length (FT T) (tbl ps) P rows i (j + 1) → (∃ rem, sW T.length B W i + W i * rem = B 0 ∧ rem + sumf g j = sumf g ps.length) → V (76, [(0, .inl 0), (1, .inr (i : Int)), (2, .inr (j : Int))], [], υ) := by
        intro d
        induction d with
        | zero =>
          intro j rows W υ hj hru hxu hfw hfr hw
          obtain ⟨rem, hw, hrem⟩ := hw
          have e0 : υ 0 = σ 0 := hxu 0 (by decide)
          have ej : j = ps.length := by omega
          subst ej
          have hr0 : rem = 0 := by omega
          subst hr0
          refine M.1 [55] 60 _ ?_
          refine ⟨⟨by unfold inR; omega, hru _ _⟩, fun c1 => ?_, fun c1 => absurd c1 (by rw [e0]; omega)⟩
          refine M.2.2.2.2.2.1 _ (lpick_mem [0, 1]) ?_
          refine ih (i + 1) rows W υ (by omega) hru hxu hfw ?_ ?_
          · obtain ⟨k0, k1, k2⟩ := hfr
            refine ⟨k0, k1, fun r t p z a1 a2 a3 => k2 r t p z a1 a2 ?_⟩
            rcases a3 with a3 | ⟨-, ⟨a3, -⟩ | ⟨j, a3, -⟩⟩
            · rcases Nat.lt_or_ge p i with hlt | hge
              · exact Or.inl hlt
              · have epi : p = i := by omega
                subst epi
                obtain ⟨-, a2 | ⟨j, hj, a2, -⟩⟩ := a2
                · exact Or.inr ⟨rfl, Or.inl ⟨by omega, a2.1⟩⟩
                · exact Or.inr ⟨rfl, Or.inr ⟨j, by omega, a2⟩⟩
            · omega
            · omega
          · rw [← sW_next (show i < T.length by omega)]
            simpa using hw
        | succ d ihd =>
          intro j rows W υ hj hru hxu hfw hfr hw
          obtain ⟨rem, hw, hrem⟩ := hw
          have e0 : υ 0 = σ 0 := hxu 0 (by decide)
          have hRM := keepR υ hru hxu
          have hjl : j < ps.length := by omega
          have next : ∀ (rows : Nat → Option (List Int)) (W : Nat → Nat) (υ : St), rng υ → eqx [10, 11, 12, 13] σ υ → fw υ P T.length rows W → fwR T.length (FT T) (tbl ps) P rows i (j + 2) → (∃ rem, sW T.length B W i + W i * rem = B 0 ∧ rem + sumf g (j + 1) = sumf g ps.length) → V (107, [(0, .inl 0), (1, .inr (i : Int)), (2, .inr (j : Int))], [], υ) := by
            intro rows W υ a1 a2 a3 a4 a5
            refine M.1 [76] 60 _ ?_
            exact ihd (j + 1) rows W υ (by omega) a1 a2 a3 a4 a5
          have mono : ∀ {a : Nat}, a < ps.length → sumf g (a + 1) ≤ sumf g ps.length := by
            intro a ha
            have key : ∀ m, a + 1 ≤ m → sumf g (a + 1) ≤ sumf g m := by
              intro m
              induction m with
              | zero => intro h; omega
              | succ m ihm =>
                intro h
                rcases Nat.lt_or_ge m (a + 1) with hc | hc
                · rw [show m + 1 = a + 1 by omega]
                  exact Nat.le_refl _
                · have := ihm hc
                  rw [show sumf g (m + 1) = sumf g m + g m from rfl]
                  omega
            exact key ps.length (by omega)
          refine M.1 [91] 60 _ ?_
          refine ⟨⟨by unfold inR; omega, hru _ _⟩, fun c1 => absurd c1 (by rw [e0]; omega), fun c1 => ?_⟩
          refine M.2.1 (vs := [.inr (256 + (j : Int)), .inr (i : Int)]) (rest := []) rfl oX6_findBest_X6_fits rfl rfl (Nat.le_of_ble_eq_true rfl) rfl (c_X6_fits hru hRM.2.1 hRM.2.2.1 hvo hjl (by omega)) (fun r υ2 _ hp3 => ?_)
          obtain ⟨e3, e4⟩ := hp3
          subst e3
          subst e4
          have hgj : ∀ (hf : fit T.length (FT T) (tbl ps) j i), g j = B (i + tl (tbl ps) j) := fun hf => by rw [hg]; exact iff0_t hf _
          have hgn : ¬ fit T.length (FT T) (tbl ps) j i → g j = 0 := fun hf => by rw [hg]; exact iff0_f hf _
          refine M.1 [104, 107] 60 _ ?_
          refine ⟨b01_r _, fun c2 => ?_, fun c2 => ?_⟩
          · have c2 := b01_0.mp c2
            refine next rows W υ2 hru hxu hfw ?_ ⟨rem, hw, ?_⟩
            · obtain ⟨k0, k1, k2⟩ := hfr
              refine ⟨k0, k1, fun r t p z a1 a2 a3 => k2 r t p z a1 a2 ?_⟩
              rcases a3 with a3 | ⟨epi, ⟨a3, a4⟩ | ⟨j', a3, a4⟩⟩
              · exact Or.inl a3
              · exact Or.inr ⟨epi, Or.inl ⟨by omega, a4⟩⟩
              · rcases Nat.lt_or_ge j' j with hc | hc
                · exact Or.inr ⟨epi, Or.inr ⟨j', by omega, a4⟩⟩
                · exfalso
                  have ej : j' = j := by omega
                  subst ej
                  subst epi
                  obtain ⟨-, a2 | ⟨j2, hj2, a2, -, hf⟩⟩ := a2
                  · omega
                  · have : j2 = j' := by omega
                    subst this
                    exact c2 hf
            · rw [show sumf g (j + 1) = sumf g j + g j from rfl, hgn c2]
              omega
          · have c2 := Classical.not_not.mp (fun h => c2 (b01_f h))
            have hst2 : stp T.length (FT T) (tbl ps) i (256 + (j : Int)) (tl (tbl ps) j) := ⟨by omega, Or.inr ⟨j, by omega, rfl, rfl, c2⟩⟩
            have hbj := hb j (by omega)
            obtain ⟨Lf2, hc2, hpost2⟩ := come i (j + 1) (j + 2) (tl (tbl ps) j) (256 + (j : Int)) rows W υ2 (by omega) hru hxu hfw hfr hst2 (by rw [tbo_l]; rfl) (fun p x hc => by
              rcases hc with hc | ⟨hc, ⟨hc2, hc3⟩ | ⟨j', hj', hc2⟩⟩
              · exact Or.inl (Or.inl hc)
              · exact Or.inl (Or.inr ⟨hc, Or.inl ⟨by omega, hc3⟩⟩)
              · rcases Nat.lt_or_ge j' j with hlt | hge
                · exact Or.inl (Or.inr ⟨hc, Or.inr ⟨j', by omega, hc2⟩⟩)
                · exact Or.inr ⟨hc, by rw [hc2, show j' = j by omega]⟩)
            refine M.2.2.1 (vs := [.inr (i : Int), .inr (256 + (j : Int))]) (rest := []) rfl oX6_findBest_X6_come rfl rfl (Nat.le_of_ble_eq_true rfl) rfl hc2 (fun υ3 hp4 => ?_)
            obtain ⟨r3, x3, rows3, fw3, fr3⟩ := hpost2 υ3 hp4
            have hle := c2.1
            have hm := mono hjl
            rw [show sumf g (j + 1) = sumf g j + g j from rfl, hgj c2] at hm
            refine next rows3 _ υ3 r3 x3 fw3 fr3 ⟨rem - B (i + tl (tbl ps) j), ?_, ?_⟩
            · rw [sW_come (by omega) (by omega), va_up_ne _ _ (by omega), ← hw, Nat.add_assoc, ← Nat.mul_add]
              congr 2
              omega
            · rw [show sumf g (j + 1) = sumf g j + g j from rfl, hgj c2]
              omega
      refine M.1 [76] 60 _ ?_
      refine inner ps.length 0 rows2 _ υ (by omega) r2 x2 fw2 fr2 ⟨sumf g ps.length, ?_, rfl⟩
      rw [sW_come (by omega) (by omega), va_up_ne _ _ (by omega), ← hw, Nat.add_assoc, ← Nat.mul_add, hBi]
  have init : ∀ (d i : Nat) (τ : St), i + d = T.length + 1 → rng τ → eqx [10, 11, 12, 13] σ τ → (∀ q, q < i → τ 10 q = 0 ∧ τ 11 q = (if q = 0 then 0 else -1) ∧ τ 13 q = (if q = 0 then 1 else 0)) → V (2, [(0, .inl 0), (1, .inr (i : Int))], [], τ) := by
    intro d
    induction d with
    | zero =>
      intro i τ hi hrt hx hw
      have e0 : τ 0 = σ 0 := hx 0 (by decide)
      refine M.1 [55] 60 _ ?_
      refine ⟨⟨by unfold inR; omega, hrt _ _⟩, fun c1 => ?_, fun c1 => absurd c1 (by rw [e0]; omega)⟩
      refine main T.length 0 (fun q => if q = 0 then some [] else none) (fun q => if q = 0 then 1 else 0) τ (by omega) hrt hx (fun q hq => ?_) ⟨rfl, fun q L hL => ?_, fun r t p z _ _ hc => ?_⟩ ?_
      · obtain ⟨a1, a2, a3⟩ := hw q (by omega)
        by_cases e : q = 0
        · subst e
          refine ⟨⟨a1, ⟨a2, Nat.le_refl _, fun i hi => by simp at hi⟩, fun x hx => by simp at hx⟩, ?_⟩
          rw [a3]
          rfl
        · rw [if_neg e] at a2 a3
          simp only [if_neg e]
          exact ⟨a2, by rw [a3]; rfl⟩
      · by_cases e : q = 0
        · subst e
          simp at hL
          subst hL
          rfl
        · simp [e] at hL
      · rcases hc with hc | ⟨-, ⟨hc, -⟩ | ⟨j, hc, -⟩⟩ <;> omega
      · have : sW T.length B (fun q => if q = 0 then 1 else 0) 0 = 0 := by
          unfold sW
          have key : ∀ k, sumf (fun q => if 0 < q then (if q = 0 then 1 else 0) * B q else 0) k = 0 := by
            intro k
            induction k with
            | zero => rfl
            | succ k ihk =>
              unfold sumf
              rw [ihk]
              split
              · rw [if_neg (by omega), Nat.zero_mul]
              · rfl
          exact key _
        rw [this]
        simp
    | succ d ih =>
      intro i τ hi hrt hx hw
      have e0 : τ 0 = σ 0 := hx 0 (by decide)
      have next : ∀ a b : Int, a = (if i = 0 then 0 else -1) → b = (if i = 0 then 1 else 0) → V (47, [(0, .inl 0), (1, .inr (i : Int))], [], stu (stu (stu τ 10 i 0) 11 i a) 13 i b) := by
        intro a b ha hb2
        have hai : inR a := by rw [ha]; split <;> constructor <;> decide
        have hbi : inR b := by rw [hb2]; split <;> constructor <;> decide
        refine M.1 [2] 60 _ ?_
        refine ih (i + 1) _ (by omega) (rng_stu (rng_stu (rng_stu hrt inR_0 _ _) hai _ _) hbi _ _) (eqx_stu (eqx_stu (eqx_stu hx (by decide) _ _) (by decide) _ _) (by decide) _ _) (fun q hq => ?_)
        by_cases e : q = i
        · subst e
          simp [stu, va_up, ha, hb2]
        · have := hw q (by omega)
          simp [stu, va_up, e, this]
      refine M.1 [47] 80 _ ?_
      refine ⟨⟨by unfold inR; omega, hrt _ _⟩, fun c1 => absurd c1 (by rw [e0]; omega), fun c1 => ?_⟩
      refine ⟨⟨by omega, by omega⟩, by unfold inR; omega, fun c2 => ?_, fun c2 => ?_⟩
      · refine ⟨⟨by omega, by omega⟩, by unfold inR; omega, fun c3 => ?_, fun c3 => absurd c3 c2⟩
        refine ⟨⟨by omega, by omega⟩, ?_⟩
        rw [Int.toNat_natCast]
        exact next (-1) 0 (by rw [if_neg (by omega)]) (by rw [if_neg (by omega)])
      · refine ⟨⟨by omega, by omega⟩, by unfold inR; omega, fun c3 => absurd c2 c3, fun c3 => ?_⟩
        refine ⟨⟨by omega, by omega⟩, ?_⟩
        rw [Int.toNat_natCast]
        exact next 0 1 (by rw [if_pos (by omega)]) (by rw [if_pos (by omega)])
  refine M.1 [2] 60 _ ?_
  exact init (T.length + 1) 0 σ (by omega) hr eqx_rfl (fun q hq => absurd hq (by omega))
theorem c_X6_best (h : RM σ T ps P) (hPr : ptsR ps.length P) (hvo : vOk ps) : Ci l yX6_best wsX6_best (rh 3) D cA ad LM [.inl 0] σ (fun r τ => r = aBst T ps P ∧ RM τ T ps P) := by
  have hn := h.2.1.2.1
  refine Ci.walk fX6_best pX6_best [] (by decide) rfl LM_ok tX6_best_ok fX6_best_ok pX6_best_ok klOk_0 (Nat.le_of_ble_eq_true rfl) (fun V M ret => ?_)
  refine M.1 [6] 60 _ ?_
  refine M.2.2.1 (vs := []) (rest := []) rfl oX6_best_X6_findBest rfl rfl (Nat.le_of_ble_eq_true rfl) rfl (c_X6_findBest (RM_c h inR_0) hPr hvo) (fun υ hp2 => ?_)
  obtain ⟨p1, p2, p3⟩ := hp2
  have h01 := p1.2.1.1
  refine M.1 [18] 60 _ ?_
  refine ⟨⟨by rw [h01]; omega, by rw [h01]; omega⟩, ?_⟩
  rw [h01, Int.toNat_natCast]
  exact ret rfl (p1.1 _ _) ⟨p2.2.1.1, p1⟩
theorem c_X6_sum (h : RM σ T ps P) (hPr : ptsR ps.length P) (hvo : vOk ps) : Ci l yX6_sum wsX6_sum (rh 3) D cA ad LM [.inl 0] σ (fun r τ => r = aSum T ps P ∧ RM τ T ps P) := by
  have hn := h.2.1.2.1
  refine Ci.walk fX6_sum pX6_sum [] (by decide) rfl LM_ok tX6_sum_ok fX6_sum_ok pX6_sum_ok klOk_0 (Nat.le_of_ble_eq_true rfl) (fun V M ret => ?_)
  refine M.1 [6] 60 _ ?_
  refine M.2.2.1 (vs := []) (rest := []) rfl oX6_sum_X6_findBest rfl rfl (Nat.le_of_ble_eq_true rfl) rfl (c_X6_findBest (RM_c h inR_0) hPr hvo) (fun υ hp2 => ?_)
  obtain ⟨p1, p2, p3⟩ := hp2
  have h01 := p1.2.1.1
  refine M.1 [18] 60 _ ?_
  refine ⟨⟨by rw [h01]; omega, by rw [h01]; omega⟩, ?_⟩
  rw [h01, Int.toNat_natCast]
  exact ret rfl (p1.1 _ _) ⟨p2.1, p1⟩
theorem c_X6_ways (h : RM σ T ps P) (hPr : ptsR ps.length P) (hvo : vOk ps) : Ci l yX6_ways wsX6_ways (rh 3) D cA ad LM [.inl 0] σ (fun r τ => r = aWay T ps ∧ RM τ T ps P) := by
  have hn := h.2.1.2.1
  refine Ci.walk fX6_ways pX6_ways [] (by decide) rfl LM_ok tX6_ways_ok fX6_ways_ok pX6_ways_ok klOk_0 (Nat.le_of_ble_eq_true rfl) (fun V M ret => ?_)
  refine M.1 [6] 60 _ ?_
  refine M.2.2.1 (vs := []) (rest := []) rfl oX6_ways_X6_findBest rfl rfl (Nat.le_of_ble_eq_true rfl) rfl (c_X6_findBest (RM_c h inR_0) hPr hvo) (fun υ hp2 => ?_)
  obtain ⟨p1, p2, p3⟩ := hp2
  have h01 := p1.2.1.1
  refine M.1 [18] 60 _ ?_
  refine ⟨⟨by rw [h01]; omega, by rw [h01]; omega⟩, ?_⟩
  rw [h01, Int.toNat_natCast]
  exact ret rfl (p1.1 _ _) ⟨p3, p1⟩
theorem c_X6_bestAt {i : Int} (h : RM σ T ps P) (hi : inR i) (hPr : ptsR ps.length P) (hvo : vOk ps) : Ci l yX6_bestAt wsX6_bestAt (rh 3) D cA ad LM [.inl 0, .inr i] σ (fun r τ => r = aBat T ps P i ∧ RM τ T ps P) := by
  have hn := h.2.1.2.1
  refine Ci.walk fX6_bestAt pX6_bestAt [] (by decide) rfl LM_ok tX6_bestAt_ok fX6_bestAt_ok pX6_bestAt_ok klOk_0 (Nat.le_of_ble_eq_true rfl) (fun V M ret => ?_)
  refine M.1 [6] 60 _ ?_
  refine M.2.2.1 (vs := []) (rest := []) rfl oX6_bestAt_X6_findBest rfl rfl (Nat.le_of_ble_eq_true rfl) rfl (c_X6_findBest (RM_c h inR_0) hPr hvo) (fun υ hp2 => ?_)
  obtain ⟨p1, ⟨-, ⟨a2, a3, a4⟩, -⟩, p3⟩ := hp2
  have h01 := p1.2.1.1
  refine M.1 [22] 60 _ ?_
  refine ⟨⟨by rw [h01]; omega, by rw [h01]; omega⟩, ?_⟩
  rw [h01, Int.toNat_natCast, a2]
  refine M.2.2.2.1 (vs := [.inr i, .inr 0, .inr (((bst T ps P).length : Int) - 1)]) (rest := []) rfl oX6_bestAt_X6_in (Nat.le_of_ble_eq_true rfl) rfl (c_X6_in hi inR_0 (by unfold inR; omega)) (fun r τ _ hp3 => ?_)
  obtain ⟨e3, e4⟩ := hp3
  subst e3
  subst e4
  refine M.1 [46] 60 _ ?_
  refine ⟨b01_r _, fun c1 => ?_, fun c1 => ?_⟩
  · have c1 := b01_0.mp c1
    exact ret rfl (by constructor <;> decide) ⟨by unfold aBat; rw [if_neg (by omega)], p1⟩
  · have c1 := Classical.not_not.mp (fun h => c1 (b01_f h))
    refine ⟨⟨by rw [h01]; omega, by rw [h01]; omega⟩, ?_⟩
    refine ret rfl (p1.1 _ _) ⟨?_, p1⟩
    unfold aBat
    rw [if_pos (by omega), h01, show (120 * (T.length : Int) + i).toNat = 120 * T.length + i.toNat by omega]
    exact a4 i.toNat (by omega)
end M9
end
section
/-! constructors: a world as a plain list, growing -/
def Wd (p : Program) (l : Launch) (e : Env) (R : Room) (s : State) (m : MethodId) (args : Array Value) (below : List Frame) (meth : Method) (c : Code) (cells slots : Nat) (Q : State → Prop) (D : va_G) (nL : Nat) (A : Nat → Prop) (pc : Nat) (lv : List (Nat × Value)) (st : List Value) (ws : va_W) : Prop :=
  ∀ (H : Heap) (locs : List Loc) (ls : Array Slot), va_P D vwCl ws H → va_D A ws → va_S A s.heap H locs → lv_has ls nL lv → W p l e R s m args below meth c H locs cells slots Q (F0 m pc ls st)
section Ctor
variable {p : Program} {l : Launch} {e : Env} {R : Room} {s : State} {m : MethodId} {args : Array Value} {below : List Frame} {meth : Method} {c : Code} {cells slots : Nat} {Q : State → Prop} {D : va_G} {cA : Nat → ClassId} {nL : Nat} {A : Nat → Prop} {cc : ByteArray} {own : String} {Ts : List Cond} {pc pc1 : Nat} {lv : List (Nat × Value)} {st : List Value} {wr : va_W}
theorem arr_same (F : Fx p s m args c cc nL own Ts D cA A) {c' : ClassId} {ty : FieldType} {t : Nat} (h : va_K D vwCl (gT cA ++ [(c', ty)]) s) (ht : (gT cA)[t]? = some (cA t, ty)) (hty : ∀ C, ty ≠ .object C) : c' = cA t := by
  have h1 := (F.2.1.2 t _ ht).2
  have h2 := (h.2 2 (c', ty) rfl).2
  cases ty with
  | object C => exact absurd rfl (hty C)
  | _ => exact Option.some.inj (h2.symm.trans h1)
theorem Wd.arr (F : Fx p s m args c cc nL own Ts D cA A) (hin2 : meth.name = "<init>") {C : String} {T : u_T} {N ci idx k : Nat} {fs : List Value} {h0 : Nat} {t n : Nat} {ar : ArrayType} (ty : Nat → FieldType) (hty : ∀ k, k < N → parseFieldDescriptor (T k).2.2.1 = some (ty k)) (hnm : ∀ a, a < N → ∀ b, b < N → a ≠ b → (T a).2.1 ≠ (T b).2.1) (hin : ∀ w ∈ u_ws C T N, w ∈ Ts) (hc : vwCl[ci]? = some (C, T, N)) (hk : k < N) (hlk : Cond.fieldLink own idx (T k).1 (T k).2.1 (T k).2.2.1 ∈ Ts) (hfin : (T k).2.2.2 = true) (hdecl : (T k).1 = own) (hdd : parseFieldDescriptor (T k).2.2.1 = some (.array (newarray.typeOf ar))) (hat : Cond.arrayClass (newarray.typeOf ar) ∈ Ts) (htt : (gT cA)[t]? = some (cA t, newarray.typeOf ar)) (hno : ∀ C, newarray.typeOf ar ≠ .object C) (ha0 : ∀ c', vp_cell c' (n, .inl (fun _ => zI 0)) = arrV c' n (fun _ => defaultValue (newarray.typeOf ar))) (hnb : n * componentBytes (newarray.typeOf ar) ≤ 536870912) (hn : n < 2147483648) (hcells : cells + 1 ≤ R.cells) (hslots : slots + n ≤ R.slots) (hkl : k < fs.length) (hlv : (0, Value.ref h0) ∈ lv)
    (d0 : decode cc pc = .ok (.aload_n 0, 1)) (hpush : ∀ (H : Heap) (locs : List Loc) (ls : Array Slot) (st : List Value), W p l e R s m args below meth c H locs cells slots Q (F0 m pc1 ls (.int (zI (n : Int)) :: st)) → W p l e R s m args below meth c H locs cells slots Q (F0 m (pc + 1) ls st)) (d2 : decode cc pc1 = .ok (.newarray ar, 2)) (d3 : decode cc (pc1 + 2) = .ok (.putfield idx, 3))
    (kk : ∀ q : Nat, Wd p l e R s m args below meth c (cells + 1) (slots + n) Q D nL A (pc1 + 5) lv st ((h0, .inr (ci, fs.set k (.ref q))) :: (wr ++ [(q, .inl (cA t, n, .inl (fun _ => zI 0)))]))) : Wd p l e R s m args below meth c cells slots Q D nL A pc lv st ((h0, .inr (ci, fs)) :: wr) := by
  intro H locs ls hP hD hS hl
  refine lv_aload_n F.1.1 F.1.2.1 d0 rfl (hl.2.2 (0, Value.ref h0) hlv) ?_
  refine hpush H locs ls _ ?_
  refine va_newa F.1.1 F.1.2.1 (F.1.2.2.2.2 _ hat) rfl F.2.1 hP hD hS F.2.2 ha0 (by rw [zI_0, zI_lt ⟨by omega, by omega⟩ inR_0]; omega) (by rw [zI_cl ⟨by omega, by omega⟩]; omega) hnb hcells hslots d2 (fun q c' H1 hK1 hP1 hD1 hS1 => ?_)
  have e := arr_same F hK1 htt hno
  subst e
  refine va_putF F.1.1 F.1.2.1 F.1.2.2.2.2 hin ty hty hnm F.1.2.2.2.1 F.2.1 hP1 hD1 hS1 0 rfl hc k hk (F.1.2.2.2.2 _ hlk) (fun _ h9 => h9) hfin hin2 hdecl hdd rfl rfl hkl d3 (fun H2 locs2 hP2 hD2 hS2 => ?_)
  exact kk q H2 locs2 ls hP2 hD2 hS2 hl
theorem Wd.int0 (F : Fx p s m args c cc nL own Ts D cA A) {C : String} {T : u_T} {N ci idx k : Nat} {fs : List Value} {h0 : Nat} (ty : Nat → FieldType) (hty : ∀ k, k < N → parseFieldDescriptor (T k).2.2.1 = some (ty k)) (hnm : ∀ a, a < N → ∀ b, b < N → a ≠ b → (T a).2.1 ≠ (T b).2.1) (hin : ∀ w ∈ u_ws C T N, w ∈ Ts) (hc : vwCl[ci]? = some (C, T, N)) (hk : k < N) (hlk : Cond.fieldLink own idx (T k).1 (T k).2.1 (T k).2.2.1 ∈ Ts) (hfin : (T k).2.2.2 = false) (hdd : parseFieldDescriptor (T k).2.2.1 = some .int) (hkl : k < fs.length) (hlv : (0, Value.ref h0) ∈ lv)
    (d0 : decode cc pc = .ok (.aload_n 0, 1)) (d1 : decode cc (pc + 1) = .ok (.iconst 0, 1)) (d3 : decode cc (pc + 2) = .ok (.putfield idx, 3))
    (kk : Wd p l e R s m args below meth c cells slots Q D nL A (pc + 5) lv st ((h0, .inr (ci, fs.set k (.int (zI 0)))) :: wr)) : Wd p l e R s m args below meth c cells slots Q D nL A pc lv st ((h0, .inr (ci, fs)) :: wr) := by
  intro H locs ls hP hD hS hl
  refine lv_aload_n F.1.1 F.1.2.1 d0 rfl (hl.2.2 (0, Value.ref h0) hlv) ?_
  refine lv_iconst (v := zI 0) F.1.1 F.1.2.1 d1 rfl ?_
  refine va_put F.1.1 F.1.2.1 F.1.2.2.2.2 hin ty hty hnm F.1.2.2.2.1 F.2.1 hP hD hS 0 rfl hc k hk (F.1.2.2.2.2 _ hlk) (fun _ h9 => h9) hfin hdd rfl rfl hkl d3 (fun H2 locs2 hP2 hD2 hS2 => ?_)
  exact kk H2 locs2 ls hP2 hD2 hS2 hl
theorem Wd.obj (F : Fx p s m args c cc nL own Ts D cA A) {idx h0 : Nat} {ws : va_W} (h1 : Cond.methodLink own idx Lib.objectInit ∈ Ts) (h2 : Cond.instanceMethod Lib.objectInit ∈ Ts) (h3 : Cond.code Lib.objectInit ⟨#[0xb1]⟩ 1 none ∈ Ts) (hlv : (0, Value.ref h0) ∈ lv) (d0 : decode cc 0 = .ok (.aload_n 0, 1)) (d1 : decode cc 1 = .ok (.invokespecial idx, 3)) (hf : 1 ≤ R.frames) (hlo : 12 ≤ R.locals)
    (kk : Wd p l e R s m args below meth c cells slots Q D nL A 4 lv [] ws) : Wd p l e R s m args below meth c cells slots Q D nL A 0 lv [] ws := by
  intro H locs ls hP hD hS hl
  refine lv_aload_n F.1.1 F.1.2.1 d0 rfl (hl.2.2 (0, Value.ref h0) hlv) ?_
  refine W.objInit F.1.1 F.1.2.1 F.1.2.2.2.1 (F.1.2.2.2.2 _ h1) (F.1.2.2.2.2 _ h2) (F.1.2.2.2.2 _ h3) rfl (by rw [F.1.2.2.1]; exact hl.1) rfl d1 hf (by show 2 * 0 + 0 + 12 ≤ R.locals; omega) ?_
  exact kk H locs ls hP hD hS hl
theorem push_b (F : Fx p s m args c cc nL own Ts D cA A) {n : Int} (d : decode cc pc = .ok (.bipush n, 2)) (h1 : -128 ≤ n) (h2 : n ≤ 127) : ∀ (H : Heap) (locs : List Loc) (ls : Array Slot) (st : List Value), W p l e R s m args below meth c H locs cells slots Q (F0 m (pc + 2) ls (.int (zI n) :: st)) → W p l e R s m args below meth c H locs cells slots Q (F0 m pc ls st) :=
  fun _ _ _ _ k => lv_bipush F.1.1 F.1.2.1 d (zI_by h1 h2) k
theorem push_s (F : Fx p s m args c cc nL own Ts D cA A) {n : Int} (d : decode cc pc = .ok (.sipush n, 3)) (h1 : -32768 ≤ n) (h2 : n ≤ 32767) : ∀ (H : Heap) (locs : List Loc) (ls : Array Slot) (st : List Value), W p l e R s m args below meth c H locs cells slots Q (F0 m (pc + 3) ls (.int (zI n) :: st)) → W p l e R s m args below meth c H locs cells slots Q (F0 m pc ls st) :=
  fun _ _ _ _ k => lv_sipush F.1.1 F.1.2.1 d (zI_sh h1 h2) k
/-- a constructor's contract: from the world w0 of the fresh object to a world that 'post' tells -/
def Ck (l : Launch) (y : MethodName) (ws : List Cond) (rm : Room) (D : va_G) (cA : Nat → ClassId) (h0 : Nat) (w0 : va_W) (post : va_W → Prop) (mc ms : Nat) : Prop :=
  ∀ sz : Nat, Met l y ws rm (va_Pc [.ref h0] (fun U => U.heap.size = sz ∧ va_P D vwCl w0 U.heap ∧ va_K D vwCl (gT cA) U ∧ va_D (fun _ => True) w0)) (va_Qv post (fun (u : va_W) (t : State) => va_P D vwCl u t.heap ∧ va_D (va_A w0 sz) u) (va_A w0 sz)) mc ms (va_A w0 sz)
theorem Ck.of {l : Launch} {y : MethodName} {ws ws' : List Cond} {rm : Room} {D : va_G} {cA : Nat → ClassId} {h0 : Nat} {w0 : va_W} {post : va_W → Prop} {mc ms maxL : Nat} {cc : ByteArray} (hy : plainName y.cls = true) (hw : ws = .code y cc maxL none :: ws') (hml1 : 1 ≤ maxL) (hnm : y.name = "<init>")
    (body : ∀ (p : Program) (e : Env) (s : State) (m : MethodId) (args : Array Value) (below : List Frame) (meth : Method) (c : Code) (A : Nat → Prop), Fx p s m args c cc maxL y.cls ws D cA A → meth.name = "<init>" → (∀ {pc : Nat} {lv : List (Nat × Value)} {w : va_W} , decode cc pc = .ok (.return_, 1) → post w → Wd p l e rm s m args below meth c mc ms (MQ below (va_Qv post (fun (u : va_W) (t : State) => va_P D vwCl u t.heap ∧ va_D A u) A) args s mc ms A) D maxL A pc lv [] w) → Wd p l e rm s m args below meth c 0 0 (MQ below (va_Qv post (fun (u : va_W) (t : State) => va_P D vwCl u t.heap ∧ va_D A u) A) args s mc ms A) D maxL A 0 [(0, .ref h0)] [] w0) : Ck l y ws rm D cA h0 w0 post mc ms := by
  intro sz
  refine Met.ofW (cc := cc) (maxL := maxL) (ret := none) hy hw ?_
  intro p e s m args below meth c s₁ B hml hv
  obtain ⟨rfl, hsz, hP, hK, hD0⟩ := hv
  have hts := atoms_spec (ws := ws) B.pre
  have hown : s.vm.findClass y.cls = some m.cls := findClass_of_methodNamed B.named
  have hin : meth.name = "<init>" := by rw [(name_of_methodNamed B.named B.method).1]; exact hnm
  subst hsz
  have hD := hD0.self (sz := s.heap.size)
  have F : Fx p s m [Value.ref h0].toArray c cc maxL y.cls ws D cA (va_A w0 s.heap.size) := ⟨⟨B.exec, B.bytes, hml, hown, hts⟩, hK, fun q h => Or.inr h⟩
  have key := body p e s m [Value.ref h0].toArray below meth c (va_A w0 s.heap.size) F hin (fun hd hp H locs ls hP hD hS hl => W.vret F.1.1 F.1.2.1 B.returns (fun t ht hW => ⟨⟨_, rfl, hp, by rw [ht]; exact hP, hD⟩, hS.F ht⟩) hS.2.2 hd B.notSynchronized)
  have hl := lv_entry [Value.ref h0] (n := maxL) hml1
  rw [lg_entry_eq]
  exact key s.heap [] _ hP hD va_S.rf hl
end Ctor
end
section
theorem tdec {cc : ByteArray} {tab : TB} (ht : tabOk cc tab) (i : Nat) {q : Nat × Instr × Nat × Nat} (h : tab[i]? = some q) : decode cc q.1 = .ok (q.2.1, ilen q.2.1) := (ht q (List.mem_of_getElem? h)).1
theorem arr0i (c' : ClassId) (n : Nat) : vp_cell c' (n, .inl (fun _ => zI 0)) = arrV c' n (fun _ => defaultValue (newarray.typeOf .int)) := by
  show arrV c' n (fun _ => .int (zI 0)) = arrV c' n (fun _ => .int 0)
  rw [← zI_0]
theorem arr0z (c' : ClassId) (n : Nat) : vp_cell c' (n, .inl (fun _ => zI 0)) = arrV c' n (fun _ => defaultValue (newarray.typeOf .boolean)) := by
  show arrV c' n (fun _ => .int (zI 0)) = arrV c' n (fun _ => .int 0)
  rw [← zI_0]
section Ctors
variable {l : Launch} {D : va_G} {cA : Nat → ClassId} {h0 : Nat}
set_option maxHeartbeats 300000 in
set_option maxRecDepth 20000 in
theorem c_X0_init : Ck l yX0_init wsX0_init { frames := 1, cells := 4, slots := 484, locals := 40 } D cA h0 [(h0, .inr (1, [.null, .null, .null, .null]))] (fun w => ∃ q0 q1 q2 q3 : Nat, w = [(h0, .inr (1, [.ref q0, .ref q1, .ref q2, .ref q3])), (q0, .inl (cA 0, 121, .inl (fun _ => zI 0))), (q1, .inl (cA 0, 121, .inl (fun _ => zI 0))), (q2, .inl (cA 0, 121, .inl (fun _ => zI 0))), (q3, .inl (cA 0, 121, .inl (fun _ => zI 0)))]) 4 484 := by
  refine Ck.of (by decide) rfl (by decide) rfl (fun p e s m args below meth c A F hin ret => ?_)
  refine Wd.obj F (idx := 3) (by decide +kernel) (by decide +kernel) (by decide +kernel) List.mem_cons_self (tdec tX0_init_ok 0 (q := (0, .aload_n 0, 1, 0)) rfl) (tdec tX0_init_ok 1 (q := (1, .invokespecial 3, 4, 0)) rfl) (by decide) (by decide) ?_
  refine Wd.arr F hin (k := 0) (n := 121) (t := 0) (ar := .int) (idx := 9) tyX0 tyX0_ok nmX0 (by decide +kernel) rfl (by decide) (by decide +kernel) rfl rfl (by decide +kernel) (by decide +kernel) rfl (fun C h => by cases h) (fun c' => arr0i c' 121) (Nat.le_of_ble_eq_true rfl) (Nat.le_of_ble_eq_true rfl) (Nat.le_of_ble_eq_true rfl) (Nat.le_of_ble_eq_true rfl) (Nat.le_of_ble_eq_true rfl) List.mem_cons_self (tdec tX0_init_ok 2 (q := (4, .aload_n 0, 5, 0)) rfl) (push_b F (tdec tX0_init_ok 3 (q := (5, .bipush 121, 7, 0)) rfl) (by decide) (by decide)) (tdec tX0_init_ok 4 (q := (7, .newarray .int, 9, 0)) rfl) (tdec tX0_init_ok 5 (q := (9, .putfield 9, 12, 0)) rfl) (fun q0 => ?_)
  refine Wd.arr F hin (k := 1) (n := 121) (t := 0) (ar := .int) (idx := 15) tyX0 tyX0_ok nmX0 (by decide +kernel) rfl (by decide) (by decide +kernel) rfl rfl (by decide +kernel) (by decide +kernel) rfl (fun C h => by cases h) (fun c' => arr0i c' 121) (Nat.le_of_ble_eq_true rfl) (Nat.le_of_ble_eq_true rfl) (Nat.le_of_ble_eq_true rfl) (Nat.le_of_ble_eq_true rfl) (Nat.le_of_ble_eq_true rfl) List.mem_cons_self (tdec tX0_init_ok 6 (q := (12, .aload_n 0, 13, 0)) rfl) (push_b F (tdec tX0_init_ok 7 (q := (13, .bipush 121, 15, 0)) rfl) (by decide) (by decide)) (tdec tX0_init_ok 8 (q := (15, .newarray .int, 17, 0)) rfl) (tdec tX0_init_ok 9 (q := (17, .putfield 15, 20, 0)) rfl) (fun q1 => ?_)
  refine Wd.arr F hin (k := 2) (n := 121) (t := 0) (ar := .int) (idx := 18) tyX0 tyX0_ok nmX0 (by decide +kernel) rfl (by decide) (by decide +kernel) rfl rfl (by decide +kernel) (by decide +kernel) rfl (fun C h => by cases h) (fun c' => arr0i c' 121) (Nat.le_of_ble_eq_true rfl) (Nat.le_of_ble_eq_true rfl) (Nat.le_of_ble_eq_true rfl) (Nat.le_of_ble_eq_true rfl) (Nat.le_of_ble_eq_true rfl) List.mem_cons_self (tdec tX0_init_ok 10 (q := (20, .aload_n 0, 21, 0)) rfl) (push_b F (tdec tX0_init_ok 11 (q := (21, .bipush 121, 23, 0)) rfl) (by decide) (by decide)) (tdec tX0_init_ok 12 (q := (23, .newarray .int, 25, 0)) rfl) (tdec tX0_init_ok 13 (q := (25, .putfield 18, 28, 0)) rfl) (fun q2 => ?_)
  refine Wd.arr F hin (k := 3) (n := 121) (t := 0) (ar := .int) (idx := 21) tyX0 tyX0_ok nmX0 (by decide +kernel) rfl (by decide) (by decide +kernel) rfl rfl (by decide +kernel) (by decide +kernel) rfl (fun C h => by cases h) (fun c' => arr0i c' 121) (Nat.le_of_ble_eq_true rfl) (Nat.le_of_ble_eq_true rfl) (Nat.le_of_ble_eq_true rfl) (Nat.le_of_ble_eq_true rfl) (Nat.le_of_ble_eq_true rfl) List.mem_cons_self (tdec tX0_init_ok 14 (q := (28, .aload_n 0, 29, 0)) rfl) (push_b F (tdec tX0_init_ok 15 (q := (29, .bipush 121, 31, 0)) rfl) (by decide) (by decide)) (tdec tX0_init_ok 16 (q := (31, .newarray .int, 33, 0)) rfl) (tdec tX0_init_ok 17 (q := (33, .putfield 21, 36, 0)) rfl) (fun q3 => ?_)
  exact ret (tdec tX0_init_ok 18 (q := (36, .return_, 37, 0)) rfl) ⟨q0, q1, q2, q3, rfl⟩
set_option maxHeartbeats 300000 in
set_option maxRecDepth 20000 in
theorem c_X1_init : Ck l yX1_init wsX1_init { frames := 1, cells := 3, slots := 768, locals := 40 } D cA h0 [(h0, .inr (2, [.null, .null, .null]))] (fun w => ∃ q0 q1 q2 : Nat, w = [(h0, .inr (2, [.ref q0, .ref q1, .ref q2])), (q0, .inl (cA 0, 256, .inl (fun _ => zI 0))), (q1, .inl (cA 0, 256, .inl (fun _ => zI 0))), (q2, .inl (cA 0, 256, .inl (fun _ => zI 0)))]) 3 768 := by
  refine Ck.of (by decide) rfl (by decide) rfl (fun p e s m args below meth c A F hin ret => ?_)
  refine Wd.obj F (idx := 3) (by decide +kernel) (by decide +kernel) (by decide +kernel) List.mem_cons_self (tdec tX1_init_ok 0 (q := (0, .aload_n 0, 1, 0)) rfl) (tdec tX1_init_ok 1 (q := (1, .invokespecial 3, 4, 0)) rfl) (by decide) (by decide) ?_
  refine Wd.arr F hin (k := 0) (n := 256) (t := 0) (ar := .int) (idx := 9) tyX1 tyX1_ok nmX1 (by decide +kernel) rfl (by decide) (by decide +kernel) rfl rfl (by decide +kernel) (by decide +kernel) rfl (fun C h => by cases h) (fun c' => arr0i c' 256) (Nat.le_of_ble_eq_true rfl) (Nat.le_of_ble_eq_true rfl) (Nat.le_of_ble_eq_true rfl) (Nat.le_of_ble_eq_true rfl) (Nat.le_of_ble_eq_true rfl) List.mem_cons_self (tdec tX1_init_ok 2 (q := (4, .aload_n 0, 5, 0)) rfl) (push_s F (tdec tX1_init_ok 3 (q := (5, .sipush 256, 8, 0)) rfl) (by decide) (by decide)) (tdec tX1_init_ok 4 (q := (8, .newarray .int, 10, 0)) rfl) (tdec tX1_init_ok 5 (q := (10, .putfield 9, 13, 0)) rfl) (fun q0 => ?_)
  refine Wd.arr F hin (k := 1) (n := 256) (t := 0) (ar := .int) (idx := 15) tyX1 tyX1_ok nmX1 (by decide +kernel) rfl (by decide) (by decide +kernel) rfl rfl (by decide +kernel) (by decide +kernel) rfl (fun C h => by cases h) (fun c' => arr0i c' 256) (Nat.le_of_ble_eq_true rfl) (Nat.le_of_ble_eq_true rfl) (Nat.le_of_ble_eq_true rfl) (Nat.le_of_ble_eq_true rfl) (Nat.le_of_ble_eq_true rfl) List.mem_cons_self (tdec tX1_init_ok 6 (q := (13, .aload_n 0, 14, 0)) rfl) (push_s F (tdec tX1_init_ok 7 (q := (14, .sipush 256, 17, 0)) rfl) (by decide) (by decide)) (tdec tX1_init_ok 8 (q := (17, .newarray .int, 19, 0)) rfl) (tdec tX1_init_ok 9 (q := (19, .putfield 15, 22, 0)) rfl) (fun q1 => ?_)
  refine Wd.arr F hin (k := 2) (n := 256) (t := 0) (ar := .int) (idx := 18) tyX1 tyX1_ok nmX1 (by decide +kernel) rfl (by decide) (by decide +kernel) rfl rfl (by decide +kernel) (by decide +kernel) rfl (fun C h => by cases h) (fun c' => arr0i c' 256) (Nat.le_of_ble_eq_true rfl) (Nat.le_of_ble_eq_true rfl) (Nat.le_of_ble_eq_true rfl) (Nat.le_of_ble_eq_true rfl) (Nat.le_of_ble_eq_true rfl) List.mem_cons_self (tdec tX1_init_ok 10 (q := (22, .aload_n 0, 23, 0)) rfl) (push_s F (tdec tX1_init_ok 11 (q := (23, .sipush 256, 26, 0)) rfl) (by decide) (by decide)) (tdec tX1_init_ok 12 (q := (26, .newarray .int, 28, 0)) rfl) (tdec tX1_init_ok 13 (q := (28, .putfield 18, 31, 0)) rfl) (fun q2 => ?_)
  exact ret (tdec tX1_init_ok 14 (q := (31, .return_, 32, 0)) rfl) ⟨q0, q1, q2, rfl⟩
set_option maxHeartbeats 300000 in
set_option maxRecDepth 20000 in
theorem c_X2_init : Ck l yX2_init wsX2_init { frames := 1, cells := 3, slots := 360, locals := 40 } D cA h0 [(h0, .inr (3, [.null, .null, .int (zI 0), .null]))] (fun w => ∃ q0 q1 q2 : Nat, w = [(h0, .inr (3, [.ref q0, .ref q1, .int (zI 0), .ref q2])), (q0, .inl (cA 0, 120, .inl (fun _ => zI 0))), (q1, .inl (cA 0, 120, .inl (fun _ => zI 0))), (q2, .inl (cA 1, 120, .inl (fun _ => zI 0)))]) 3 360 := by
  refine Ck.of (by decide) rfl (by decide) rfl (fun p e s m args below meth c A F hin ret => ?_)
  refine Wd.obj F (idx := 3) (by decide +kernel) (by decide +kernel) (by decide +kernel) List.mem_cons_self (tdec tX2_init_ok 0 (q := (0, .aload_n 0, 1, 0)) rfl) (tdec tX2_init_ok 1 (q := (1, .invokespecial 3, 4, 0)) rfl) (by decide) (by decide) ?_
  refine Wd.arr F hin (k := 0) (n := 120) (t := 0) (ar := .int) (idx := 9) tyX2 tyX2_ok nmX2 (by decide +kernel) rfl (by decide) (by decide +kernel) rfl rfl (by decide +kernel) (by decide +kernel) rfl (fun C h => by cases h) (fun c' => arr0i c' 120) (Nat.le_of_ble_eq_true rfl) (Nat.le_of_ble_eq_true rfl) (Nat.le_of_ble_eq_true rfl) (Nat.le_of_ble_eq_true rfl) (Nat.le_of_ble_eq_true rfl) List.mem_cons_self (tdec tX2_init_ok 2 (q := (4, .aload_n 0, 5, 0)) rfl) (push_b F (tdec tX2_init_ok 3 (q := (5, .bipush 120, 7, 0)) rfl) (by decide) (by decide)) (tdec tX2_init_ok 4 (q := (7, .newarray .int, 9, 0)) rfl) (tdec tX2_init_ok 5 (q := (9, .putfield 9, 12, 0)) rfl) (fun q0 => ?_)
  refine Wd.arr F hin (k := 1) (n := 120) (t := 0) (ar := .int) (idx := 15) tyX2 tyX2_ok nmX2 (by decide +kernel) rfl (by decide) (by decide +kernel) rfl rfl (by decide +kernel) (by decide +kernel) rfl (fun C h => by cases h) (fun c' => arr0i c' 120) (Nat.le_of_ble_eq_true rfl) (Nat.le_of_ble_eq_true rfl) (Nat.le_of_ble_eq_true rfl) (Nat.le_of_ble_eq_true rfl) (Nat.le_of_ble_eq_true rfl) List.mem_cons_self (tdec tX2_init_ok 6 (q := (12, .aload_n 0, 13, 0)) rfl) (push_b F (tdec tX2_init_ok 7 (q := (13, .bipush 120, 15, 0)) rfl) (by decide) (by decide)) (tdec tX2_init_ok 8 (q := (15, .newarray .int, 17, 0)) rfl) (tdec tX2_init_ok 9 (q := (17, .putfield 15, 20, 0)) rfl) (fun q1 => ?_)
  refine Wd.int0 F (k := 2) (idx := 18) tyX2 tyX2_ok nmX2 (by decide +kernel) rfl (by decide) (by decide +kernel) rfl (by decide +kernel) (Nat.le_of_ble_eq_true rfl) List.mem_cons_self (tdec tX2_init_ok 10 (q := (20, .aload_n 0, 21, 0)) rfl) (tdec tX2_init_ok 11 (q := (21, .iconst 0, 22, 0)) rfl) (tdec tX2_init_ok 12 (q := (22, .putfield 18, 25, 0)) rfl) ?_
  refine Wd.arr F hin (k := 3) (n := 120) (t := 1) (ar := .boolean) (idx := 22) tyX2 tyX2_ok nmX2 (by decide +kernel) rfl (by decide) (by decide +kernel) rfl rfl (by decide +kernel) (by decide +kernel) rfl (fun C h => by cases h) (fun c' => arr0z c' 120) (Nat.le_of_ble_eq_true rfl) (Nat.le_of_ble_eq_true rfl) (Nat.le_of_ble_eq_true rfl) (Nat.le_of_ble_eq_true rfl) (Nat.le_of_ble_eq_true rfl) List.mem_cons_self (tdec tX2_init_ok 13 (q := (25, .aload_n 0, 26, 0)) rfl) (push_b F (tdec tX2_init_ok 14 (q := (26, .bipush 120, 28, 0)) rfl) (by decide) (by decide)) (tdec tX2_init_ok 15 (q := (28, .newarray .boolean, 30, 0)) rfl) (tdec tX2_init_ok 16 (q := (30, .putfield 22, 33, 0)) rfl) (fun q2 => ?_)
  exact ret (tdec tX2_init_ok 17 (q := (33, .return_, 34, 0)) rfl) ⟨q0, q1, q2, rfl⟩
set_option maxHeartbeats 300000 in
set_option maxRecDepth 20000 in
theorem c_X3_init : Ck l yX3_init wsX3_init { frames := 1, cells := 1, slots := 120, locals := 40 } D cA h0 [(h0, .inr (4, [.null, .int (zI 0)]))] (fun w => ∃ q0 : Nat, w = [(h0, .inr (4, [.ref q0, .int (zI 0)])), (q0, .inl (cA 0, 120, .inl (fun _ => zI 0)))]) 1 120 := by
  refine Ck.of (by decide) rfl (by decide) rfl (fun p e s m args below meth c A F hin ret => ?_)
  refine Wd.obj F (idx := 3) (by decide +kernel) (by decide +kernel) (by decide +kernel) List.mem_cons_self (tdec tX3_init_ok 0 (q := (0, .aload_n 0, 1, 0)) rfl) (tdec tX3_init_ok 1 (q := (1, .invokespecial 3, 4, 0)) rfl) (by decide) (by decide) ?_
  refine Wd.arr F hin (k := 0) (n := 120) (t := 0) (ar := .int) (idx := 9) tyX3 tyX3_ok nmX3 (by decide +kernel) rfl (by decide) (by decide +kernel) rfl rfl (by decide +kernel) (by decide +kernel) rfl (fun C h => by cases h) (fun c' => arr0i c' 120) (Nat.le_of_ble_eq_true rfl) (Nat.le_of_ble_eq_true rfl) (Nat.le_of_ble_eq_true rfl) (Nat.le_of_ble_eq_true rfl) (Nat.le_of_ble_eq_true rfl) List.mem_cons_self (tdec tX3_init_ok 2 (q := (4, .aload_n 0, 5, 0)) rfl) (push_b F (tdec tX3_init_ok 3 (q := (5, .bipush 120, 7, 0)) rfl) (by decide) (by decide)) (tdec tX3_init_ok 4 (q := (7, .newarray .int, 9, 0)) rfl) (tdec tX3_init_ok 5 (q := (9, .putfield 9, 12, 0)) rfl) (fun q0 => ?_)
  refine Wd.int0 F (k := 1) (idx := 15) tyX3 tyX3_ok nmX3 (by decide +kernel) rfl (by decide) (by decide +kernel) rfl (by decide +kernel) (Nat.le_of_ble_eq_true rfl) List.mem_cons_self (tdec tX3_init_ok 6 (q := (12, .aload_n 0, 13, 0)) rfl) (tdec tX3_init_ok 7 (q := (13, .iconst 0, 14, 0)) rfl) (tdec tX3_init_ok 8 (q := (14, .putfield 15, 17, 0)) rfl) ?_
  exact ret (tdec tX3_init_ok 9 (q := (17, .return_, 18, 0)) rfl) ⟨q0, rfl⟩
def LV : Lay := [.inl (5, [.inl 1, .inl 2, .inl 3, .inl 4, .inl 5, .inr true, .inl 6, .inl 7]), .inr (0, 32), .inr (0, 32), .inr (0, 32), .inr (0, 32), .inr (0, 288), .inr (0, 120), .inr (0, 32)]
theorem LV_ok : layOk LV := layOk_of (by decide +kernel)
theorem c_fillV {ad : Nat → Nat} {v : Int} (hv : inR v) {σ : St} (hr : rng σ) : Cv l yJ7_fill_53178 wsJ7_fill_53178 (rh 0) D cA ad LV [.inl 5, .inr v] σ (fun τ => rng τ ∧ eqx [5] σ τ ∧ ∀ i, i < 288 → τ 5 i = v) := by
  refine Cv.walk [] [] [] (by decide) rfl LV_ok tJ7_fill_53178_ok flOk_0 plOk_0 klOk_0 (Nat.le_of_ble_eq_true rfl) (fun V M ret => ?_)
  have loop : ∀ (d i : Nat) (τ : St), i + d = 288 → rng τ → eqx [5] σ τ → (∀ j, j < i → τ 5 j = v) → V (5, [(0, .inl 5), (1, .inr v), (2, .inr (i : Int)), (3, .inr 288)], [], τ) := by
    intro d
    induction d with
    | zero =>
      intro i τ hi hrt hx hw
      refine M.1 [20] 60 _ ?_
      exact ⟨⟨by unfold inR; omega, by constructor <;> decide⟩, fun c1 => ret rfl ⟨hrt, hx, fun j hj => hw j (by omega)⟩, fun c1 => absurd c1 (by omega)⟩
    | succ d ih =>
      intro i τ hi hrt hx hw
      refine M.1 [5] 60 _ ?_
      refine ⟨⟨by unfold inR; omega, by constructor <;> decide⟩, fun c1 => absurd c1 (by omega), fun c1 => ?_⟩
      refine ⟨⟨by omega, by omega⟩, ?_⟩
      rw [Int.toNat_natCast]
      refine ih (i + 1) _ (by omega) (rng_stu hrt hv _ _) (eqx_stu hx (by decide) _ _) (fun j hj => ?_)
      by_cases e : j = i
      · rw [e, stu_s]
      · rw [stu_i _ _ _ e]
        exact hw j (by omega)
  refine M.1 [5] 60 _ ?_
  exact loop 288 0 σ rfl hr eqx_rfl (fun j hj => absurd hj (by omega))
theorem fX4_init_ok : flOk RX4 wsX4_init [(24, 5, 4)] := flOk_c RX4 TX4 8 rfl (by decide) (by decide +kernel) (by decide +kernel) flOk_0
theorem oX4_init_fill : okS { frames := 1, cells := 7, slots := 568, locals := 40 } RX4 wsX4_init 37 yJ7_fill_53178 wsJ7_fill_53178 (rh 0) 2 := ⟨_, _, _, _, gX4_init_J7_fill_53178, rfl, rfl, rfl, by decide +kernel, by decide⟩
set_option maxHeartbeats 1000000 in
set_option maxRecDepth 20000 in
theorem c_X4_init : Ck l yX4_init wsX4_init { frames := 1, cells := 7, slots := 568, locals := 40 } D cA h0 [(h0, .inr (5, [.null, .null, .null, .null, .null, .int (zI 0), .null, .null]))] (fun w => ∃ (q0 q1 q2 q3 q4 q5 q6 : Nat) (τ : St), w = wL cA (fun i => ([h0, q0, q1, q2, q3, q4, q5, q6] : List Nat).getD i 0) τ 0 LV ∧ rng τ ∧ (∀ j, j ≠ 5 → τ j = fun _ => 0) ∧ ∀ i, i < 288 → τ 5 i = -10) 7 568 := by
  refine Ck.of (by decide) rfl (by decide) rfl (fun p e s m args below meth c A F hin ret => ?_)
  refine Wd.obj F (idx := 3) (by decide +kernel) (by decide +kernel) (by decide +kernel) List.mem_cons_self (tdec tX4_init_ok 0 (q := (0, .aload_n 0, 1, 0)) rfl) (tdec tX4_init_ok 1 (q := (1, .invokespecial 3, 4, 0)) rfl) (by decide) (by decide) ?_
  refine Wd.arr F hin (k := 0) (n := 32) (t := 0) (ar := .int) (idx := 9) tyX4 tyX4_ok nmX4 (by decide +kernel) rfl (by decide) (by decide +kernel) rfl rfl (by decide +kernel) (by decide +kernel) rfl (fun C h => by cases h) (fun c' => arr0i c' 32) (Nat.le_of_ble_eq_true rfl) (Nat.le_of_ble_eq_true rfl) (Nat.le_of_ble_eq_true rfl) (Nat.le_of_ble_eq_true rfl) (Nat.le_of_ble_eq_true rfl) List.mem_cons_self (tdec tX4_init_ok 2 (q := (4, .aload_n 0, 5, 0)) rfl) (push_b F (tdec tX4_init_ok 3 (q := (5, .bipush 32, 7, 0)) rfl) (by decide) (by decide)) (tdec tX4_init_ok 4 (q := (7, .newarray .int, 9, 0)) rfl) (tdec tX4_init_ok 5 (q := (9, .putfield 9, 12, 0)) rfl) (fun q0 => ?_)
  refine Wd.arr F hin (k := 1) (n := 32) (t := 0) (ar := .int) (idx := 15) tyX4 tyX4_ok nmX4 (by decide +kernel) rfl (by decide) (by decide +kernel) rfl rfl (by decide +kernel) (by decide +kernel) rfl (fun C h => by cases h) (fun c' => arr0i c' 32) (Nat.le_of_ble_eq_true rfl) (Nat.le_of_ble_eq_true rfl) (Nat.le_of_ble_eq_true rfl) (Nat.le_of_ble_eq_true rfl) (Nat.le_of_ble_eq_true rfl) List.mem_cons_self (tdec tX4_init_ok 6 (q := (12, .aload_n 0, 13, 0)) rfl) (push_b F (tdec tX4_init_ok 7 (q := (13, .bipush 32, 15, 0)) rfl) (by decide) (by decide)) (tdec tX4_init_ok 8 (q := (15, .newarray .int, 17, 0)) rfl) (tdec tX4_init_ok 9 (q := (17, .putfield 15, 20, 0)) rfl) (fun q1 => ?_)
  refine Wd.arr F hin (k := 2) (n := 32) (t := 0) (ar := .int) (idx := 18) tyX4 tyX4_ok nmX4 (by decide +kernel) rfl (by decide) (by decide +kernel) rfl rfl (by decide +kernel) (by decide +kernel) rfl (fun C h => by cases h) (fun c' => arr0i c' 32) (Nat.le_of_ble_eq_true rfl) (Nat.le_of_ble_eq_true rfl) (Nat.le_of_ble_eq_true rfl) (Nat.le_of_ble_eq_true rfl) (Nat.le_of_ble_eq_true rfl) List.mem_cons_self (tdec tX4_init_ok 10 (q := (20, .aload_n 0, 21, 0)) rfl) (push_b F (tdec tX4_init_ok 11 (q := (21, .bipush 32, 23, 0)) rfl) (by decide) (by decide)) (tdec tX4_init_ok 12 (q := (23, .newarray .int, 25, 0)) rfl) (tdec tX4_init_ok 13 (q := (25, .putfield 18, 28, 0)) rfl) (fun q2 => ?_)
  refine Wd.arr F hin (k := 3) (n := 32) (t := 0) (ar := .int) (idx := 21) tyX4 tyX4_ok nmX4 (by decide +kernel) rfl (by decide) (by decide +kernel) rfl rfl (by decide +kernel) (by decide +kernel) rfl (fun C h => by cases h) (fun c' => arr0i c' 32) (Nat.le_of_ble_eq_true rfl) (Nat.le_of_ble_eq_true rfl) (Nat.le_of_ble_eq_true rfl) (Nat.le_of_ble_eq_true rfl) (Nat.le_of_ble_eq_true rfl) List.mem_cons_self (tdec tX4_init_ok 14 (q := (28, .aload_n 0, 29, 0)) rfl) (push_b F (tdec tX4_init_ok 15 (q := (29, .bipush 32, 31, 0)) rfl) (by decide) (by decide)) (tdec tX4_init_ok 16 (q := (31, .newarray .int, 33, 0)) rfl) (tdec tX4_init_ok 17 (q := (33, .putfield 21, 36, 0)) rfl) (fun q3 => ?_)
  refine Wd.arr F hin (k := 4) (n := 288) (t := 0) (ar := .int) (idx := 24) tyX4 tyX4_ok nmX4 (by decide +kernel) rfl (by decide) (by decide +kernel) rfl rfl (by decide +kernel) (by decide +kernel) rfl (fun C h => by cases h) (fun c' => arr0i c' 288) (Nat.le_of_ble_eq_true rfl) (Nat.le_of_ble_eq_true rfl) (Nat.le_of_ble_eq_true rfl) (Nat.le_of_ble_eq_true rfl) (Nat.le_of_ble_eq_true rfl) List.mem_cons_self (tdec tX4_init_ok 18 (q := (36, .aload_n 0, 37, 0)) rfl) (push_s F (tdec tX4_init_ok 19 (q := (37, .sipush 288, 40, 0)) rfl) (by decide) (by decide)) (tdec tX4_init_ok 20 (q := (40, .newarray .int, 42, 0)) rfl) (tdec tX4_init_ok 21 (q := (42, .putfield 24, 45, 0)) rfl) (fun q4 => ?_)
  refine Wd.int0 F (k := 5) (idx := 27) tyX4 tyX4_ok nmX4 (by decide +kernel) rfl (by decide) (by decide +kernel) rfl (by decide +kernel) (Nat.le_of_ble_eq_true rfl) List.mem_cons_self (tdec tX4_init_ok 22 (q := (45, .aload_n 0, 46, 0)) rfl) (tdec tX4_init_ok 23 (q := (46, .iconst 0, 47, 0)) rfl) (tdec tX4_init_ok 24 (q := (47, .putfield 27, 50, 0)) rfl) ?_
  refine Wd.arr F hin (k := 6) (n := 120) (t := 0) (ar := .int) (idx := 31) tyX4 tyX4_ok nmX4 (by decide +kernel) rfl (by decide) (by decide +kernel) rfl rfl (by decide +kernel) (by decide +kernel) rfl (fun C h => by cases h) (fun c' => arr0i c' 120) (Nat.le_of_ble_eq_true rfl) (Nat.le_of_ble_eq_true rfl) (Nat.le_of_ble_eq_true rfl) (Nat.le_of_ble_eq_true rfl) (Nat.le_of_ble_eq_true rfl) List.mem_cons_self (tdec tX4_init_ok 25 (q := (50, .aload_n 0, 51, 0)) rfl) (push_b F (tdec tX4_init_ok 26 (q := (51, .bipush 120, 53, 0)) rfl) (by decide) (by decide)) (tdec tX4_init_ok 27 (q := (53, .newarray .int, 55, 0)) rfl) (tdec tX4_init_ok 28 (q := (55, .putfield 31, 58, 0)) rfl) (fun q5 => ?_)
  refine Wd.arr F hin (k := 7) (n := 32) (t := 0) (ar := .int) (idx := 34) tyX4 tyX4_ok nmX4 (by decide +kernel) rfl (by decide) (by decide +kernel) rfl rfl (by decide +kernel) (by decide +kernel) rfl (fun C h => by cases h) (fun c' => arr0i c' 32) (Nat.le_of_ble_eq_true rfl) (Nat.le_of_ble_eq_true rfl) (Nat.le_of_ble_eq_true rfl) (Nat.le_of_ble_eq_true rfl) (Nat.le_of_ble_eq_true rfl) List.mem_cons_self (tdec tX4_init_ok 29 (q := (58, .aload_n 0, 59, 0)) rfl) (push_b F (tdec tX4_init_ok 30 (q := (59, .bipush 32, 61, 0)) rfl) (by decide) (by decide)) (tdec tX4_init_ok 31 (q := (61, .newarray .int, 63, 0)) rfl) (tdec tX4_init_ok 32 (q := (63, .putfield 34, 66, 0)) rfl) (fun q6 => ?_)
  have M := Mach.of (l := l) (e := e) (R := { frames := 1, cells := 7, slots := 568, locals := 40 }) (below := below) (meth := meth) (cells := 7) (slots := 568) (Q := MQ below (va_Qv (fun w => ∃ (q0 q1 q2 q3 q4 q5 q6 : Nat) (τ : St), w = wL cA (fun i => ([h0, q0, q1, q2, q3, q4, q5, q6] : List Nat).getD i 0) τ 0 LV ∧ rng τ ∧ (∀ j, j ≠ 5 → τ j = fun _ => 0) ∧ ∀ i, i < 288 → τ 5 i = -10) (fun (u : va_W) (t : State) => va_P D vwCl u t.heap ∧ va_D A u) A) args s 7 568 A) (ad := fun i => ([h0, q0, q1, q2, q3, q4, q5, q6] : List Nat).getD i 0) F LV_ok tX4_init_ok fX4_init_ok plOk_0 klOk_0 ⟨Nat.le_refl _, Nat.le_refl _⟩
  have key := M.1 [72] 60 (66, [(0, .inl 0)], [], fun _ _ => 0) (by
    refine M.2.2.2.2.1 (vs := [.inl 5, .inr (-10)]) (rest := []) rfl oX4_init_fill (Nat.le_of_ble_eq_true rfl) rfl (c_fillV (by constructor <;> decide) (fun _ _ => inR_0)) (fun τ hp => ?_)
    obtain ⟨p1, p2, p3⟩ := hp
    exact ret (tdec tX4_init_ok 37 (q := (75, .return_, 76, 0)) rfl) ⟨q0, q1, q2, q3, q4, q5, q6, τ, rfl, p1, fun j hj => p2 j (by simpa using hj), p3⟩)
  exact key
theorem fX6_init_ok : flOk RX6 wsX6_init [(28, 7, 9)] := flOk_c RX6 TX6 17 rfl (by decide) (by decide +kernel) (by decide +kernel) flOk_0
set_option maxHeartbeats 1000000 in
set_option maxRecDepth 20000 in
theorem c_X6_init : Ck l yX6_init wsX6_init { frames := 1, cells := 13, slots := 19499, locals := 40 } D cA h0 [(h0, .inr (7, [.int (zI 0), .int (zI 0), .null, .int (zI 0), .null, .null, .null, .null, .null, .null, .int (zI 0), .null, .null, .null, .null, .null, .null]))] (fun w => ∃ (q0 q1 q2 q3 q4 q5 q6 q7 q8 q9 q10 q11 q12 : Nat) (τ : St), w = wL cA (fun i => ([h0, q0, q1, q2, q3, q4, q5, q6, q7, q8, q9, q10, q11, q12] : List Nat).getD i 0) τ 0 LM ∧ rng τ ∧ (∀ j, j ≠ 7 → τ j = fun _ => 0) ∧ ∀ i, i < 256 → τ 7 i = -10) 13 19499 := by
  refine Ck.of (by decide) rfl (by decide) rfl (fun p e s m args below meth c A F hin ret => ?_)
  refine Wd.obj F (idx := 1) (by decide +kernel) (by decide +kernel) (by decide +kernel) List.mem_cons_self (tdec tX6_init_ok 0 (q := (0, .aload_n 0, 1, 0)) rfl) (tdec tX6_init_ok 1 (q := (1, .invokespecial 1, 4, 0)) rfl) (by decide) (by decide) ?_
  refine Wd.arr F hin (k := 2) (n := 120) (t := 0) (ar := .int) (idx := 7) tyX6 tyX6_ok nmX6 (by decide +kernel) rfl (by decide) (by decide +kernel) rfl rfl (by decide +kernel) (by decide +kernel) rfl (fun C h => by cases h) (fun c' => arr0i c' 120) (Nat.le_of_ble_eq_true rfl) (Nat.le_of_ble_eq_true rfl) (Nat.le_of_ble_eq_true rfl) (Nat.le_of_ble_eq_true rfl) (Nat.le_of_ble_eq_true rfl) List.mem_cons_self (tdec tX6_init_ok 2 (q := (4, .aload_n 0, 5, 0)) rfl) (push_b F (tdec tX6_init_ok 3 (q := (5, .bipush 120, 7, 0)) rfl) (by decide) (by decide)) (tdec tX6_init_ok 4 (q := (7, .newarray .int, 9, 0)) rfl) (tdec tX6_init_ok 5 (q := (9, .putfield 7, 12, 0)) rfl) (fun q0 => ?_)
  refine Wd.arr F hin (k := 4) (n := 32) (t := 0) (ar := .int) (idx := 13) tyX6 tyX6_ok nmX6 (by decide +kernel) rfl (by decide) (by decide +kernel) rfl rfl (by decide +kernel) (by decide +kernel) rfl (fun C h => by cases h) (fun c' => arr0i c' 32) (Nat.le_of_ble_eq_true rfl) (Nat.le_of_ble_eq_true rfl) (Nat.le_of_ble_eq_true rfl) (Nat.le_of_ble_eq_true rfl) (Nat.le_of_ble_eq_true rfl) List.mem_cons_self (tdec tX6_init_ok 6 (q := (12, .aload_n 0, 13, 0)) rfl) (push_b F (tdec tX6_init_ok 7 (q := (13, .bipush 32, 15, 0)) rfl) (by decide) (by decide)) (tdec tX6_init_ok 8 (q := (15, .newarray .int, 17, 0)) rfl) (tdec tX6_init_ok 9 (q := (17, .putfield 13, 20, 0)) rfl) (fun q1 => ?_)
  refine Wd.arr F hin (k := 5) (n := 32) (t := 0) (ar := .int) (idx := 16) tyX6 tyX6_ok nmX6 (by decide +kernel) rfl (by decide) (by decide +kernel) rfl rfl (by decide +kernel) (by decide +kernel) rfl (fun C h => by cases h) (fun c' => arr0i c' 32) (Nat.le_of_ble_eq_true rfl) (Nat.le_of_ble_eq_true rfl) (Nat.le_of_ble_eq_true rfl) (Nat.le_of_ble_eq_true rfl) (Nat.le_of_ble_eq_true rfl) List.mem_cons_self (tdec tX6_init_ok 10 (q := (20, .aload_n 0, 21, 0)) rfl) (push_b F (tdec tX6_init_ok 11 (q := (21, .bipush 32, 23, 0)) rfl) (by decide) (by decide)) (tdec tX6_init_ok 12 (q := (23, .newarray .int, 25, 0)) rfl) (tdec tX6_init_ok 13 (q := (25, .putfield 16, 28, 0)) rfl) (fun q2 => ?_)
  refine Wd.arr F hin (k := 6) (n := 32) (t := 0) (ar := .int) (idx := 19) tyX6 tyX6_ok nmX6 (by decide +kernel) rfl (by decide) (by decide +kernel) rfl rfl (by decide +kernel) (by decide +kernel) rfl (fun C h => by cases h) (fun c' => arr0i c' 32) (Nat.le_of_ble_eq_true rfl) (Nat.le_of_ble_eq_true rfl) (Nat.le_of_ble_eq_true rfl) (Nat.le_of_ble_eq_true rfl) (Nat.le_of_ble_eq_true rfl) List.mem_cons_self (tdec tX6_init_ok 14 (q := (28, .aload_n 0, 29, 0)) rfl) (push_b F (tdec tX6_init_ok 15 (q := (29, .bipush 32, 31, 0)) rfl) (by decide) (by decide)) (tdec tX6_init_ok 16 (q := (31, .newarray .int, 33, 0)) rfl) (tdec tX6_init_ok 17 (q := (33, .putfield 19, 36, 0)) rfl) (fun q3 => ?_)
  refine Wd.arr F hin (k := 7) (n := 32) (t := 0) (ar := .int) (idx := 22) tyX6 tyX6_ok nmX6 (by decide +kernel) rfl (by decide) (by decide +kernel) rfl rfl (by decide +kernel) (by decide +kernel) rfl (fun C h => by cases h) (fun c' => arr0i c' 32) (Nat.le_of_ble_eq_true rfl) (Nat.le_of_ble_eq_true rfl) (Nat.le_of_ble_eq_true rfl) (Nat.le_of_ble_eq_true rfl) (Nat.le_of_ble_eq_true rfl) List.mem_cons_self (tdec tX6_init_ok 18 (q := (36, .aload_n 0, 37, 0)) rfl) (push_b F (tdec tX6_init_ok 19 (q := (37, .bipush 32, 39, 0)) rfl) (by decide) (by decide)) (tdec tX6_init_ok 20 (q := (39, .newarray .int, 41, 0)) rfl) (tdec tX6_init_ok 21 (q := (41, .putfield 22, 44, 0)) rfl) (fun q4 => ?_)
  refine Wd.arr F hin (k := 8) (n := 3840) (t := 0) (ar := .int) (idx := 25) tyX6 tyX6_ok nmX6 (by decide +kernel) rfl (by decide) (by decide +kernel) rfl rfl (by decide +kernel) (by decide +kernel) rfl (fun C h => by cases h) (fun c' => arr0i c' 3840) (Nat.le_of_ble_eq_true rfl) (Nat.le_of_ble_eq_true rfl) (Nat.le_of_ble_eq_true rfl) (Nat.le_of_ble_eq_true rfl) (Nat.le_of_ble_eq_true rfl) List.mem_cons_self (tdec tX6_init_ok 22 (q := (44, .aload_n 0, 45, 0)) rfl) (push_s F (tdec tX6_init_ok 23 (q := (45, .sipush 3840, 48, 0)) rfl) (by decide) (by decide)) (tdec tX6_init_ok 24 (q := (48, .newarray .int, 50, 0)) rfl) (tdec tX6_init_ok 25 (q := (50, .putfield 25, 53, 0)) rfl) (fun q5 => ?_)
  refine Wd.arr F hin (k := 9) (n := 288) (t := 0) (ar := .int) (idx := 28) tyX6 tyX6_ok nmX6 (by decide +kernel) rfl (by decide) (by decide +kernel) rfl rfl (by decide +kernel) (by decide +kernel) rfl (fun C h => by cases h) (fun c' => arr0i c' 288) (Nat.le_of_ble_eq_true rfl) (Nat.le_of_ble_eq_true rfl) (Nat.le_of_ble_eq_true rfl) (Nat.le_of_ble_eq_true rfl) (Nat.le_of_ble_eq_true rfl) List.mem_cons_self (tdec tX6_init_ok 26 (q := (53, .aload_n 0, 54, 0)) rfl) (push_s F (tdec tX6_init_ok 27 (q := (54, .sipush 288, 57, 0)) rfl) (by decide) (by decide)) (tdec tX6_init_ok 28 (q := (57, .newarray .int, 59, 0)) rfl) (tdec tX6_init_ok 29 (q := (59, .putfield 28, 62, 0)) rfl) (fun q6 => ?_)
  refine Wd.arr F hin (k := 11) (n := 120) (t := 0) (ar := .int) (idx := 31) tyX6 tyX6_ok nmX6 (by decide +kernel) rfl (by decide) (by decide +kernel) rfl rfl (by decide +kernel) (by decide +kernel) rfl (fun C h => by cases h) (fun c' => arr0i c' 120) (Nat.le_of_ble_eq_true rfl) (Nat.le_of_ble_eq_true rfl) (Nat.le_of_ble_eq_true rfl) (Nat.le_of_ble_eq_true rfl) (Nat.le_of_ble_eq_true rfl) List.mem_cons_self (tdec tX6_init_ok 30 (q := (62, .aload_n 0, 63, 0)) rfl) (push_b F (tdec tX6_init_ok 31 (q := (63, .bipush 120, 65, 0)) rfl) (by decide) (by decide)) (tdec tX6_init_ok 32 (q := (65, .newarray .int, 67, 0)) rfl) (tdec tX6_init_ok 33 (q := (67, .putfield 31, 70, 0)) rfl) (fun q7 => ?_)
  refine Wd.arr F hin (k := 12) (n := 120) (t := 0) (ar := .int) (idx := 34) tyX6 tyX6_ok nmX6 (by decide +kernel) rfl (by decide) (by decide +kernel) rfl rfl (by decide +kernel) (by decide +kernel) rfl (fun C h => by cases h) (fun c' => arr0i c' 120) (Nat.le_of_ble_eq_true rfl) (Nat.le_of_ble_eq_true rfl) (Nat.le_of_ble_eq_true rfl) (Nat.le_of_ble_eq_true rfl) (Nat.le_of_ble_eq_true rfl) List.mem_cons_self (tdec tX6_init_ok 34 (q := (70, .aload_n 0, 71, 0)) rfl) (push_b F (tdec tX6_init_ok 35 (q := (71, .bipush 120, 73, 0)) rfl) (by decide) (by decide)) (tdec tX6_init_ok 36 (q := (73, .newarray .int, 75, 0)) rfl) (tdec tX6_init_ok 37 (q := (75, .putfield 34, 78, 0)) rfl) (fun q8 => ?_)
  refine Wd.arr F hin (k := 13) (n := 121) (t := 0) (ar := .int) (idx := 37) tyX6 tyX6_ok nmX6 (by decide +kernel) rfl (by decide) (by decide +kernel) rfl rfl (by decide +kernel) (by decide +kernel) rfl (fun C h => by cases h) (fun c' => arr0i c' 121) (Nat.le_of_ble_eq_true rfl) (Nat.le_of_ble_eq_true rfl) (Nat.le_of_ble_eq_true rfl) (Nat.le_of_ble_eq_true rfl) (Nat.le_of_ble_eq_true rfl) List.mem_cons_self (tdec tX6_init_ok 38 (q := (78, .aload_n 0, 79, 0)) rfl) (push_b F (tdec tX6_init_ok 39 (q := (79, .bipush 121, 81, 0)) rfl) (by decide) (by decide)) (tdec tX6_init_ok 40 (q := (81, .newarray .int, 83, 0)) rfl) (tdec tX6_init_ok 41 (q := (83, .putfield 37, 86, 0)) rfl) (fun q9 => ?_)
  refine Wd.arr F hin (k := 14) (n := 121) (t := 0) (ar := .int) (idx := 40) tyX6 tyX6_ok nmX6 (by decide +kernel) rfl (by decide) (by decide +kernel) rfl rfl (by decide +kernel) (by decide +kernel) rfl (fun C h => by cases h) (fun c' => arr0i c' 121) (Nat.le_of_ble_eq_true rfl) (Nat.le_of_ble_eq_true rfl) (Nat.le_of_ble_eq_true rfl) (Nat.le_of_ble_eq_true rfl) (Nat.le_of_ble_eq_true rfl) List.mem_cons_self (tdec tX6_init_ok 42 (q := (86, .aload_n 0, 87, 0)) rfl) (push_b F (tdec tX6_init_ok 43 (q := (87, .bipush 121, 89, 0)) rfl) (by decide) (by decide)) (tdec tX6_init_ok 44 (q := (89, .newarray .int, 91, 0)) rfl) (tdec tX6_init_ok 45 (q := (91, .putfield 40, 94, 0)) rfl) (fun q10 => ?_)
  refine Wd.arr F hin (k := 15) (n := 14520) (t := 0) (ar := .int) (idx := 43) tyX6 tyX6_ok nmX6 (by decide +kernel) rfl (by decide) (by decide +kernel) rfl rfl (by decide +kernel) (by decide +kernel) rfl (fun C h => by cases h) (fun c' => arr0i c' 14520) (Nat.le_of_ble_eq_true rfl) (Nat.le_of_ble_eq_true rfl) (Nat.le_of_ble_eq_true rfl) (Nat.le_of_ble_eq_true rfl) (Nat.le_of_ble_eq_true rfl) List.mem_cons_self (tdec tX6_init_ok 46 (q := (94, .aload_n 0, 95, 0)) rfl) (push_s F (tdec tX6_init_ok 47 (q := (95, .sipush 14520, 98, 0)) rfl) (by decide) (by decide)) (tdec tX6_init_ok 48 (q := (98, .newarray .int, 100, 0)) rfl) (tdec tX6_init_ok 49 (q := (100, .putfield 43, 103, 0)) rfl) (fun q11 => ?_)
  refine Wd.arr F hin (k := 16) (n := 121) (t := 0) (ar := .int) (idx := 46) tyX6 tyX6_ok nmX6 (by decide +kernel) rfl (by decide) (by decide +kernel) rfl rfl (by decide +kernel) (by decide +kernel) rfl (fun C h => by cases h) (fun c' => arr0i c' 121) (Nat.le_of_ble_eq_true rfl) (Nat.le_of_ble_eq_true rfl) (Nat.le_of_ble_eq_true rfl) (Nat.le_of_ble_eq_true rfl) (Nat.le_of_ble_eq_true rfl) List.mem_cons_self (tdec tX6_init_ok 50 (q := (103, .aload_n 0, 104, 0)) rfl) (push_b F (tdec tX6_init_ok 51 (q := (104, .bipush 121, 106, 0)) rfl) (by decide) (by decide)) (tdec tX6_init_ok 52 (q := (106, .newarray .int, 108, 0)) rfl) (tdec tX6_init_ok 53 (q := (108, .putfield 46, 111, 0)) rfl) (fun q12 => ?_)
  have M := Mach.of (l := l) (e := e) (R := { frames := 1, cells := 13, slots := 19499, locals := 40 }) (below := below) (meth := meth) (cells := 13) (slots := 19499) (Q := MQ below (va_Qv (fun w => ∃ (q0 q1 q2 q3 q4 q5 q6 q7 q8 q9 q10 q11 q12 : Nat) (τ : St), w = wL cA (fun i => ([h0, q0, q1, q2, q3, q4, q5, q6, q7, q8, q9, q10, q11, q12] : List Nat).getD i 0) τ 0 LM ∧ rng τ ∧ (∀ j, j ≠ 7 → τ j = fun _ => 0) ∧ ∀ i, i < 256 → τ 7 i = -10) (fun (u : va_W) (t : State) => va_P D vwCl u t.heap ∧ va_D A u) A) args s 13 19499 A) (ad := fun i => ([h0, q0, q1, q2, q3, q4, q5, q6, q7, q8, q9, q10, q11, q12] : List Nat).getD i 0) F LM_ok tX6_init_ok fX6_init_ok plOk_0 klOk_0 ⟨Nat.le_refl _, Nat.le_refl _⟩
  have loop : ∀ (d i : Nat) (τ : St), i + d = 256 → rng τ → eqx [7] (fun _ _ => 0) τ → (∀ j, j < i → τ 7 j = -10) → Va p l e { frames := 1, cells := 13, slots := 19499, locals := 40 } s m args below meth c 13 19499 (MQ below (va_Qv (fun w => ∃ (q0 q1 q2 q3 q4 q5 q6 q7 q8 q9 q10 q11 q12 : Nat) (τ : St), w = wL cA (fun i => ([h0, q0, q1, q2, q3, q4, q5, q6, q7, q8, q9, q10, q11, q12] : List Nat).getD i 0) τ 0 LM ∧ rng τ ∧ (∀ j, j ≠ 7 → τ j = fun _ => 0) ∧ ∀ i, i < 256 → τ 7 i = -10) (fun (u : va_W) (t : State) => va_P D vwCl u t.heap ∧ va_D A u) A) args s 13 19499 A) D cA (fun i => ([h0, q0, q1, q2, q3, q4, q5, q6, q7, q8, q9, q10, q11, q12] : List Nat).getD i 0) LM 2 A (113, [(0, .inl 0), (1, .inr (i : Int))], [], τ) := by
    intro d
    induction d with
    | zero =>
      intro i τ hi hr hx hw
      refine M.1 [134] 60 _ ?_
      refine ⟨⟨by unfold inR; omega, by constructor <;> decide⟩, fun c1 => ?_, fun c1 => absurd c1 (by omega)⟩
      exact ret (tdec tX6_init_ok 66 (q := (134, .return_, 135, 0)) rfl) ⟨q0, q1, q2, q3, q4, q5, q6, q7, q8, q9, q10, q11, q12, τ, rfl, hr, fun j hj => hx j (by simpa using hj), fun j hj => hw j (by omega)⟩
    | succ d ih =>
      intro i τ hi hr hx hw
      refine M.1 [113] 60 _ ?_
      refine ⟨⟨by unfold inR; omega, by constructor <;> decide⟩, fun c1 => absurd c1 (by omega), fun c1 => ?_⟩
      refine ⟨⟨by omega, by omega⟩, ?_⟩
      rw [Int.toNat_natCast]
      refine ih (i + 1) _ (by omega) (rng_stu hr (by constructor <;> decide) _ _) (eqx_stu hx (by decide) _ _) (fun j hj => ?_)
      by_cases e : j = i
      · rw [e, stu_s]
      · rw [stu_i _ _ _ e]
        exact hw j (by omega)
  have key := M.1 [113] 60 (111, [(0, .inl 0)], [], fun _ _ => 0) (by
    exact loop 256 0 (fun _ _ => 0) rfl (fun _ _ => inR_0) eqx_rfl (fun j hj => absurd hj (by omega)))
  exact key
end Ctors
end
section
theorem wd_join {D : va_G} {cl : List vw_C} {A : Nat → Prop} {base u : va_W} {q : Nat} {x : va_E} {H H1 : Heap} (hP : va_P D cl (base ++ [(q, x)]) H) (hD : va_D A (base ++ [(q, x)])) (hk : ∀ y : Nat, y < H.size → ¬ va_A [(q, x)] H.size y → H1[y]? = H[y]?) (hF : ∀ y, va_A [(q, x)] H.size y → A y) (hP1 : va_P D cl u H1) (hD1 : va_D (va_A [(q, x)] H.size) u) : va_P D cl (base ++ u) H1 ∧ va_D A (base ++ u) := by
  have hlt : ∀ (k : Nat) (z : Nat × va_E), base[k]? = some z → z.1 < H.size ∧ z.1 ≠ q := by
    intro k z hz
    have hkl := (List.getElem?_eq_some_iff.mp hz).1
    have h1 : (base ++ [(q, x)])[k]? = some z := by rw [List.getElem?_append_left hkl]; exact hz
    refine ⟨(hP k z h1).lt, fun e => ?_⟩
    have h2 : (base ++ [(q, x)])[base.length]? = some (q, x) := by simp
    have := hD.1 k base.length z (q, x) h1 h2 e
    omega
  have hnot : ∀ (k : Nat) (z : Nat × va_E), base[k]? = some z → ¬ va_A [(q, x)] H.size z.1 := by
    rintro k z hz (⟨j, y, hj⟩ | h)
    · cases j with
      | zero =>
        have hj : (q, x) = (z.1, y) := by simpa using hj
        exact (hlt k z hz).2 (congrArg Prod.fst hj).symm
      | succ j => simp at hj
    · have := (hlt k z hz).1
      omega
  have hPb : va_P D cl base H1 := fun k z hz => by
    have hkl := (List.getElem?_eq_some_iff.mp hz).1
    have h1 : (base ++ [(q, x)])[k]? = some z := by rw [List.getElem?_append_left hkl]; exact hz
    exact (hP k z h1).kept (hk z.1 (hlt k z hz).1 (hnot k z hz))
  have hDb : va_D A base := by
    refine ⟨fun i j a b ha hb e => ?_, fun k z hz => ?_⟩
    · have hi := (List.getElem?_eq_some_iff.mp ha).1
      have hj := (List.getElem?_eq_some_iff.mp hb).1
      exact hD.1 i j a b (by rw [List.getElem?_append_left hi]; exact ha) (by rw [List.getElem?_append_left hj]; exact hb) e
    · have hi := (List.getElem?_eq_some_iff.mp hz).1
      exact hD.2 k z (by rw [List.getElem?_append_left hi]; exact hz)
  refine ⟨hPb.app hP1, hDb.app (hD1.weaken (fun k z _ h => hF z.1 h)) (fun i j a b ha hb e => ?_)⟩
  have := hD1.2 j b hb
  rw [← e] at this
  exact hnot i a ha this
section Ctor5
variable {p : Program} {l : Launch} {e : Env} {R : Room} {s : State} {m : MethodId} {args : Array Value} {below : List Frame} {meth : Method} {c : Code} {cells slots : Nat} {Q : State → Prop} {D : va_G} {cA : Nat → ClassId} {nL : Nat} {A : Nat → Prop} {cc : ByteArray} {own : String} {Ts : List Cond} {pc : Nat} {lv : List (Nat × Value)} {wr : va_W}
theorem Wd.sub (F : Fx p s m args c cc nL own Ts D cA A) (hin2 : meth.name = "<init>") {C : String} {T : u_T} {N ci idx k : Nat} {fs : List Value} {h0 : Nat} (ty : Nat → FieldType) (hty : ∀ k, k < N → parseFieldDescriptor (T k).2.2.1 = some (ty k)) (hnm : ∀ a, a < N → ∀ b, b < N → a ≠ b → (T a).2.1 ≠ (T b).2.1) (hin : ∀ w ∈ u_ws C T N, w ∈ Ts) (hc : vwCl[ci]? = some (C, T, N)) (hk : k < N) (hlk : Cond.fieldLink own idx (T k).1 (T k).2.1 (T k).2.2.1 ∈ Ts) (hfin : (T k).2.2.2 = true) (hdecl : (T k).1 = own) {cn : String} (hdd : parseFieldDescriptor (T k).2.2.1 = some (.object cn)) (hkl : k < fs.length) (hlv : (0, Value.ref h0) ∈ lv)
    {C2 : String} {T2 : u_T} {N2 ci2 idxn idxi mc ms : Nat} {fs2 : List Value} {y : MethodName} {ws ws' : List Cond} {rm : Room} {bytes : ByteArray} {maxL : Nat} {post : Nat → va_W → Prop} (ty2 : Nat → FieldType) (hty2 : ∀ k, k < N2 → parseFieldDescriptor (T2 k).2.2.1 = some (ty2 k)) (hin_2 : ∀ w ∈ u_ws C2 T2 N2, w ∈ Ts) (hc2 : vwCl[ci2]? = some (C2, T2, N2)) (hcl : Cond.classLink own idxn C2 ∈ Ts) (hinst : Cond.instantiable C2 N2 ∈ Ts) (hini : Cond.initialized C2 ∈ Ts) (hfs : ∀ j, j < N2 → defaultValue (ty2 j) = vp_V fs2 j)
    (hM : ∀ q, Ck l y ws rm D cA q [(q, .inr (ci2, fs2))] (post q) mc ms) (hG : GoodIn Ts ws) (hw : ws = Cond.code y bytes maxL none :: ws') (hrc : rm.cells = mc) (hrs : rm.slots = ms) (hyc : y.cls = C2) (hml : Cond.methodLink own idxi y ∈ Ts) (hmi : Cond.instanceMethod y ∈ Ts) (hyn : y.name = "<init>") (hyd : y.cls ≠ "java/lang/invoke/MethodHandle" ∧ y.cls ≠ "java/lang/invoke/VarHandle" ∧ (parseMethodDescriptor y.desc).map (fun d => d.parameters.length) = some 0) (hR : rm.frames + 1 ≤ R.frames ∧ 8 + (maxL + 11) + rm.locals ≤ R.locals)
    (hcells : cells + 1 + mc ≤ R.cells) (hslots : slots + N2 + ms ≤ R.slots)
    (d0 : decode cc pc = .ok (.aload_n 0, 1)) (d1 : decode cc (pc + 1) = .ok (.new idxn, 3)) (d2 : decode cc (pc + 4) = .ok (.dup, 1)) (d3 : decode cc (pc + 5) = .ok (.invokespecial idxi, 3)) (d4 : decode cc (pc + 8) = .ok (.putfield idx, 3))
    (kk : ∀ (q : Nat) (u : va_W), post q u → Wd p l e R s m args below meth c (cells + 1 + mc) (slots + N2 + ms) Q D nL A (pc + 11) lv [] ((h0, .inr (ci, fs.set k (.ref q))) :: (wr ++ u))) : Wd p l e R s m args below meth c cells slots Q D nL A pc lv [] ((h0, .inr (ci, fs)) :: wr) := by
  intro H locs ls hP hD hS hl
  have ht := F.1.2.2.2.2
  refine lv_aload_n F.1.1 F.1.2.1 d0 rfl (hl.2.2 (0, Value.ref h0) hlv) ?_
  refine va_new F.1.1 F.1.2.1 ht hin_2 ty2 hty2 F.1.2.2.2.1 (ht _ hcl) (ht _ hinst) (ht _ hini) F.2.1 hP hD hS F.2.2 hc2 hfs (by omega) (by omega) d1 (fun q H1 hP1 hD1 hS1 => ?_)
  refine lv_dup F.1.1 F.1.2.1 d2 rfl ?_
  have hPc : va_P D vwCl [(q, .inr (ci2, fs2))] H1 := fun j z hz => hP1 (((h0, .inr (ci, fs)) :: wr).length + j) z (by rw [List.getElem?_append_right (by omega)]; simpa using hz)
  have hDc : va_D (fun _ => True) [(q, (.inr (ci2, fs2) : va_E))] := by
    refine ⟨fun i j a b ha hb _ => ?_, fun _ _ _ => trivial⟩
    have := (List.getElem?_eq_some_iff.mp ha).1
    have := (List.getElem?_eq_some_iff.mp hb).1
    simp at *
    omega
  have hFc : ∀ x, va_A [(q, .inr (ci2, fs2))] H1.size x → A x := by
    rintro x (⟨j, z, hj⟩ | h)
    · cases j with
      | zero =>
        have hj : (q, (.inr (ci2, fs2) : va_E)) = (x, z) := by simpa using hj
        have e9 : q = x := congrArg Prod.fst hj
        rw [← e9]
        exact hD1.2 ((h0, .inr (ci, fs)) :: wr).length (q, .inr (ci2, fs2)) (by rw [List.getElem?_append_right (Nat.le_refl _)]; simp)
      | succ j => simp at hj
    · exact F.2.2 x (Nat.le_trans hS1.1 h)
  refine va_callv (va_runI (As := []) (rest := [.ref q, .ref h0]) F.1 (hM q H1.size) (cwI 0 ht hG hw hrc hrs (ht _ (by rw [hyc]; exact hini)) (ht _ hml) (ht _ hmi) hyn hyd hR) ⟨fun a U g mk q => by obtain ⟨q0, q1, qP, qK, qD⟩ := q; exact ⟨q0, q1, qP, va_K.moved (u := U) (U := U.calling g mk a) (Vm.Alike.refl U.vm) qK, qD⟩, fun U hU hW => ⟨rfl, by rw [hU], by rw [hU]; exact hPc, va_K.moved hW.alike F.2.1, hDc⟩⟩ rfl rfl hl.1 rfl (lv_room (Nat.le_of_ble_eq_true rfl)) d3 ⟨hcells, hslots⟩) hS1 (fun x _ h => hFc x h) hFc (fun u t H2 locs2 ht2 hvm hp hB hz1 hk1 hS2 => ?_)
  obtain ⟨hPu, hDu⟩ := hB
  rw [ht2] at hPu
  obtain ⟨hP3, hD3⟩ := wd_join hP1 hD1 hk1 hFc hPu hDu
  refine va_putF F.1.1 F.1.2.1 ht hin ty hty hnm F.1.2.2.2.1 F.2.1 hP3 hD3 hS2 0 rfl hc k hk (ht _ hlk) (fun _ h9 => h9) hfin hin2 hdecl hdd rfl rfl hkl d4 (fun H4 locs4 hP4 hD4 hS4 => ?_)
  exact kk q u hp H4 locs4 ls hP4 hD4 hS4 hl
end Ctor5
theorem dfltX3 : ∀ j, j < 2 → defaultValue (tyX3 j) = vp_V [.null, .int (zI 0)] j := fun j hj => by
  rcases (show j = 0 ∨ j = 1 by omega) with rfl | rfl <;> first | rfl | (show Value.int 0 = Value.int (zI 0); rw [← zI_0])
theorem dfltX4 : ∀ j, j < 8 → defaultValue (tyX4 j) = vp_V [.null, .null, .null, .null, .null, .int (zI 0), .null, .null] j := fun j hj => by
  rcases (show j = 0 ∨ j = 1 ∨ j = 2 ∨ j = 3 ∨ j = 4 ∨ j = 5 ∨ j = 6 ∨ j = 7 by omega) with rfl | rfl | rfl | rfl | rfl | rfl | rfl | rfl <;> first | rfl | (show Value.int 0 = Value.int (zI 0); rw [← zI_0])
theorem dfltX2 : ∀ j, j < 4 → defaultValue (tyX2 j) = vp_V [.null, .null, .int (zI 0), .null] j := fun j hj => by
  rcases (show j = 0 ∨ j = 1 ∨ j = 2 ∨ j = 3 by omega) with rfl | rfl | rfl | rfl <;> first | rfl | (show Value.int 0 = Value.int (zI 0); rw [← zI_0])
theorem dfltX1 : ∀ j, j < 3 → defaultValue (tyX1 j) = vp_V [.null, .null, .null] j := fun j hj => by
  rcases (show j = 0 ∨ j = 1 ∨ j = 2 by omega) with rfl | rfl | rfl <;> first | rfl | (show Value.int 0 = Value.int (zI 0); rw [← zI_0])
theorem dfltX0 : ∀ j, j < 4 → defaultValue (tyX0 j) = vp_V [.null, .null, .null, .null] j := fun j hj => by
  rcases (show j = 0 ∨ j = 1 ∨ j = 2 ∨ j = 3 by omega) with rfl | rfl | rfl | rfl <;> first | rfl | (show Value.int 0 = Value.int (zI 0); rw [← zI_0])
set_option maxHeartbeats 2000000 in
set_option maxRecDepth 20000 in
theorem c_X5_init {l : Launch} {D : va_G} {cA : Nat → ClassId} {h0 : Nat} : Ck l yX5_init wsX5_init { frames := 2, cells := 23, slots := 2321, locals := 80 } D cA h0 [(h0, .inr (6, [.null, .null, .null, .null, .null]))] (fun w => ∃ (ad : Nat → Nat) (σ : St), w = wL cA ad σ 0 LC ∧ ad 0 = h0 ∧ rng σ ∧ σ 1 1 = 0 ∧ σ 2 5 = 0 ∧ ∀ i, i < 288 → σ 11 i = -10) 23 2321 := by
  refine Ck.of (by decide) rfl (by decide) rfl (fun p e s m args below meth c A F hin ret => ?_)
  refine Wd.obj F (idx := 1) (by decide +kernel) (by decide +kernel) (by decide +kernel) List.mem_cons_self (tdec tX5_init_ok 0 (q := (0, .aload_n 0, 1, 0)) rfl) (tdec tX5_init_ok 1 (q := (1, .invokespecial 1, 4, 0)) rfl) (by decide) (by decide) ?_
  refine Wd.sub F hin (k := 0) (idx := 10) (ci2 := 4) (fs2 := [.null, .int (zI 0)]) (idxn := 7) (idxi := 9) (mc := 1) (ms := 120) tyX5 tyX5_ok nmX5 (by decide +kernel) rfl (by decide) (by decide +kernel) rfl rfl (cn := "PairTokens$Text") (by decide +kernel) (Nat.le_of_ble_eq_true rfl) List.mem_cons_self tyX3 tyX3_ok (by decide +kernel) rfl (by decide +kernel) (by decide +kernel) (by decide +kernel) (dfltX3) (fun q => c_X3_init) gX5_init_X3_init rfl rfl rfl rfl (by decide +kernel) (by decide +kernel) rfl (by decide +kernel) (by decide) (Nat.le_of_ble_eq_true rfl) (Nat.le_of_ble_eq_true rfl) (tdec tX5_init_ok 2 (q := (4, .aload_n 0, 5, 0)) rfl) (tdec tX5_init_ok 3 (q := (5, .new 7, 8, 0)) rfl) (tdec tX5_init_ok 4 (q := (8, .dup, 9, 0)) rfl) (tdec tX5_init_ok 5 (q := (9, .invokespecial 9, 12, 0)) rfl) (tdec tX5_init_ok 6 (q := (12, .putfield 10, 15, 0)) rfl) (fun hT uX3 pX3 => ?_)
  obtain ⟨a0, rfl⟩ := pX3
  refine Wd.sub F hin (k := 1) (idx := 19) (ci2 := 5) (fs2 := [.null, .null, .null, .null, .null, .int (zI 0), .null, .null]) (idxn := 16) (idxi := 18) (mc := 7) (ms := 568) tyX5 tyX5_ok nmX5 (by decide +kernel) rfl (by decide) (by decide +kernel) rfl rfl (cn := "PairTokens$Vocabulary") (by decide +kernel) (Nat.le_of_ble_eq_true rfl) List.mem_cons_self tyX4 tyX4_ok (by decide +kernel) rfl (by decide +kernel) (by decide +kernel) (by decide +kernel) (dfltX4) (fun q => c_X4_init) gX5_init_X4_init rfl rfl rfl rfl (by decide +kernel) (by decide +kernel) rfl (by decide +kernel) (by decide) (Nat.le_of_ble_eq_true rfl) (Nat.le_of_ble_eq_true rfl) (tdec tX5_init_ok 7 (q := (15, .aload_n 0, 16, 0)) rfl) (tdec tX5_init_ok 8 (q := (16, .new 16, 19, 0)) rfl) (tdec tX5_init_ok 9 (q := (19, .dup, 20, 0)) rfl) (tdec tX5_init_ok 10 (q := (20, .invokespecial 18, 23, 0)) rfl) (tdec tX5_init_ok 11 (q := (23, .putfield 19, 26, 0)) rfl) (fun hV uX4 pX4 => ?_)
  obtain ⟨b0, b1, b2, b3, b4, b5, b6, τ, rfl, g1, g2, g3⟩ := pX4
  refine Wd.sub F hin (k := 2) (idx := 26) (ci2 := 3) (fs2 := [.null, .null, .int (zI 0), .null]) (idxn := 23) (idxi := 25) (mc := 3) (ms := 360) tyX5 tyX5_ok nmX5 (by decide +kernel) rfl (by decide) (by decide +kernel) rfl rfl (cn := "PairTokens$Row") (by decide +kernel) (Nat.le_of_ble_eq_true rfl) List.mem_cons_self tyX2 tyX2_ok (by decide +kernel) rfl (by decide +kernel) (by decide +kernel) (by decide +kernel) (dfltX2) (fun q => c_X2_init) gX5_init_X2_init rfl rfl rfl rfl (by decide +kernel) (by decide +kernel) rfl (by decide +kernel) (by decide) (Nat.le_of_ble_eq_true rfl) (Nat.le_of_ble_eq_true rfl) (tdec tX5_init_ok 12 (q := (26, .aload_n 0, 27, 0)) rfl) (tdec tX5_init_ok 13 (q := (27, .new 23, 30, 0)) rfl) (tdec tX5_init_ok 14 (q := (30, .dup, 31, 0)) rfl) (tdec tX5_init_ok 15 (q := (31, .invokespecial 25, 34, 0)) rfl) (tdec tX5_init_ok 16 (q := (34, .putfield 26, 37, 0)) rfl) (fun hR uX2 pX2 => ?_)
  obtain ⟨c0, c1, c2, rfl⟩ := pX2
  refine Wd.sub F hin (k := 3) (idx := 33) (ci2 := 2) (fs2 := [.null, .null, .null]) (idxn := 30) (idxi := 32) (mc := 3) (ms := 768) tyX5 tyX5_ok nmX5 (by decide +kernel) rfl (by decide) (by decide +kernel) rfl rfl (cn := "PairTokens$PairCounter") (by decide +kernel) (Nat.le_of_ble_eq_true rfl) List.mem_cons_self tyX1 tyX1_ok (by decide +kernel) rfl (by decide +kernel) (by decide +kernel) (by decide +kernel) (dfltX1) (fun q => c_X1_init) gX5_init_X1_init rfl rfl rfl rfl (by decide +kernel) (by decide +kernel) rfl (by decide +kernel) (by decide) (Nat.le_of_ble_eq_true rfl) (Nat.le_of_ble_eq_true rfl) (tdec tX5_init_ok 17 (q := (37, .aload_n 0, 38, 0)) rfl) (tdec tX5_init_ok 18 (q := (38, .new 30, 41, 0)) rfl) (tdec tX5_init_ok 19 (q := (41, .dup, 42, 0)) rfl) (tdec tX5_init_ok 20 (q := (42, .invokespecial 32, 45, 0)) rfl) (tdec tX5_init_ok 21 (q := (45, .putfield 33, 48, 0)) rfl) (fun hC uX1 pX1 => ?_)
  obtain ⟨e0, e1, e2, rfl⟩ := pX1
  refine Wd.sub F hin (k := 4) (idx := 40) (ci2 := 1) (fs2 := [.null, .null, .null, .null]) (idxn := 37) (idxi := 39) (mc := 4) (ms := 484) tyX5 tyX5_ok nmX5 (by decide +kernel) rfl (by decide) (by decide +kernel) rfl rfl (cn := "PairTokens$Choices") (by decide +kernel) (Nat.le_of_ble_eq_true rfl) List.mem_cons_self tyX0 tyX0_ok (by decide +kernel) rfl (by decide +kernel) (by decide +kernel) (by decide +kernel) (dfltX0) (fun q => c_X0_init) gX5_init_X0_init rfl rfl rfl rfl (by decide +kernel) (by decide +kernel) rfl (by decide +kernel) (by decide) (Nat.le_of_ble_eq_true rfl) (Nat.le_of_ble_eq_true rfl) (tdec tX5_init_ok 22 (q := (48, .aload_n 0, 49, 0)) rfl) (tdec tX5_init_ok 23 (q := (49, .new 37, 52, 0)) rfl) (tdec tX5_init_ok 24 (q := (52, .dup, 53, 0)) rfl) (tdec tX5_init_ok 25 (q := (53, .invokespecial 39, 56, 0)) rfl) (tdec tX5_init_ok 26 (q := (56, .putfield 40, 59, 0)) rfl) (fun hX uX0 pX0 => ?_)
  obtain ⟨f0, f1, f2, f3, rfl⟩ := pX0
  intro H locs ls hP hD hS hl
  have hP9 := hP.sub (ws' := wL cA (fun i => ([h0, hT, hV, hR, hC, hX, a0, b0, b1, b2, b3, b4, b5, b6, c0, c1, c2, e0, e1, e2, f0, f1, f2, f3] : List Nat).getD i 0) (fun j => ([(fun _ => 0), (fun _ => 0), τ 0, (fun _ => 0), (fun _ => 0), (fun _ => 0), (fun _ => 0), τ 1, τ 2, τ 3, τ 4, τ 5, τ 6, τ 7, (fun _ => 0), (fun _ => 0), (fun _ => 0), (fun _ => 0), (fun _ => 0), (fun _ => 0), (fun _ => 0), (fun _ => 0), (fun _ => 0), (fun _ => 0)] : List (Nat → Int)).getD j (fun _ => 0)) 0 LC) [0, 1, 3, 11, 15, 19, 2, 4, 5, 6, 7, 8, 9, 10, 12, 13, 14, 16, 17, 18, 20, 21, 22, 23] rfl
  have hD9 := hD.sub (ws' := wL cA (fun i => ([h0, hT, hV, hR, hC, hX, a0, b0, b1, b2, b3, b4, b5, b6, c0, c1, c2, e0, e1, e2, f0, f1, f2, f3] : List Nat).getD i 0) (fun j => ([(fun _ => 0), (fun _ => 0), τ 0, (fun _ => 0), (fun _ => 0), (fun _ => 0), (fun _ => 0), τ 1, τ 2, τ 3, τ 4, τ 5, τ 6, τ 7, (fun _ => 0), (fun _ => 0), (fun _ => 0), (fun _ => 0), (fun _ => 0), (fun _ => 0), (fun _ => 0), (fun _ => 0), (fun _ => 0), (fun _ => 0)] : List (Nat → Int)).getD j (fun _ => 0)) 0 LC) [0, 1, 3, 11, 15, 19, 2, 4, 5, 6, 7, 8, 9, 10, 12, 13, 14, 16, 17, 18, 20, 21, 22, 23] (by decide) rfl
  refine ret (tdec tX5_init_ok 27 (q := (59, .return_, 60, 0)) rfl) ⟨fun i => ([h0, hT, hV, hR, hC, hX, a0, b0, b1, b2, b3, b4, b5, b6, c0, c1, c2, e0, e1, e2, f0, f1, f2, f3] : List Nat).getD i 0, fun j => ([(fun _ => 0), (fun _ => 0), τ 0, (fun _ => 0), (fun _ => 0), (fun _ => 0), (fun _ => 0), τ 1, τ 2, τ 3, τ 4, τ 5, τ 6, τ 7, (fun _ => 0), (fun _ => 0), (fun _ => 0), (fun _ => 0), (fun _ => 0), (fun _ => 0), (fun _ => 0), (fun _ => 0), (fun _ => 0), (fun _ => 0)] : List (Nat → Int)).getD j (fun _ => 0), rfl, rfl, ?_, rfl, ?_, ?_⟩ H locs ls hP9 hD9 hS hl
  · intro j i
    rcases (show j = 2 ∨ j = 7 ∨ j = 8 ∨ j = 9 ∨ j = 10 ∨ j = 11 ∨ j = 12 ∨ j = 13 ∨ j < 2 ∨ (2 < j ∧ j < 7) ∨ (13 < j ∧ j < 24) ∨ 24 ≤ j by omega) with rfl | rfl | rfl | rfl | rfl | rfl | rfl | rfl | h | h | h | h
    · exact g1 0 i
    · exact g1 1 i
    · exact g1 2 i
    · exact g1 3 i
    · exact g1 4 i
    · exact g1 5 i
    · exact g1 6 i
    · exact g1 7 i
    · rcases (show j = 0 ∨ j = 1 by omega) with rfl | rfl <;> exact inR_0
    · rcases (show j = 3 ∨ j = 4 ∨ j = 5 ∨ j = 6 by omega) with rfl | rfl | rfl | rfl <;> exact inR_0
    · rcases (show j = 14 ∨ j = 15 ∨ j = 16 ∨ j = 17 ∨ j = 18 ∨ j = 19 ∨ j = 20 ∨ j = 21 ∨ j = 22 ∨ j = 23 by omega) with rfl | rfl | rfl | rfl | rfl | rfl | rfl | rfl | rfl | rfl <;> exact inR_0
    · show inR ((([(fun _ => 0), (fun _ => 0), τ 0, (fun _ => 0), (fun _ => 0), (fun _ => 0), (fun _ => 0), τ 1, τ 2, τ 3, τ 4, τ 5, τ 6, τ 7, (fun _ => 0), (fun _ => 0), (fun _ => 0), (fun _ => 0), (fun _ => 0), (fun _ => 0), (fun _ => 0), (fun _ => 0), (fun _ => 0), (fun _ => 0)] : List (Nat → Int)).getD j (fun _ => 0)) i)
      rw [List.getD_eq_getElem?_getD, List.getElem?_eq_none (by simpa using h)]
      exact inR_0
  · show τ 0 5 = 0
    rw [g2 0 (by decide)]
  · exact g3
end
section
/-! PairTokens.decode: to an answer, or to its throw at 29 -/
theorem okV_mono {R R' : Room} {own : String} {Ts : List Cond} {idx : Nat} {C : String} {y : MethodName} {ws : List Cond} {rm : Room} {n : Nat} (h : okV R own Ts idx C y ws rm n) (h1 : R.frames ≤ R'.frames) (h2 : R.locals ≤ R'.locals) : okV R' own Ts idx C y ws rm n := by
  obtain ⟨a, b, c, d, q1, q2, q3, q4, q5, q6, q7⟩ := h
  exact ⟨a, b, c, d, q1, q2, q3, q4, q5, Nat.le_trans q6 h1, Nat.le_trans q7 h2⟩
section Dec
variable {l : Launch} {D : va_G} {cA : Nat → ClassId} {ad : Nat → Nat} {σ : St} {T : List Int} {ps : PSt} {P : Int → Int}
theorem dec_walk {R : Room} (hf : 2 ≤ R.frames) (hlo : 80 ≤ R.locals) {t i : Int} (h : RC σ T ps P) (ht' : inR t) (hi : inR i) (V : aS → Prop) (M : Mach l R RX5 wsX5_decode tX5_decode fX5_decode pX5_decode [] D cA ad LC 3 V)
    (ret : ∀ {pc nxt tgt : Nat} {lv : List (Nat × aV)} {x : Int}, nget pc tX5_decode = some (.ireturn, nxt, tgt) → inR x → ¬ dThr ps t i → x = aDec ps t i → V (pc, lv, [.inr x], σ))
    (thr : dThr ps t i → ∀ lv : List (Nat × aV), V (29, lv, [], σ)) : V (0, lnum 0 [.inl 0, .inr t, .inr i], [], σ) := by
  have o1 := okV_mono (R' := R) oX5_decode_X4_isToken hf hlo
  have o2 := okV_mono (R' := R) oX5_decode_X4_sizeOf hf hlo
  have o3 := okV_mono (R' := R) oX5_decode_X4_byteOf hf hlo
  obtain ⟨hr, ht, hv, hp⟩ := h
  have hk := kC_of hr ht hv
  have hl := hv.1
  refine M.1 [5] 60 _ ?_
  refine M.2.1 (vs := [.inr t]) (rest := []) rfl o1 rfl rfl (Nat.le_of_ble_eq_true rfl) rfl (c_X4_isToken ht' hk) (fun r τ _ hp' => ?_)
  obtain ⟨rfl, rfl⟩ := hp'
  rw [hl]
  refine M.1 [12, 23, 29] 60 _ ?_
  refine ⟨b01_r _, fun c1 => ?_, fun c1 => ?_⟩
  · have h1 := Classical.not_not.mp (fun h => c1 (b01_f h))
    refine ⟨hi, fun c2 => ?_, fun c2 => ?_⟩
    · exact thr ⟨h1, by omega⟩ _
    · refine M.2.1 (vs := [.inr t]) (rest := [.inr i]) rfl o2 rfl rfl (Nat.le_of_ble_eq_true rfl) rfl (c_X4_sizeOf ht' hk) (fun r τ hin hp' => ?_)
      obtain ⟨rfl, rfl⟩ := hp'
      rw [sz_tbo hv h1] at hin ⊢
      refine M.1 [29, 45] 60 _ ?_
      refine ⟨⟨hi, hin⟩, fun c3 => ?_, fun c3 => ?_⟩
      · have hin2 : isL τ t → inR (τ 13 (t - 256).toNat + i) := by
          intro q
          have q' := q
          unfold isL at q'
          have := hv.2.2.2 (t - 256).toNat (by omega)
          unfold tbo at c3
          rw [if_neg (by omega)] at c3
          unfold inR
          have e : tl (tbl ps) (t - 256).toNat = ((tbl ps).getD (t - 256).toNat []).length := rfl
          omega
        refine M.2.1 (vs := [.inr t, .inr i]) (rest := []) rfl o3 rfl rfl (Nat.le_of_ble_eq_true rfl) rfl (c_X4_byteOf ht' hk hin2) (fun r τ2 hin3 hp' => ?_)
        obtain ⟨rfl, rfl⟩ := hp'
        refine ret rfl hin3 (fun q => q.2 (by omega)) ?_
        unfold aDec
        rw [if_pos h1]
        by_cases e : t < 256
        · rw [byC_b (fun q => by have := q.1; omega)]
          unfold tbo at c3 ⊢
          rw [if_pos e] at c3 ⊢
          have : i = 0 := by
            have : ([t] : List Int).length = 1 := rfl
            omega
          subst this
          rfl
        · have e2 : t = 256 + (((t - 256).toNat : Nat) : Int) := by omega
          have e3 : i = (i.toNat : Int) := by omega
          unfold tbo at c3 ⊢
          rw [if_neg e] at c3 ⊢
          have := voc_by hv (j := (t - 256).toNat) (i := i.toNat) (by omega) (by show i.toNat < ((tbl ps).getD (t - 256).toNat []).length; omega)
          rw [← e2, ← e3] at this
          exact this
      · exact thr ⟨h1, by omega⟩ _
  · have h1 := b01_0.mp c1
    refine ret rfl (by constructor <;> decide) (fun q => h1 q.1) ?_
    unfold aDec
    rw [if_neg h1]
theorem c_X5_decode {t i : Int} (h : RC σ T ps P) (ht' : inR t) (hi : inR i) (hn : ¬ dThr ps t i) : Ci l yX5_decode wsX5_decode (rh 2) D cA ad LC [.inl 0, .inr t, .inr i] σ (fun r τ => r = aDec ps t i ∧ τ = σ) := by
  refine Ci.walk fX5_decode pX5_decode [] (by decide) rfl LC_ok tX5_decode_ok fX5_decode_ok pX5_decode_ok klOk_0 (Nat.le_of_ble_eq_true rfl) (fun V M ret => ?_)
  exact dec_walk (Nat.le_refl _) (Nat.le_refl _) h ht' hi V M (fun h1 h2 _ h4 => ret h1 h2 ⟨h4, rfl⟩) (fun q => absurd q hn)
end Dec
end
section
/-! the throw of PairTokens.decode: what it asks of a state, and that it is kept -/
def exN : List String := ["java/lang/IndexOutOfBoundsException", "java/lang/RuntimeException", "java/lang/Exception"]
def exO : List Cond := Jvm.Bundle.ownAtoms RX5 97 RJx00060 exN
def exB (w : Cond) : Bool := match w with
  | .isRef (.static O n d) => exO.contains (.laysStatic O n d)
  | .laysStatic _ _ _ => true
  | w => w.onTables && w.keepsFace
theorem exB_ok : ∀ w ∈ exO, exB w = true := by decide +kernel
def exE (U : State) : Prop := (∀ w ∈ exO, w.before #[] U = true) ∧ ∃ q : Nat, vk_R RX5 95 "the token has no such byte" q U
theorem word_face {A A' : Array Value} {s U : State} (hW : s.WarmedH U.vm) {w : Cond} (h1 : w.onTables = true) (h2 : w.keepsFace = true) (h : w.before A s = true) : w.before A' U = true := by
  have h3 := Cond.before_shiftedFace (State.Shifted.of_warmed hW) w h2 h
  have e := Cond.onTables_vm (A := A) (A' := A') (U := s) (U' := U) U.vm w h1
  have hU : U.setVm U.vm = U := rfl
  rw [hU] at e
  rw [← e]
  exact h3
def Kst (s U : State) : Prop := ∀ (a : Nat) (cell : Cell), s.heap[a]? = some cell → cell.vm.isStatics = true → U.heap[a]? = some cell
theorem lays_kept {A A' : Array Value} {s U : State} {O n d : String} (hW : s.vm.Alike U.vm) (hh : Kst s U) (h : (Cond.laysStatic O n d).before A s = true) : (Cond.laysStatic O n d).before A' U = true := by
  obtain ⟨c, k, i, f, a, cell, hc, hi, hst, ha, hcell, hs, hcls, hlt, hty⟩ := Cond.laysStatic_spec h
  obtain ⟨k', hi', he⟩ := State.fieldFound?_setVm hW hi
  exact Cond.laysStatic_of (s := U) (by rw [hW.findClass]; exact hc) hi' hst (by rw [he]; exact ha) (hh a cell hcell hs) hs hcls hlt (by rw [he]; exact hty)
theorem isref_kept {A A' : Array Value} {s U : State} {O n d : String} (hW : s.vm.Alike U.vm) (hh : Kst s U) (h0 : (Cond.laysStatic O n d).before A s = true) (h : (Cond.isRef (.static O n d)).before A s = true) : (Cond.isRef (.static O n d)).before A' U = true := by
  obtain ⟨c, k, i, f, a, cell, hc, hi, hst, ha, hcell, hs, hcls, hlt, hty⟩ := Cond.laysStatic_spec h0
  obtain ⟨k', hi', he⟩ := State.fieldFound?_setVm hW hi
  have hi2 : U.fieldFound? O n d = some (c, k', i, f) := hi'
  have hv : cell.slots[f.slot]? = some cell.slots[f.slot] := Array.getElem?_eq_getElem hlt
  have e1 : (Term.static O n d).eval A s none [] s = some cell.slots[f.slot] := by
    simp [Term.eval, State.fieldNamed?, hi, hst, ha, hcell, hs, hv]
  have e2 : (Term.static O n d).eval A' U none [] U = some cell.slots[f.slot] := by
    have hk2 : k'.statics = some a := by rw [he]; exact ha
    simp [Term.eval, State.fieldNamed?, hi2, hst, hk2, hh a cell hcell hs, hs, hv]
  simp only [Cond.before, Cond.holds, Cond.value, e1] at h
  simp only [Cond.before, Cond.holds, Cond.value, e2]
  exact h
theorem exE.at {s U : State} (h : exE s) (hW : s.WarmedH U.vm) (hh : Kst s U) (A : Array Value) : ∀ w ∈ exO, w.before A U = true := by
  intro w hw
  have hb := exB_ok w hw
  have hs := h.1 w hw
  cases w with
  | isRef t =>
    cases t with
    | static O n d =>
      have hb2 : exO.contains (.laysStatic O n d) = true := by simpa only [exB] using hb
      exact isref_kept hW.alike hh (h.1 _ (List.contains_iff_mem.mp hb2)) hs
    | _ => exact absurd hb (by simp [exB, Cond.onTables])
  | laysStatic O n d => exact lays_kept hW.alike hh hs
  | _ => exact word_face hW (by simp only [exB, Bool.and_eq_true] at hb; exact hb.1) (by simp only [exB, Bool.and_eq_true] at hb; exact hb.2) hs
theorem exE.kept {s U : State} (h : exE s) (hW : s.WarmedH U.vm) (hh : Kst s U) : exE U := by
  refine ⟨h.at hW hh #[], ?_⟩
  obtain ⟨q, hq⟩ := h.2
  exact ⟨q, hq.warm hW⟩
theorem exE.calling {U : State} {g : JFrame} {mk : MethodId} {a : Array Value} (h : exE U) : exE (U.calling g mk a) := h.kept (State.WarmedH.refl U) (fun _ _ h _ => h)
end
section
/-! a walk taken from its own heap on, and the throw itself -/
theorem d5_29 : decode cX5_decode 29 = .ok (.new 93, 3) := by decide +kernel
theorem d5_32 : decode cX5_decode 32 = .ok (.dup, 1) := by decide +kernel
theorem d5_33 : decode cX5_decode 33 = .ok (.ldc 95, 2) := by decide +kernel
theorem d5_35 : decode cX5_decode 35 = .ok (.invokespecial 97, 3) := by decide +kernel
theorem d5_38 : decode cX5_decode 38 = .ok (.athrow, 1) := by decide +kernel
section Thr
variable {p : Program} {l : Launch} {e : Env} {R : Room} {s : State} {m : MethodId} {args : Array Value} {below : List Frame} {meth : Method} {c : Code} {T : State} {locs : List Loc} {cells slots : Nat}
theorem st_base (X : Stand p l e R s m args below meth c T locs cells slots) (hc : cells ≤ R.cells) (hs : slots ≤ R.slots) : Stand p l e { R with cells := R.cells - cells, slots := R.slots - slots } ({ s with heap := T.heap, slotsUsed := T.slotsUsed } : State) m args below meth c T [] 0 0 := by
  refine ⟨X.admits, X.cas, X.clock, X.frames, ?_, X.hears, X.method, X.code, X.here, X.tail, X.warmed, X.limits, X.bytes, ?_⟩
  · have h := X.room
    have h1 := X.book
    have h2 := X.heapSize
    have h3 := X.used
    simp only [State.hasRoom, Bool.and_eq_true, decide_eq_true_eq] at h ⊢
    obtain ⟨⟨⟨⟨a1, a2⟩, a3⟩, a4⟩, a5⟩ := h
    refine ⟨⟨⟨⟨a1, a2⟩, ?_⟩, ?_⟩, h1⟩
    · show T.heap.size + (R.cells - cells) ≤ _
      omega
    · show T.slotsUsed + (R.slots - slots) ≤ _
      omega
  · refine ⟨X.same.1, Nat.le_refl _, Nat.le_refl _, ?_, ?_, fun a c h => ⟨c, h, rfl, rfl, fun _ _ => rfl⟩⟩
    · show T.slotsUsed = T.slotsUsed + ((T.heap.toList.drop T.heap.size).map (·.slots.size)).sum
      rw [List.drop_of_length_le (by simp)]
      simp
    · show ((T.heap.toList.drop T.heap.size).map (·.slots.size)).sum ≤ 0
      rw [List.drop_of_length_le (by simp)]
      simp
/-- what a thrown end says, from the base s -/
def ThE (below : List Frame) (s : State) (U : State) : Prop := ∃ (a : Nat) (ce : Cell), U.status = .running ∧ Ended U below (.threw a) ∧ s.WarmedH U.vm ∧ s.sameButNew ({ U with vm := s.vm } : State) [] 1 6 ∧ U.heap[a]? = some ce ∧ s.vm.findClass RJx00060 = some ce.cls ∧ ce.vm = .none
theorem thr_W {ls : Array Slot} (hx : p.tables.exec = Jvm.exec) (hb : c.code = cX5_decode) (htr : e.platform.stackTraces = false) (hown : s.vm.findClass RX5 = some m.cls) (hex : exE s) (hcl : (Cond.classLink RX5 93 RJx00060).before args s = true) (hins : (Cond.instantiable RJx00060 6).before args s = true) (hini : (Cond.initialized RJx00060).before args s = true) (hcells : 0 + 1 ≤ R.cells) (hslots : 0 + 6 ≤ R.slots) (hf : 6 < R.frames) (hlo : 95 ≤ R.locals) (hls : ls.size = c.maxLocals) (hout : c.exceptionTable.isEmpty = true) (hlk : meth.locks = false) : W p l e R s m args below meth c s.heap [] 0 0 (ThE below s) (F0 m 29 ls []) := by
  obtain ⟨cX, kX, h1, h2, h3, h4, h5, h6⟩ := Cond.instantiable_spec hins
  obtain ⟨q, hq⟩ := hex.2
  refine W.newcK hx hb hown hcl hins hini rfl d5_29 hcells hslots h1 rfl (fun H' kC hk hbl hsz hkeep => ?_)
  cases Option.some.inj (h2.symm.trans hk)
  refine lv_dup hx hb d5_32 rfl ?_
  refine va_ldcS hx hb hown hq d5_33 ?_
  intro T hT X
  obtain ⟨U, u1, u2, u3, u4, u5, ce, u6, u7⟩ := X.ctorThrowS hx htr (own := RX5) (cls := RJx00060) (names := exN) (ic := 97) hown (by decide) (by decide) (hex.at (State.WarmedH.refl s) (fun _ _ h _ => h) args) (fun x hx => by cases hx) (a := s.heap.size) h1 h2 (by rw [hT]; exact hbl) (Nat.le_refl _) (msg := .ref q) rfl (g := F0 m 35 ls [.ref q, .ref s.heap.size, .ref s.heap.size]) rfl hls rfl rfl (rest := []) rfl (by rw [hb]; exact d5_35) (by rw [hb]; exact d5_38) (fun x hx => by
      rw [Array.isEmpty_iff.mp hout] at hx
      cases hx) hf (by show 2 * 0 + (1 + 0) + (13 * (3 + 1) + 42) ≤ R.locals; omega) hlk
  exact ⟨U, u1, s.heap.size, ce, u2, u3, u4, u5, u6, u7.cls, u7.vm⟩
end Thr
end
section
/-! PairTokens.decode where it throws -/
theorem Kst_of {D : va_G} {ws : va_W} {s U : State} {locs : List Loc} (hP : va_P D vwCl ws s.heap) (hS : va_S (va_A ws s.heap.size) s.heap U.heap locs) : Kst s U := by
  intro a cell hc hs
  have hlt := (Array.getElem?_eq_some_iff.mp hc).1
  rw [hS.2.1 a hlt ?_]
  · exact hc
  · intro hA
    rcases hA with ⟨k, e, hk⟩ | h
    · have h1 := hP k _ hk
      cases e with
      | inl x =>
        have h2 : s.heap[a]? = some (vp_cell x.1 x.2) := h1
        cases Option.some.inj (hc.symm.trans h2)
        have h3 : (vp_cell x.1 x.2).vm.isStatics = false := by
          obtain ⟨x1, n, x2⟩ := x
          rcases x2 with x2 | x2 | x2 | x2 | x2 <;> rfl
        rw [h3] at hs
        cases hs
      | inr x =>
        obtain ⟨r, -, cell', g1, g2, g3, -⟩ := h1
        cases Option.some.inj (hc.symm.trans g1)
        rw [g3] at hs
        cases hs
    · omega
def ThQ (D : va_G) (w : va_W) (sz : Nat) (st : State) (o : Outcome) (t : State) : Prop := ∃ (x : Nat) (ce : Cell) (L' : List Loc), o = .threw x ∧ st.WarmedH t.vm ∧ st.sameButNew ({ t with vm := st.vm } : State) L' 1 6 ∧ (∀ q ∈ L', va_A w sz q.base) ∧ va_F (va_A w sz) st t ∧ va_P D vwCl w t.heap ∧ t.heap[x]? = some ce ∧ st.vm.findClass RJx00060 = some ce.cls ∧ ce.vm = .none
def Ct (l : Launch) (y : MethodName) (ws : List Cond) (rm : Room) (D : va_G) (cA : Nat → ClassId) (ad : Nat → Nat) (L : Lay) (vs : List aV) (σ : St) : Prop :=
  ∀ sz : Nat, MetFree l y (headSpec ws rm) (va_Pc (vs.map (aval ad)) (fun U => U.heap.size = sz ∧ va_P D vwCl (wL cA ad σ 0 L) U.heap ∧ va_K D vwCl (gT cA) U ∧ va_D (fun _ => True) (wL cA ad σ 0 L) ∧ exE U)) (fun _ _ _ _ _ => True) (fun _ st o t => ThQ D (wL cA ad σ 0 L) sz st o t)
def rT : Room := { frames := 8, cells := 1, slots := 6, locals := 120 }
theorem thr_join {p : Program} {l : Launch} {e : Env} {R : Room} {s : State} {m : MethodId} {args : Array Value} {below : List Frame} {meth : Method} {c : Code} {T t : State} {locs : List Loc} {cells slots k n : Nat} (X : Stand p l e R s m args below meth c T locs cells slots) (h : ({ s with heap := T.heap, slotsUsed := T.slotsUsed } : State).sameButNew ({ t with vm := s.vm } : State) [] k n) : s.sameButNew ({ t with vm := s.vm } : State) locs (cells + k) (slots + n) := by
  have h1 : (T.setVm s.vm).sameButNew ({ t with vm := s.vm } : State) [] k n := by
    refine ⟨?_, h.2⟩
    have e1 : T.setVm s.vm = { s.setFrames T.frames with heap := T.heap, slotsUsed := T.slotsUsed } := X.same.1
    have e2 : ∀ F, (T.setVm s.vm).setFrames F = ({ s.setFrames F with heap := T.heap, slotsUsed := T.slotsUsed } : State) := fun F => by
      rw [e1]
      exact congrArg (fun z : State => ({ z with heap := T.heap, slotsUsed := T.slotsUsed } : State)) (State.setFrames_setFrames s T.frames F)
    rw [e2]
    exact h.1
  have h2 := X.same.trans h1
  rw [List.append_nil] at h2
  exact h2
section DecT
variable {l : Launch} {D : va_G} {cA : Nat → ClassId} {ad : Nat → Nat} {σ : St} {T : List Int} {ps : PSt} {P : Int → Int}
theorem c_X5_decodeT (hl : l.stackTraces = false) {t i : Int} (h : RC σ T ps P) (ht' : inR t) (hi : inR i) (hn : dThr ps t i) : Ct l yX5_decode wsX5_decode rT D cA ad LC [.inl 0, .inr t, .inr i] σ := by
  intro sz
  refine MetFree.of_bodyS (code := cX5_decode) (maxLocals := 3) (ret := some .int) (by decide) ?_ ?_
  · intro args s m h hn
    obtain ⟨meth, c, h1, h2, h3, h4, h5, h6, -, -⟩ := Cond.code_spec hn (atoms_spec (ws := wsX5_decode) h _ List.mem_cons_self)
    exact ⟨meth, c, h1, h2, h3, h4, h5, h6⟩
  · intro p e s m args below meth c s₁ B hml hv _
    obtain ⟨rfl, hsz, hP, hK, hD0, hex⟩ := hv
    have hts := atoms_spec (ws := wsX5_decode) B.pre
    have hown : s.vm.findClass RX5 = some m.cls := findClass_of_methodNamed B.named
    have hno := BodyLoose.noHandlers B (hts _ List.mem_cons_self)
    subst hsz
    have hD := hD0.self (sz := s.heap.size)
    have F : Fx p s m (([.inl 0, .inr t, .inr i] : List aV).map (aval ad)).toArray c cX5_decode 3 RX5 wsX5_decode D cA (va_A (wL cA ad σ 0 LC) s.heap.size) := ⟨⟨B.exec, B.bytes, hml, hown, hts⟩, hK, fun q h => Or.inr h⟩
    have key := dec_walk (R := rT) (by decide) (by decide) h ht' hi (Va p l e rT s m (([.inl 0, .inr t, .inr i] : List aV).map (aval ad)).toArray below meth c 0 0 (fun u => ∃ o, u.status = .running ∧ Ended u below o ∧ ThQ D (wL cA ad σ 0 LC) s.heap.size s o u) D cA ad LC 3 (va_A (wL cA ad σ 0 LC) s.heap.size)) (Mach.of F LC_ok tX5_decode_ok fX5_decode_ok pX5_decode_ok klOk_0 ⟨Nat.zero_le _, Nat.zero_le _⟩) (fun _ _ q => absurd hn q) (fun _ lv H locs ls hP1 hD1 hS1 hl1 T hT X => by
      have X' := st_base X (Nat.zero_le _) (Nat.zero_le _)
      subst hT
      have hex' : exE ({ s with heap := T.heap, slotsUsed := T.slotsUsed } : State) := hex.kept (State.WarmedH.refl s) (Kst_of hP hS1)
      have wd : ∀ w ∈ wsX5_decode, (w.onTables && w.keeps) = true → w.before (([.inl 0, .inr t, .inr i] : List aV).map (aval ad)).toArray ({ s with heap := T.heap, slotsUsed := T.slotsUsed } : State) = true := fun w hw hk => word_at (U := ({ s with heap := T.heap, slotsUsed := T.slotsUsed } : State)) (State.WarmedH.refl s) (Or.inl hk) (hts w hw)
      obtain ⟨u, st, x, ce, u2, u3, u4, u5, u6, u7, u8⟩ := thr_W (s := ({ s with heap := T.heap, slotsUsed := T.slotsUsed } : State)) (R := { rT with cells := rT.cells - 0, slots := rT.slots - 0 }) (ls := ls) B.exec B.bytes ((by rw [X.admits.platform]; exact hl) : e.platform.stackTraces = false) hown hex' (wd _ (List.mem_of_getElem? (i := 2) rfl) rfl) (wd _ (List.mem_of_getElem? (i := 3) rfl) rfl) (wd _ (List.mem_of_getElem? (i := 4) rfl) rfl) (by decide) (by decide) (by decide) (by decide) (hl1.1.trans hml.symm) hno B.notSynchronized T rfl X'
      have old : ∀ q : Nat, q < T.heap.size → u.heap[q]? = T.heap[q]? := fun q hq => by
        have h1 : T.heap[q]? = some T.heap[q] := Array.getElem?_eq_getElem hq
        have h2 : ({ s with heap := T.heap, slotsUsed := T.slotsUsed } : State).heap[q]? = some T.heap[q] := h1
        have h3 : u.heap[q]? = some T.heap[q] := State.sameButNew.old_cell u5 h2
        rw [h3, h1]
      have sm := thr_join X u5
      rw [Nat.zero_add, Nat.zero_add] at sm
      refine ⟨u, st, .threw x, u2, u3, x, ce, locs, rfl, u4, sm, hS1.2.2, ⟨Nat.le_trans hS1.1 u5.2.1, fun q h1 h2 => ?_⟩, fun k q hk => (hP1 k q hk).kept (old q.1 (hP1 k q hk).lt), u6, u7, u8⟩
      rw [old q (Nat.lt_of_lt_of_le h1 hS1.1)]
      exact hS1.2.1 q h1 h2)
    have hl := lv_entry (([.inl 0, .inr t, .inr i] : List aV).map (aval ad)) (n := 3) (by rw [lg_len]; exact Nat.le_of_ble_eq_true rfl)
    rw [lnum_args] at hl
    have hh0 : s₁.heap = s.heap := by rw [B.state]; rfl
    have k2 : W p l e rT s m (([.inl 0, .inr t, .inr i] : List aV).map (aval ad)).toArray below meth c s.heap [] 0 0 (fun u => ∃ o, u.status = .running ∧ Ended u below o ∧ ThQ D (wL cA ad σ 0 LC) s.heap.size s o u) (entryFrame m (([.inl 0, .inr t, .inr i] : List aV).map (aval ad)).toArray 3) := by
      rw [lg_entry_eq]
      exact key s.heap [] _ hP hD va_S.rf hl
    obtain ⟨u, a1, o, b1, b2, b3⟩ := k2 s₁ hh0 (Stand.of_body B)
    exact ⟨u, o, a1, b1, b2, b3⟩
end DecT
end
section
/-! a call on a part of the world -/
theorem wL_addr (cA : Nat → ClassId) (ad : Nat → Nat) (σ τ : St) : ∀ (L : Lay) (i : Nat), (wL cA ad σ i L).map Prod.fst = (wL cA ad τ i L).map Prod.fst
  | [], _ => rfl
  | x :: xs, i => by
    show ad i :: (wL cA ad σ (i + 1) xs).map Prod.fst = ad i :: (wL cA ad τ (i + 1) xs).map Prod.fst
    rw [wL_addr cA ad σ τ xs (i + 1)]
theorem va_D_addr {A : Nat → Prop} {ws ws' : va_W} (h : ws'.map Prod.fst = ws.map Prod.fst) (hD : va_D A ws) : va_D A ws' := by
  have key : ∀ (k : Nat) (q : Nat × va_E), ws'[k]? = some q → ∃ q', ws[k]? = some q' ∧ q'.1 = q.1 := by
    intro k q hq
    have h1 : (ws'.map Prod.fst)[k]? = some q.1 := by rw [List.getElem?_map, hq]; rfl
    rw [h, List.getElem?_map] at h1
    cases hx : ws[k]? with
    | none => rw [hx] at h1; cases h1
    | some x => rw [hx] at h1; exact ⟨x, rfl, Option.some.inj h1⟩
  refine ⟨fun i j a b ha hb e => ?_, fun k q hk => ?_⟩
  · obtain ⟨a', h1, h2⟩ := key i a ha
    obtain ⟨b', h3, h4⟩ := key j b hb
    exact hD.1 i j a' b' h1 h3 (by rw [h2, h4, e])
  · obtain ⟨q', h1, h2⟩ := key k q hk
    rw [← h2]
    exact hD.2 k q' h1
theorem app_at {wa wc wb : va_W} {j : Nat} {z : Nat × va_E} (h : wc[j]? = some z) : (wa ++ (wc ++ wb))[wa.length + j]? = some z := by
  have := (List.getElem?_eq_some_iff.mp h).1
  rw [List.getElem?_append_right (by omega), show wa.length + j - wa.length = j by omega, List.getElem?_append_left this]
  exact h
theorem va_P.mid {D : va_G} {wa wc wb : va_W} {H : Heap} (h : va_P D vwCl (wa ++ (wc ++ wb)) H) : va_P D vwCl wc H := fun _ z hz => h _ z (app_at hz)
theorem va_D.mid {A : Nat → Prop} {wa wc wb : va_W} (h : va_D A (wa ++ (wc ++ wb))) : va_D A wc := by
  refine ⟨fun i j a b ha hb e => ?_, fun k q hk => h.2 _ q (app_at hk)⟩
  have := h.1 _ _ a b (app_at ha) (app_at hb) e
  omega
theorem fr_join {A0 : Nat → Prop} {D : va_G} {wa wc wb w1 : va_W} {H H1 : Heap} (hP : va_P D vwCl (wa ++ (wc ++ wb)) H) (hD : va_D A0 (wa ++ (wc ++ wb))) (hk : ∀ q : Nat, q < H.size → ¬ va_A wc H.size q → H1[q]? = H[q]?) (hP1 : va_P D vwCl w1 H1) (ha : w1.map Prod.fst = wc.map Prod.fst) : va_P D vwCl (wa ++ (w1 ++ wb)) H1 ∧ va_D A0 (wa ++ (w1 ++ wb)) := by
  have hlen : w1.length = wc.length := by
    have := congrArg List.length ha
    simpa using this
  have out : ∀ (k : Nat) (z : Nat × va_E), (wa ++ (wc ++ wb))[k]? = some z → (k < wa.length ∨ wa.length + wc.length ≤ k) → va_at D vwCl z H1 := by
    intro k z hz ho
    have hlt := (hP k z hz).lt
    refine (hP k z hz).kept (hk z.1 hlt ?_)
    rintro (⟨j, e, hj⟩ | h)
    · have h1 := hD.1 k _ z (z.1, e) hz (app_at hj) rfl
      have h2 := (List.getElem?_eq_some_iff.mp hj).1
      omega
    · omega
  refine ⟨fun k z hz => ?_, va_D_addr (by simp [List.map_append, ha]) hD⟩
  by_cases h1 : k < wa.length
  · rw [List.getElem?_append_left h1] at hz
    exact out k z (by rw [List.getElem?_append_left h1]; exact hz) (Or.inl h1)
  · rw [List.getElem?_append_right (by omega)] at hz
    by_cases h2 : k - wa.length < w1.length
    · rw [List.getElem?_append_left h2] at hz
      exact hP1 _ z hz
    · rw [List.getElem?_append_right (by omega)] at hz
      refine out k z ?_ (Or.inr (by omega))
      rw [List.getElem?_append_right (by omega), List.getElem?_append_right (by omega), ← hlen]
      exact hz
section Frame
variable {p : Program} {l : Launch} {e : Env} {R : Room} {s : State} {m : MethodId} {args : Array Value} {below : List Frame} {meth : Method} {c : Code} {cells slots : Nat} {Q : State → Prop} {D : va_G} {cA : Nat → ClassId} {ad : Nat → Nat} {L : Lay} {nL : Nat} {A : Nat → Prop} {cc : ByteArray} {own : String} {Ts : List Cond} {pc : Nat} {lv : List (Nat × Value)} {σ : St} {wa wb : va_W}
theorem Wd.callVi (F : Fx p s m args c cc nL own Ts D cA A) {idx j : Nat} {C : String} {T : u_T} {N : Nat} {o : Nat × List (Nat ⊕ Bool)} {y : MethodName} {ws : List Cond} {rm : Room} {vs : List aV} {rest : List Value} {post : Int → St → Prop} (ok : okV R own Ts idx C y ws rm vs.length) (hd : decode cc pc = .ok (.invokevirtual idx, 3)) (hj : L[j]? = some (.inl o)) (hc : vwCl[o.1]? = some (C, T, N)) (hlen : (rest.map fun v => v.category).sum ≤ 8) (hcs : cells ≤ R.cells ∧ slots ≤ R.slots) (hM : Ci l y ws rm D cA ad L (.inl j :: vs) σ post)
    (k : ∀ (r : Int) (τ : St), inR r → post r τ → Wd p l e R s m args below meth c cells slots Q D nL A (pc + 3) lv (.int (zI r) :: rest) (wa ++ (wL cA ad τ 0 L ++ wb))) : Wd p l e R s m args below meth c cells slots Q D nL A pc lv ((vs.map (aval ad)).reverse ++ .ref (ad j) :: rest) (wa ++ (wL cA ad σ 0 L ++ wb)) := by
  intro H locs ls hP hD hS hl
  obtain ⟨bytes, maxL, ret, ws', hg, hw, hrc, hrs, hdd, hR⟩ := ok
  have hPc := hP.mid
  have hDc := hD.mid
  have hFc := F.free hDc hS
  refine va_calli (va_runV (As := vs.map (aval ad)) (rest := rest) (b := ad j) F.1 (hM H.size) (cwV vs.length F.1.2.2.2.2 hg hw hrc hrs hdd hR) ⟨fun a U g mk q => by obtain ⟨q0, q1, qP, qK, qD⟩ := q; exact ⟨q0, q1, qP, va_K.moved (u := U) (U := U.calling g mk a) (Vm.Alike.refl U.vm) qK, qD⟩, va_recv F.2.1 hPc hc (wL_at hj), fun U hU hW => ⟨rfl, by rw [hU], by rw [hU]; exact hPc, va_K.moved hW.alike F.2.1, hDc.weaken (fun _ _ _ _ => trivial)⟩⟩ rfl (by simp) hl.1 rfl (lv_room hlen) hd hcs) hS (fun q _ h => hFc q h) hFc (fun r u t H1 locs1 ht hvm hw hB hz1 hk1 hS1 => ?_)
  obtain ⟨hr, hin, hp⟩ := hw
  subst hr
  obtain ⟨j1, j2⟩ := fr_join hP hD hk1 (w1 := wL cA ad u.2 0 L) (by rw [← ht]; exact hB) (wL_addr cA ad u.2 σ L 0)
  exact k u.1 u.2 hin hp H1 locs1 ls j1 j2 hS1 hl
end Frame
end
section
/-! a catch, its class resolved by the search or before it -/
section Cat
theorem cat_find {e : Env} {s : State} {f : JFrame} {a : Addr} {meth : Method} {code : Code} {x : ExceptionTableEntry} {c : ClassId} {cell : Cell} (hm : s.vm.method? f.method = some meth) (hc : meth.code = some code) (ht : code.exceptionTable.toList = [x]) (hx : covers x f.pc = true) (h0 : x.catchType ≠ 0)
    (hl : s.vm.ClassLinks e.platform f.method.cls x.catchType c) (hcell : s.heap[a]? = some cell) (hobj : ∀ k, cell.vm ≠ .statics k) (hk : ∃ k, s.vm.classes[cell.cls]? = some k) (hcl : ∃ k, s.vm.classes[c]? = some k) (hfit : s.vm.assignable cell.cls c = true) (Q : Handler → Pre) (E : CtlPost) (d : Bool) (acts : List Action) :
    Jvm.Sem.wp (findHandler f a) Q E e d acts s ↔ Q (.found x.handlerPc) d acts (s.setVm (s.vm.noted f.method.cls x.catchType (.cls c))) := by
  have hal : s.vm.Alike (s.vm.noted f.method.cls x.catchType (.cls c)) := (Vm.Alike.refl s.vm).noted _ _ _
  obtain ⟨k1, hk1⟩ := hk
  obtain ⟨k2, hk2⟩ := hcl
  obtain ⟨k3, hk3, -⟩ := hal.2.2 _ _ hk1
  obtain ⟨k4, hk4, -⟩ := hal.2.2 _ _ hk2
  have hf2 : (s.vm.noted f.method.cls x.catchType (.cls c)).assignable cell.cls c = true := by rw [hal.assignable]; exact hfit
  obtain ⟨g1, g2⟩ := (resolveClass_links e.toSetting hl).op (op := VmOp.resolveClass f.method.cls x.catchType) rfl
  rw [Jvm.W.findHandler_eq hm hc, ht]
  simp only [covers] at hx
  simp [findHandler.go, hx, h0, g1, g2, hcell, hobj, hk3, hk4, hf2, VmOp.dirties, VmOp.acts]
variable {p : Program} {l : Launch} {e : Env} {R : Room} {s : State} {m : MethodId} {args : Array Value} {below : List Frame} {meth : Method} {c : Code} {T : State} {locs : List Loc} {cells slots : Nat}
theorem cat_steps (X : Stand p l e R s m args below meth c T locs cells slots) {a : Addr} {g : JFrame} (hg : g.method = m) {own name : String} (hown : s.vm.findClass own = some m.cls) {x : ExceptionTableEntry} (ht : c.exceptionTable.toList = [x]) (hx : covers x g.pc = true) (h0 : x.catchType ≠ 0)
    (hlink : (Cond.classLink own x.catchType name).before args s = true) {cell : Cell} (hcT : s.vm.findClass name = some cell.cls) (hcell : T.heap[a]? = some cell) (hobj : cell.vm.isStatics = false) :
    ∃ vm', Stand p l e R s m args below meth c (T.setVm vm') locs cells slots ∧ ∀ tg, Steps p.tables e below ((T.setVm vm').setTop { g with pc := x.handlerPc, stack := [.ref a] }) tg → Steps p.tables e below ((T.setTop g).pushFrame (.throwing a)) tg := by
  subst hg
  obtain ⟨c', hc', hcl⟩ := Cond.classLink_spec hown hlink e.platform (by rw [X.admits.platform])
  cases Option.some.inj (hcT.symm.trans hc')
  obtain ⟨dk, _, _, kt, hd, _, _, _, _, hkt, _, hopen⟩ := hcl.here
  have hal := X.warmed.alike
  obtain ⟨kt', hkt', -⟩ := hal.2.2 _ _ hkt
  have hf : T.vm.assignable cell.cls cell.cls = true := va_asg _ _
  refine ⟨T.vm.noted g.method.cls x.catchType (.cls cell.cls), X.noted (X.warmed.noted hd hopen (State.rightAt_cls hcl)), fun tg hrest => ?_⟩
  have find := cat_find (s := (T.setTop g).pushFrame (.throwing a)) (e := e) (f := g) (a := a) (meth := meth) (code := c) (x := x) (c := cell.cls) (cell := cell) X.method' X.code ht hx h0 (X.warmed.classLinks hcl) hcell (VmData.ne_statics_of hobj) ⟨kt', hkt'⟩ ⟨kt', hkt'⟩ hf
  obtain ⟨hgo, hw⟩ := X.here.throwing a
  refine Steps.head hgo hw ?_
  have one : (stepThrowing e ((T.setTop g).pushFrame (.throwing a)) a (.java g :: T.frames.tail)).1 = ((((T.setTop g).pushFrame (.throwing a)).setVm (T.vm.noted g.method.cls x.catchType (.cls cell.cls)))).setFrames (.java { g with pc := x.handlerPc, stack := [.ref a] } :: T.frames.tail) := by
    simp only [stepThrowing, searchFrame, vmDo]
    generalize hr : Sem.go _ e false [] ((T.setTop g).pushFrame (.throwing a)) = res
    obtain ⟨as, rfl, ha⟩ := Sem.eq_ok_of hr (a := Handler.found x.handlerPc) (s' := ((T.setTop g).pushFrame (.throwing a)).setVm (T.vm.noted g.method.cls x.catchType (.cls cell.cls))) (acts' := []) (by simp [find _ _ _ _]; rfl)
    rfl
  rw [stepThread_throwing (frames_entered X.here.top _), one]
  obtain ⟨g0, hg0⟩ := Option.isSome_iff_exists.mp X.here.top
  obtain ⟨r, hr⟩ := State.topJava?_eq_some.mp hg0
  have fr : (((T.setTop g).pushFrame (.throwing a)).setVm (T.vm.noted g.method.cls x.catchType (.cls cell.cls))).setFrames (.java { g with pc := x.handlerPc, stack := [.ref a] } :: T.frames.tail) = (T.setVm (T.vm.noted g.method.cls x.catchType (.cls cell.cls))).setTop { g with pc := x.handlerPc, stack := [.ref a] } := by
    have hr' : (T.setVm (T.vm.noted g.method.cls x.catchType (.cls cell.cls))).frames = .java g0 :: r := hr
    have com : ∀ (u : State) (v : Vm) (F G : List Frame), ((u.setFrames F).setVm v).setFrames G = (u.setVm v).setFrames G := by
      intro u v F G
      exact congrArg (fun z : State => z.setVm v) (State.setFrames_setFrames u F G)
    rw [State.setTop_of_frames _ hr', hr, State.pushFrame, com, State.setTop_of_frames _ hr, com]
    rfl
  rw [fr]
  exact hrest
end Cat
end
section
/-! PairTokensLaw.decode -/
section LdC
variable {p : Program} {l : Launch} {e : Env} {R : Room} {s : State} {m : MethodId} {args : Array Value} {below : List Frame} {meth : Method} {c : Code} {T : State} {locs : List Loc} {cells slots : Nat}
/-- a call by a contract of any end -/
theorem callT (X : Stand p l e R s m args below meth c T locs cells slots) (hexec : p.tables.exec = Jvm.exec) {own C : String} {index : Nat} {y : MethodName} {bytes : ByteArray} {maxL : Nat} {ret : Option FieldType}
    (hown : s.vm.findClass own = some m.cls) (hlink : (Cond.methodLink own index y).before args s = true) (hinst : (Cond.instanceMethod y).before args s = true) (hsel : (Cond.selects C y y).before args s = true)
    (hcode : (Cond.code y bytes maxL ret).before args s = true) (hini : (Cond.initialized y.cls).before args s = true) (hy : y.cls ≠ "java/lang/invoke/MethodHandle" ∧ y.cls ≠ "java/lang/invoke/VarHandle")
    {ws : List Cond} {rm : Room} {Pc : Array Value → State → Prop} {Qc : Array Value → State → Outcome → State → Prop} (hM : MetFree l y (headSpec ws rm) Pc (fun _ _ _ _ _ => True) Qc) (hfr : rm.frames + 1 ≤ R.frames) (hlo : 8 + (maxL + 11) + rm.locals ≤ R.locals) (hcells : cells + rm.cells ≤ R.cells) (hslots : slots + rm.slots ≤ R.slots)
    (hws : ∀ w ∈ ws, ∀ (a' : Array Value) (U : State), s.WarmedH U.vm → w.before a' U = true)
    {b : Addr} {cellB : Cell} (hcell : T.heap[b]? = some cellB) (hobj : cellB.vm.isStatics = false) (hcls : s.vm.findClass C = some cellB.cls)
    {g : JFrame} (hg : g.method = m) (hsize : g.locals.size = c.maxLocals) {argsL rest : List Value} (hlen : ∀ sig, parseMethodDescriptor y.desc = some sig → argsL.length = sig.parameters.length)
    (hstack : g.stack = argsL.reverse ++ .ref b :: rest) (hW : 2 * g.monitorRoom + (rest.map fun v => v.category).sum ≤ 8) (hdg : decode c.code g.pc = .ok (.invokevirtual index, 3))
    (hpre : ∀ (vm₁ : Vm) (g' : JFrame) (mk : MethodId), s.WarmedH vm₁ → Pc (Value.ref b :: argsL).toArray ((T.setVm vm₁).calling g' mk (Value.ref b :: argsL).toArray)) :
    ∃ (vm₁ : Vm) (mk : MethodId) (o : Outcome) (s₂ : State), Stand p l e R s m args below meth c (T.setVm vm₁) locs cells slots ∧ Ended s₂ (.java { g with stack := rest } :: below) o ∧ Qc (Value.ref b :: argsL).toArray ((T.setVm vm₁).calling { g with stack := rest } mk (Value.ref b :: argsL).toArray) o s₂ ∧ ∀ tg, Steps p.tables e below s₂ tg → Steps p.tables e below (T.setTop g) tg := by
  obtain ⟨mk, methM, hnamed, hmethM, hstM, habM⟩ := Cond.instanceMethod_spec hinst
  obtain ⟨methM', cM, hmethM', hcM, -, hlM, -, -, -, hsigM⟩ := Cond.code_spec hnamed hcode
  cases hmethM.symm.trans hmethM'
  obtain ⟨c2, r2, m2, q1, q2, q3, q4, kP, hkP, hkPi⟩ := Cond.selects_spec hsel
  cases hcls.symm.trans q1
  cases (State.methodFound?_of_named hnamed hy).symm.trans q2
  cases hnamed.symm.trans q3
  have hselP : selectMethod e.platform s.vm cellB.cls mk = .method mk := by rw [Launch.admits_selectMethod X.admits]; exact q4
  obtain ⟨vm₁, X₁, hstep₁⟩ := X.invokevirtual hexec hown hlink hnamed hmethM hstM hkP hkPi hy (a := b) (cell := cellB) hcell
    (fun z h => by rw [h] at hobj; cases hobj) hselP hmethM habM hkP hkPi (g := g) hg (argsL := argsL) (rest := rest) (hlen _ hsigM) hstack hdg
  have hn1 := X₁.named hnamed
  have hinit1 : (Cond.initialized y.cls).before args (T.setVm vm₁) = true := word_at X₁.warmed (Or.inl rfl) hini
  obtain ⟨kY, hkY, -⟩ := className_of_methodNamed hn1
  have hinitY : kY.init = .initialized := Cond.initialized_spec (findClass_of_methodNamed hn1) hkY hinit1
  have hm1 : (T.setVm vm₁).vm.method? mk = some methM := by rw [X₁.warmed.alike.method?]; exact hmethM
  subst hg
  have happ : (headSpec ws rm).appliesLoose y e.platform ((T.setVm vm₁).calling { g with stack := rest } mk (Value.ref b :: argsL).toArray) = true :=
    Spec.appliesLoose_calling (g := { g with stack := rest }) X₁.here hdg hn1 hkY hinitY
      (X₁.room_calling (g := { g with stack := rest }) (R' := rm) hsize hm1 hcM hfr (by rw [hlM]; show 2 * g.monitorRoom + (rest.map fun v => v.category).sum + (maxL + 11) + rm.locals ≤ R.locals; omega) hcells hslots) (atoms_intro fun w hw => hws w hw _ _ X₁.warmed)
  obtain ⟨mid, hmid⟩ := X₁.here.above
  have hfr2 : ((T.setVm vm₁).setTop { g with stack := rest }).frames = (.java { g with stack := rest } :: mid) ++ below := by rw [State.frames_setTop' _ X₁.here.top, hmid]; rfl
  obtain ⟨o, s₂, hsteps, -, hend, hq⟩ := Steps.callFree hM p X₁.admits X₁.cas X₁.clock (acts := []) hfr2 happ (hpre vm₁ _ mk X₁.warmed) trivial
  rw [State.frames_setTop' _ X₁.here.top, X₁.tail] at hend
  exact ⟨vm₁, mk, o, s₂, X₁, hend, hq, fun tg h => hstep₁ _ fun acts => by rw [doInvoke_state]; exact hsteps.trans h⟩
end LdC
def rL (k : Nat) : Room := { frames := 9, cells := k, slots := 6 * k, locals := 150 }
def wO (q : Nat) (cJ : ClassId) (f : Nat → Int64) : va_W := [(q, .inl (cJ, 1, .inr (.inl f)))]
def exF (U : State) : Prop := exE U ∧ (Cond.classLink RL 13 RJx00060).before #[] U = true
theorem exF.kept {s U : State} (h : exF s) (hW : s.WarmedH U.vm) (hh : Kst s U) : exF U := ⟨h.1.kept hW hh, word_at hW (Or.inl rfl) h.2⟩
def LdP (D : va_G) (cA : Nat → ClassId) (cJ : ClassId) (w : va_W) (sz : Nat) (U : State) : Prop := U.heap.size = sz ∧ va_P D vwCl w U.heap ∧ va_K D vwCl (gT cA ++ [(cJ, .long)]) U ∧ va_D (fun _ => True) w ∧ exF U
def Lk (l : Launch) (D : va_G) (cA : Nat → ClassId) (cJ : ClassId) (ad : Nat → Nat) (q : Nat) (σ : St) (f : Nat → Int64) (t i : Int) (k : Nat) (post : Int32 → (Nat → Int64) → Prop) : Prop :=
  ∀ sz : Nat, Met l yL_decode wsL_decode (rL k) (va_Pc [.ref (ad 0), .int (zI t), .int (zI i), .ref q] (LdP D cA cJ (wL cA ad σ 0 LC ++ wO q cJ f) sz)) (va_Qi post (fun (u : Nat → Int64) (t' : State) => va_P D vwCl (wL cA ad σ 0 LC ++ wO q cJ u) t'.heap) (va_A (wL cA ad σ 0 LC ++ wO q cJ f) sz)) k (6 * k) (va_A (wL cA ad σ 0 LC ++ wO q cJ f) sz)
section Ld
variable {l : Launch} {D : va_G} {cA : Nat → ClassId} {cJ : ClassId} {ad : Nat → Nat} {σ : St} {T : List Int} {ps : PSt} {P : Int → Int} {q : Nat} {f : Nat → Int64}
theorem oL_decode_X5_decode (k : Nat) : okV (rL k) RL wsL_decode 7 RX5 yX5_decode wsX5_decode (rh 2) 2 := ⟨_, _, _, _, gL_decode_X5_decode, rfl, rfl, rfl, by decide +kernel, by show 2 + 1 ≤ 9 ∧ 8 + (3 + 11) + 80 ≤ 150; decide⟩
theorem c_L_decode {t i : Int} (h : RC σ T ps P) (ht' : inR t) (hi : inR i) (hn : ¬ dThr ps t i) : Lk l D cA cJ ad q σ f t i 0 (fun r u => r = zI 0 ∧ u 0 = (zI (aDec ps t i)).toInt64) := by
  intro sz
  refine va_MetW (hh := [(0, 10, 13, 13)]) (cc := cL_decode) (maxL := 5) (ret := some .int) (by decide) rfl ?_
  intro p e s m args below meth c s₁ B hml hv
  obtain ⟨rfl, hsz, hP, hK2, hD0, hex⟩ := hv
  have hts := atoms_spec (ws := wsL_decode) B.pre
  have hown : s.vm.findClass RL = some m.cls := findClass_of_methodNamed B.named
  subst hsz
  have hD := hD0.self (sz := s.heap.size)
  have F : Fx p s m ([.ref (ad 0), .int (zI t), .int (zI i), .ref q] : List Value).toArray c cL_decode 5 RL wsL_decode D cA (va_A (wL cA ad σ 0 LC ++ wO q cJ f) s.heap.size) := ⟨⟨B.exec, B.bytes, hml, hown, hts⟩, hK2.sub [0, 1] rfl, fun q h => Or.inr h⟩
  have hl := lv_entry ([.ref (ad 0), .int (zI t), .int (zI i), .ref q] : List Value) (n := 5) (Nat.le_of_ble_eq_true rfl)
  rw [lg_entry_eq]
  refine lv_aload_n F.1.1 F.1.2.1 (tdec tL_decode_ok 0 (q := (0, .aload_n 3, 1, 0)) rfl) rfl (hl.2.2 (3, .ref q) (List.mem_of_getElem? (i := 3) rfl)) ?_
  refine lv_iconst (v := zI 0) F.1.1 F.1.2.1 (tdec tL_decode_ok 1 (q := (1, .iconst 0, 2, 0)) rfl) rfl ?_
  refine lv_aload_n F.1.1 F.1.2.1 (tdec tL_decode_ok 2 (q := (2, .aload_n 0, 3, 0)) rfl) rfl (hl.2.2 (0, .ref (ad 0)) (List.mem_of_getElem? (i := 0) rfl)) ?_
  refine lv_iload_n F.1.1 F.1.2.1 (tdec tL_decode_ok 3 (q := (3, .iload_n 1, 4, 0)) rfl) rfl (hl.2.2 (1, .int (zI t)) (List.mem_of_getElem? (i := 1) rfl)) ?_
  refine lv_iload_n F.1.1 F.1.2.1 (tdec tL_decode_ok 4 (q := (4, .iload_n 2, 5, 0)) rfl) rfl (hl.2.2 (2, .int (zI i)) (List.mem_of_getElem? (i := 2) rfl)) ?_
  refine Wd.callVi F (wa := []) (wb := wO q cJ f) (vs := [.inr t, .inr i]) (rest := [.int (zI 0), .ref q]) (j := 0) (oL_decode_X5_decode 0) (tdec tL_decode_ok 5 (q := (5, .invokevirtual 7, 8, 0)) rfl) rfl rfl (Nat.le_of_ble_eq_true rfl) ⟨Nat.zero_le _, Nat.zero_le _⟩ (c_X5_decode h ht' hi hn) (fun r τ hin hp => ?_) s.heap [] _ hP hD va_S.rf hl
  obtain ⟨hr, hτ⟩ := hp
  subst hτ
  intro H1 locs1 ls1 hP1 hD1 hS1 hl1
  refine lv_i2l F.1.1 F.1.2.1 (tdec tL_decode_ok 6 (q := (8, .i2l, 9, 0)) rfl) rfl ?_
  refine va_last F.1.1 F.1.2.1 hK2 hP1 hD1 hS1 24 2 (cA := cJ) (n := 1) (f := f) rfl rfl (by show ¬ (zI 0 < 0 ∨ 1 ≤ (zI 0).toNatClampNeg); decide) (tdec tL_decode_ok 7 (q := (9, .lastore, 10, 0)) rfl) (fun H2 locs2 hP2 hD2 hS2 => ?_)
  refine lv_goto F.1.1 F.1.2.1 (tgt := 17) (tdec tL_decode_ok 8 (q := (10, .goto 7, 13, 17)) rfl) (by decide) ?_
  refine lv_iconst (v := zI 0) F.1.1 F.1.2.1 (tdec tL_decode_ok 12 (q := (17, .iconst 0, 18, 0)) rfl) rfl ?_
  refine W.iret F.1.1 F.1.2.1 B.returns (fun t' ht hW => ⟨⟨zI 0, vp_updL f (zI 0).toNatClampNeg (zI r).toInt64, rfl, ⟨rfl, ?_⟩, ?_⟩, hS2.F ht⟩) hS2.2.2 (tdec tL_decode_ok 13 (q := (18, .ireturn, 19, 0)) rfl) B.notSynchronized
  · rw [hr]
    rfl
  · show va_P D vwCl (wL cA ad τ 0 LC ++ wO q cJ (vp_updL f (zI 0).toNatClampNeg (zI r).toInt64)) t'.heap
    rw [ht]
    exact hP2
theorem c_L_decodeT (hst : l.stackTraces = false) {t i : Int} (h : RC σ T ps P) (ht' : inR t) (hi : inR i) (hn : dThr ps t i) : Lk l D cA cJ ad q σ f t i 1 (fun r u => r = zI 1 ∧ u = f) := by
  intro sz
  refine va_MetW (hh := [(0, 10, 13, 13)]) (cc := cL_decode) (maxL := 5) (ret := some .int) (by decide) rfl ?_
  intro p e s m args below meth c s₁ B hml hv
  obtain ⟨rfl, hsz, hP, hK2, hD0, hex⟩ := hv
  have hts := atoms_spec (ws := wsL_decode) B.pre
  have hown : s.vm.findClass RL = some m.cls := findClass_of_methodNamed B.named
  have htab : c.exceptionTable.toList = [⟨0, 10, 13, 13⟩] := by
    obtain ⟨m9, meth9, c9, hn9, h1, h2, -, -, h3, -⟩ := Cond.codeWith_spec (hts _ List.mem_cons_self)
    cases B.named.symm.trans hn9
    cases B.method.symm.trans h1
    cases (Stand.of_body B).code.symm.trans h2
    have := table_eq c.exceptionTable.toList
    rw [h3] at this
    exact this.symm
  subst hsz
  have hD := hD0.self (sz := s.heap.size)
  have F : Fx p s m ([.ref (ad 0), .int (zI t), .int (zI i), .ref q] : List Value).toArray c cL_decode 5 RL wsL_decode D cA (va_A (wL cA ad σ 0 LC ++ wO q cJ f) s.heap.size) := ⟨⟨B.exec, B.bytes, hml, hown, hts⟩, hK2.sub [0, 1] rfl, fun q h => Or.inr h⟩
  have hl := lv_entry ([.ref (ad 0), .int (zI t), .int (zI i), .ref q] : List Value) (n := 5) (Nat.le_of_ble_eq_true rfl)
  rw [lg_entry_eq]
  refine lv_aload_n F.1.1 F.1.2.1 (tdec tL_decode_ok 0 (q := (0, .aload_n 3, 1, 0)) rfl) rfl (hl.2.2 (3, .ref q) (List.mem_of_getElem? (i := 3) rfl)) ?_
  refine lv_iconst (v := zI 0) F.1.1 F.1.2.1 (tdec tL_decode_ok 1 (q := (1, .iconst 0, 2, 0)) rfl) rfl ?_
  refine lv_aload_n F.1.1 F.1.2.1 (tdec tL_decode_ok 2 (q := (2, .aload_n 0, 3, 0)) rfl) rfl (hl.2.2 (0, .ref (ad 0)) (List.mem_of_getElem? (i := 0) rfl)) ?_
  refine lv_iload_n F.1.1 F.1.2.1 (tdec tL_decode_ok 3 (q := (3, .iload_n 1, 4, 0)) rfl) rfl (hl.2.2 (1, .int (zI t)) (List.mem_of_getElem? (i := 1) rfl)) ?_
  refine lv_iload_n F.1.1 F.1.2.1 (tdec tL_decode_ok 4 (q := (4, .iload_n 2, 5, 0)) rfl) rfl (hl.2.2 (2, .int (zI i)) (List.mem_of_getElem? (i := 2) rfl)) ?_
  generalize (lg_sl ([.ref (ad 0), .int (zI t), .int (zI i), .ref q] : List Value) ++ List.replicate (5 - (lg_sl ([.ref (ad 0), .int (zI t), .int (zI i), .ref q] : List Value)).length) Slot.unset).toArray = ls at hl
  intro T1 hT1 X
  have hP0 : va_P D vwCl ([] ++ (wL cA ad σ 0 LC ++ wO q cJ f)) s.heap := hP
  have hD1 : va_D (va_A (wL cA ad σ 0 LC ++ wO q cJ f) s.heap.size) ([] ++ (wL cA ad σ 0 LC ++ wO q cJ f)) := hD
  have hPc := hP0.mid
  have hDc := hD1.mid
  obtain ⟨cellB, hcB, hoB, hclB⟩ := va_recv (q := (RX5, TX5, 5)) F.2.1 hPc rfl (wL_at (j := 0) (x := .inl (6, [.inl 1, .inl 2, .inl 3, .inl 4, .inl 5])) rfl)
  have gm : ∀ w ∈ wsV RL 7 RX5 yX5_decode wsX5_decode, w.before ([.ref (ad 0), .int (zI t), .int (zI i), .ref q] : List Value).toArray s = true := fun w hw => hts w (gL_decode_X5_decode w hw).1
  obtain ⟨vm₁, mk, o, s₂, X₁, hend, hq, hgo⟩ := callT X F.1.1 (own := RL) (C := RX5) (index := 7) (y := yX5_decode) (bytes := cX5_decode) (maxL := 3) (ret := some .int) hown (gm _ (List.mem_of_getElem? (i := 0) rfl)) (gm _ (List.mem_of_getElem? (i := 1) rfl)) (gm _ (List.mem_of_getElem? (i := 2) rfl)) (gm _ (List.mem_of_getElem? (i := 4) rfl)) (gm _ (List.mem_of_getElem? (i := 3) rfl)) (by decide) (c_X5_decodeT (ad := ad) (cA := cA) (D := D) hst h ht' hi hn s.heap.size) (by decide) (by decide) (by decide) (by decide) (pay_in hts ggL_decode_X5_decode) (b := ad 0) (by rw [hT1]; exact hcB) hoB hclB (g := F0 m 5 ls [.int (zI i), .int (zI t), .ref (ad 0), .int (zI 0), .ref q]) rfl (hl.1.trans hml.symm) (argsL := [.int (zI t), .int (zI i)]) (rest := [.int (zI 0), .ref q]) (fun sig hs => by
      have h9 : (parseMethodDescriptor yX5_decode.desc).map (fun d => d.parameters.length) = some 2 := by decide +kernel
      rw [hs] at h9
      exact (Option.some.inj h9).symm) rfl (by show 2 * 0 + (1 + (1 + 0)) ≤ 8; decide) (by rw [B.bytes]; exact (tdec tL_decode_ok 5 (q := (5, .invokevirtual 7, 8, 0)) rfl)) (fun v g' mk hW => ⟨rfl, by show T1.heap.size = s.heap.size; rw [hT1], by show va_P D vwCl _ T1.heap; rw [hT1]; exact hPc, va_K.moved (U := (T1.setVm v).calling g' mk _) hW.alike F.2.1, hDc.weaken (fun _ _ _ _ => trivial), hex.1.kept (U := (T1.setVm v).calling g' mk _) hW (fun a cell h9 _ => by show T1.heap[a]? = some cell; rw [hT1]; exact h9)⟩)
  obtain ⟨x, ce, L', rfl, hW2, hsame, hL', hF2, hP2, hx, hfc, hvm⟩ := hq
  obtain ⟨T', X', hWT, hsT, htt⟩ := X₁.outOfThrown (g := F0 m 5 ls [.int (zI 0), .ref q]) rfl hend hW2 hsame
  have hh : T'.heap = s₂.heap := by rw [htt]; exact (Stand.throwing_heap T' _ x).symm
  obtain ⟨vm', X'', hgo2⟩ := cat_steps X' (a := x) (g := F0 m 5 ls [.int (zI 0), .ref q]) rfl hown (name := RJx00060) htab rfl (by decide) (word_at (State.WarmedH.refl s) (Or.inl rfl) hex.2) (cell := ce) (by rw [← X₁.warmed.alike.findClass]; exact hfc) (by rw [hh]; exact hx) (by rw [hvm]; rfl)
  have sub : ∀ y, va_A (wL cA ad σ 0 LC) s.heap.size y → va_A (wL cA ad σ 0 LC ++ wO q cJ f) s.heap.size y := by
    rintro y (⟨k, z, hk⟩ | h9)
    · exact Or.inl ⟨k, z, by rw [List.getElem?_append_left (List.getElem?_eq_some_iff.mp hk).1]; exact hk⟩
    · exact Or.inr h9
  have hF3 : s.heap.size ≤ s₂.heap.size ∧ ∀ y : Nat, y < s.heap.size → ¬ va_A (wL cA ad σ 0 LC) s.heap.size y → s₂.heap[y]? = s.heap[y]? := by
    have h8 := hF2
    unfold va_F at h8
    rw [show ((T1.setVm vm₁).calling { F0 m 5 ls [.int (zI i), .int (zI t), .ref (ad 0), .int (zI 0), .ref q] with stack := [.int (zI 0), .ref q] } mk (Value.ref (ad 0) :: [.int (zI t), .int (zI i)]).toArray).heap = s.heap from hT1] at h8
    exact h8
  obtain ⟨j1, j2⟩ := fr_join hP0 hD1 hF3.2 hP2 rfl
  have w13 : W p l e (rL 1) s m ([.ref (ad 0), .int (zI t), .int (zI i), .ref q] : List Value).toArray below meth c s₂.heap ([] ++ L') (0 + 1) (0 + 6) (MQ below (va_Qi (fun r u => r = zI 1 ∧ u = f) (fun (u : Nat → Int64) (t' : State) => va_P D vwCl (wL cA ad σ 0 LC ++ wO q cJ u) t'.heap) (va_A (wL cA ad σ 0 LC ++ wO q cJ f) s.heap.size)) ([.ref (ad 0), .int (zI t), .int (zI i), .ref q] : List Value).toArray s 1 (6 * 1) (va_A (wL cA ad σ 0 LC ++ wO q cJ f) s.heap.size)) (F0 m 13 ls [.ref x]) := by
    refine lv_astore F.1.1 F.1.2.1 (tdec tL_decode_ok 9 (q := (13, .astore 4, 15, 0)) rfl) hl (by decide) rfl (fun ls' hl' => ?_)
    refine lv_iconst (v := zI 1) F.1.1 F.1.2.1 (tdec tL_decode_ok 10 (q := (15, .iconst 1, 16, 0)) rfl) rfl ?_
    refine W.iret F.1.1 F.1.2.1 B.returns (fun t' ht hW => ⟨⟨zI 1, f, rfl, ⟨rfl, rfl⟩, ?_⟩, ⟨by rw [ht]; exact hF3.1, fun y h1 h2 => by rw [ht]; exact hF3.2 y h1 (fun z => h2 (sub y z))⟩⟩) (fun y hy => sub _ (hL' y hy)) (tdec tL_decode_ok 11 (q := (16, .ireturn, 17, 0)) rfl) B.notSynchronized
    show va_P D vwCl (wL cA ad σ 0 LC ++ wO q cJ f) t'.heap
    rw [ht]
    exact j1
  obtain ⟨u, a1, b1⟩ := w13 (T'.setVm vm') hh X''
  exact ⟨u, hgo u (by rw [htt]; exact hgo2 u a1), b1⟩
end Ld
end
section
/-! the law's words are the tables' -/
set_option maxRecDepth 20000 in
theorem lwi_1 : ∀ w ∈ wsL_law_r1, w ∈ lw_tbl := fun w h => (goodIn_p wsL_law_r1 [42, 45] (by decide +kernel) (by decide +kernel) w h).1
set_option maxRecDepth 20000 in
theorem lwi_2 : ∀ w ∈ wsL_law_r2, w ∈ lw_tbl := fun w h => (goodIn_p wsL_law_r2 [50, 72] (by decide +kernel) (by decide +kernel) w h).1
set_option maxRecDepth 20000 in
theorem lwi_3 : ∀ w ∈ wsL_law_r3, w ∈ lw_tbl := fun w h => (goodIn_p wsL_law_r3 [76, 113, 139] (by decide +kernel) (by decide +kernel) w h).1
set_option maxRecDepth 20000 in
theorem lwi_4 : ∀ w ∈ wsL_law_r4, w ∈ lw_tbl := fun w h => (goodIn_p wsL_law_r4 [158, 441] (by decide +kernel) (by decide +kernel) w h).1
set_option maxRecDepth 20000 in
theorem lwi_5 : ∀ w ∈ wsL_law_r5, w ∈ lw_tbl := fun w h => (goodIn_p wsL_law_r5 [195, 199, 502, 505, 203] (by decide +kernel) (by decide +kernel) w h).1
set_option maxRecDepth 20000 in
theorem lwi_6 : ∀ w ∈ wsL_law_r6, w ∈ lw_tbl := fun w h => (goodIn_p wsL_law_r6 [509, 207, 513, 211, 215, 517] (by decide +kernel) (by decide +kernel) w h).1
set_option maxRecDepth 20000 in
theorem lwi_7 : ∀ w ∈ wsL_law_r7, w ∈ lw_tbl := fun w h => (goodIn_p wsL_law_r7 [521, 219, 223, 230] (by decide +kernel) (by decide +kernel) w h).1
set_option maxRecDepth 20000 in
theorem lwi_8 : ∀ w ∈ wsL_law_r8, w ∈ lw_tbl := fun w h => (goodIn_p wsL_law_r8 [235, 239, 244, 248] (by decide +kernel) (by decide +kernel) w h).1
set_option maxRecDepth 20000 in
theorem lwi_9 : ∀ w ∈ wsL_law_r9, w ∈ lw_tbl := fun w h => (goodIn_p wsL_law_r9 [252, 256, 260, 264, 268, 272] (by decide +kernel) (by decide +kernel) w h).1
set_option maxRecDepth 20000 in
theorem lwi_10 : ∀ w ∈ wsL_law_r10, w ∈ lw_tbl := fun w h => (goodIn_p wsL_law_r10 [525, 529, 533, 537, 541] (by decide +kernel) (by decide +kernel) w h).1
set_option maxRecDepth 20000 in
theorem lwi_11 : ∀ w ∈ wsL_law_r11, w ∈ lw_tbl := fun w h => (goodIn_p wsL_law_r11 [545, 549, 553, 277, 557] (by decide +kernel) (by decide +kernel) w h).1
set_option maxRecDepth 20000 in
theorem lwi_12 : ∀ w ∈ wsL_law_r12, w ∈ lw_tbl := fun w h => (goodIn_p wsL_law_r12 [561, 282, 565, 286, 290, 569] (by decide +kernel) (by decide +kernel) w h).1
set_option maxRecDepth 20000 in
theorem lwi_13 : ∀ w ∈ wsL_law_r13, w ∈ lw_tbl := fun w h => (goodIn_p wsL_law_r13 [573, 364, 331, 577] (by decide +kernel) (by decide +kernel) w h).1
set_option maxRecDepth 20000 in
theorem lwi_14 : ∀ w ∈ wsL_law_r14, w ∈ lw_tbl := fun w h => (goodIn_p wsL_law_r14 [498, 295, 299, 581, 585, 303] (by decide +kernel) (by decide +kernel) w h).1
set_option maxRecDepth 20000 in
theorem lwi_15 : ∀ w ∈ wsL_law_r15, w ∈ lw_tbl := fun w h => (goodIn_p wsL_law_r15 [589, 307, 593, 311, 597] (by decide +kernel) (by decide +kernel) w h).1
set_option maxRecDepth 20000 in
theorem lwi_16 : ∀ w ∈ wsL_law_r16, w ∈ lw_tbl := fun w h => (goodIn_p wsL_law_r16 [315, 319, 323, 327] (by decide +kernel) (by decide +kernel) w h).1
set_option maxRecDepth 20000 in
theorem lwi_17 : ∀ w ∈ wsL_law_r17, w ∈ lw_tbl := fun w h => (goodIn_p wsL_law_r17 [335, 340, 601, 605, 609] (by decide +kernel) (by decide +kernel) w h).1
set_option maxRecDepth 20000 in
theorem lwi_18 : ∀ w ∈ wsL_law_r18, w ∈ lw_tbl := fun w h => (goodIn_p wsL_law_r18 [614, 618, 344, 348, 622, 352] (by decide +kernel) (by decide +kernel) w h).1
set_option maxRecDepth 20000 in
theorem lwi_19 : ∀ w ∈ wsL_law_r19, w ∈ lw_tbl := fun w h => (goodIn_p wsL_law_r19 [626, 356, 630] (by decide +kernel) (by decide +kernel) w h).1
theorem lwk_X5 : ∀ w ∈ wsX50, w ∈ lw_tbl := by decide +kernel
theorem lwk_X6 : ∀ w ∈ wsX60, w ∈ lw_tbl := by decide +kernel
theorem lwk_X3 : ∀ w ∈ wsX30, w ∈ lw_tbl := by decide +kernel
theorem lwk_X4 : ∀ w ∈ wsX40, w ∈ lw_tbl := by decide +kernel
theorem lwk_X2 : ∀ w ∈ wsX20, w ∈ lw_tbl := by decide +kernel
theorem lwk_X1 : ∀ w ∈ wsX10, w ∈ lw_tbl := by decide +kernel
theorem lwk_X0 : ∀ w ∈ wsX00, w ∈ lw_tbl := by decide +kernel
theorem lwk_Jx00060 : ∀ w ∈ wsJx000600, w ∈ lw_tbl := by decide +kernel
theorem mem_ap {a b big : List Cond} (ha : ∀ w ∈ a, w ∈ big) (hb : ∀ w ∈ b, w ∈ big) : ∀ w ∈ a ++ b, w ∈ big := fun w h => (List.mem_append.mp h).elim (ha w) (hb w)
theorem wsL_law_in : ∀ w ∈ wsL_law, w ∈ lw_tbl := mem_ap (mem_ap (mem_ap (mem_ap (mem_ap (mem_ap (mem_ap (mem_ap (mem_ap (mem_ap lwi_1 (mem_ap lwi_2 (mem_ap lwi_3 (mem_ap lwi_4 (mem_ap lwi_5 (mem_ap lwi_6 (mem_ap lwi_7 (mem_ap lwi_8 (mem_ap lwi_9 (mem_ap lwi_10 (mem_ap lwi_11 (mem_ap lwi_12 (mem_ap lwi_13 (mem_ap lwi_14 (mem_ap lwi_15 (mem_ap lwi_16 (mem_ap lwi_17 (mem_ap lwi_18 lwi_19)))))))))))))))))) lwk_X5) lwk_X6) lwk_X3) lwk_X4) lwk_X2) lwk_X1) lwk_X0) lwk_Jx00060) (fun _ h => absurd h List.not_mem_nil)
end
section
set_option maxRecDepth 20000 in
theorem ggL_law_X5_init : GoodIn wsL_law wsX5_init := goodIn_r _ [9, 10, 11, 12, 13, 14, 15, 16, 17, 18, 19, 20, 21, 22, 23, 24, 25, 26, 27, 28, 29, 30, 31, 32, 33, 34, 35, 36, 37, 38, 39, 40, 41, 42, 43, 44, 45, 46, 47, 48, 49, 50, 51, 52, 53, 54, 55, 56, 57, 58, 59, 60, 61, 62, 63, 64, 65, 66, 67, 68, 69, 70, 71, 72, 73, 74, 75, 76, 77, 78, 79, 465, 466, 443, 444, 445, 446, 447, 467, 468, 469, 470, 471, 472, 473, 474, 475, 476, 477, 478, 479, 480, 481, 482, 483, 484, 485] (by decide +kernel) (by decide +kernel)
set_option maxRecDepth 20000 in
theorem gL_law_X5_init : GoodIn wsL_law (wsX5_init) := ggL_law_X5_init
set_option maxRecDepth 20000 in
theorem ggL_law_X6_init : GoodIn wsL_law wsX6_init := goodIn_r _ [82, 83, 11, 12, 37, 84, 85, 86, 87, 88, 89, 90, 91, 92, 93, 94, 95, 96, 448, 449, 450, 451, 452, 453, 454, 455, 456, 457, 458, 459, 460, 461, 462, 463, 464] (by decide +kernel) (by decide +kernel)
set_option maxRecDepth 20000 in
theorem gL_law_X6_init : GoodIn wsL_law (wsX6_init) := ggL_law_X6_init
set_option maxRecDepth 20000 in
theorem ggL_law_X5_octet : GoodIn wsL_law wsX5_octet := goodIn_r _ [100, 16, 101, 102, 103, 104, 15, 105, 39, 38, 443, 444, 445, 446, 447, 465, 466] (by decide +kernel) (by decide +kernel)
set_option maxRecDepth 20000 in
theorem gL_law_X5_octet : GoodIn wsL_law (wsV RL 19 RX5 yX5_octet wsX5_octet) := goodIn_app (goodIn_of _ (by decide +kernel)) ggL_law_X5_octet
set_option maxRecDepth 20000 in
theorem ggL_law_X6_octet : GoodIn wsL_law wsX6_octet := goodIn_r _ [109, 110, 111, 84, 112, 113, 5, 114, 448, 449, 450, 451, 452, 453, 454, 455, 456, 457, 458, 459, 460, 461, 462, 463, 464] (by decide +kernel) (by decide +kernel)
set_option maxRecDepth 20000 in
theorem gL_law_X6_octet : GoodIn wsL_law (wsV RL 23 RX6 yX6_octet wsX6_octet) := goodIn_app (goodIn_of _ (by decide +kernel)) ggL_law_X6_octet
set_option maxRecDepth 20000 in
theorem ggL_law_X5_cut : GoodIn wsL_law wsX5_cut := goodIn_r _ [118, 16, 101, 443, 444, 445, 446, 447, 465, 466] (by decide +kernel) (by decide +kernel)
set_option maxRecDepth 20000 in
theorem gL_law_X5_cut : GoodIn wsL_law (wsV RL 24 RX5 yX5_cut wsX5_cut) := goodIn_app (goodIn_of _ (by decide +kernel)) ggL_law_X5_cut
set_option maxRecDepth 20000 in
theorem ggL_law_X6_cut : GoodIn wsL_law wsX6_cut := goodIn_r _ [122, 110, 111, 112, 113, 5, 114, 448, 449, 450, 451, 452, 453, 454, 455, 456, 457, 458, 459, 460, 461, 462, 463, 464] (by decide +kernel) (by decide +kernel)
set_option maxRecDepth 20000 in
theorem gL_law_X6_cut : GoodIn wsL_law (wsV RL 27 RX6 yX6_cut wsX6_cut) := goodIn_app (goodIn_of _ (by decide +kernel)) ggL_law_X6_cut
set_option maxRecDepth 20000 in
theorem ggL_law_X5_byteAt : GoodIn wsL_law wsX5_byteAt := goodIn_r _ [126, 16, 101, 127, 443, 444, 445, 446, 447, 465, 466] (by decide +kernel) (by decide +kernel)
set_option maxRecDepth 20000 in
theorem gL_law_X5_byteAt : GoodIn wsL_law (wsV RL 28 RX5 yX5_byteAt wsX5_byteAt) := goodIn_app (goodIn_of _ (by decide +kernel)) ggL_law_X5_byteAt
set_option maxRecDepth 20000 in
theorem ggL_law_X6_byteAt : GoodIn wsL_law wsX6_byteAt := goodIn_r _ [131, 110, 111, 84, 112, 113, 5, 114, 448, 449, 450, 451, 452, 453, 454, 455, 456, 457, 458, 459, 460, 461, 462, 463, 464] (by decide +kernel) (by decide +kernel)
set_option maxRecDepth 20000 in
theorem gL_law_X6_byteAt : GoodIn wsL_law (wsV RL 31 RX6 yX6_byteAt wsX6_byteAt) := goodIn_app (goodIn_of _ (by decide +kernel)) ggL_law_X6_byteAt
set_option maxRecDepth 20000 in
theorem ggL_law_X5_words : GoodIn wsL_law wsX5_words := goodIn_r _ [135, 16, 101, 136, 137, 138, 15, 139, 39, 38, 443, 444, 445, 446, 447, 465, 466] (by decide +kernel) (by decide +kernel)
set_option maxRecDepth 20000 in
theorem gL_law_X5_words : GoodIn wsL_law (wsV RL 32 RX5 yX5_words wsX5_words) := goodIn_app (goodIn_of _ (by decide +kernel)) ggL_law_X5_words
set_option maxRecDepth 20000 in
theorem ggL_law_X6_words : GoodIn wsL_law wsX6_words := goodIn_r _ [143, 110, 111, 144, 145, 146, 5, 147, 84, 448, 449, 450, 451, 452, 453, 454, 455, 456, 457, 458, 459, 460, 461, 462, 463, 464] (by decide +kernel) (by decide +kernel)
set_option maxRecDepth 20000 in
theorem gL_law_X6_words : GoodIn wsL_law (wsV RL 36 RX6 yX6_words wsX6_words) := goodIn_app (goodIn_of _ (by decide +kernel)) ggL_law_X6_words
set_option maxRecDepth 20000 in
theorem ggL_law_X5_learn : GoodIn wsL_law wsX5_learn := goodIn_r _ [151, 20, 16, 24, 152, 153, 154, 155, 19, 156, 157, 50, 158, 159, 160, 161, 49, 162, 163, 164, 23, 165, 166, 62, 60, 167, 61, 64, 168, 137, 138, 15, 139, 39, 38, 169, 170, 171, 2, 172, 28, 173, 174, 175, 176, 177, 178, 27, 179, 70, 180, 181, 182, 183, 53, 54, 55, 184, 185, 186, 187, 188, 189, 190, 191, 69, 71, 192, 193, 194, 195, 196, 197, 198, 199, 200, 201, 202, 203, 44, 45, 46, 47, 51, 48, 204, 205, 206, 207, 208, 209, 210, 211, 212, 213, 214, 215, 216, 443, 444, 445, 446, 447, 467, 468, 469, 470, 471, 472, 473, 474, 465, 466, 475, 476, 477, 478, 479, 480, 481] (by decide +kernel) (by decide +kernel)
set_option maxRecDepth 20000 in
theorem gL_law_X5_learn : GoodIn wsL_law (wsV RL 37 RX5 yX5_learn wsX5_learn) := goodIn_app (goodIn_of _ (by decide +kernel)) ggL_law_X5_learn
set_option maxRecDepth 20000 in
theorem ggL_law_X6_learn : GoodIn wsL_law wsX6_learn := goodIn_r _ [220, 110, 221, 222, 91, 112, 113, 5, 114, 223, 224, 225, 226, 111, 84, 92, 227, 228, 229, 230, 144, 145, 146, 147, 231, 232, 233, 234, 235, 236, 237, 238, 85, 86, 87, 88, 89, 90, 239, 240, 241, 242, 243, 244, 245, 246, 247, 248, 249, 250, 448, 449, 450, 451, 452, 453, 454, 455, 456, 457, 458, 459, 460, 461, 462, 463, 464] (by decide +kernel) (by decide +kernel)
set_option maxRecDepth 20000 in
theorem gL_law_X6_learn : GoodIn wsL_law (wsV RL 40 RX6 yX6_learn wsX6_learn) := goodIn_app (goodIn_of _ (by decide +kernel)) ggL_law_X6_learn
set_option maxRecDepth 20000 in
theorem ggL_law_X5_pair : GoodIn wsL_law wsX5_pair := goodIn_r _ [254, 20, 255, 256, 257, 209, 210, 19, 211, 49, 443, 444, 445, 446, 447, 467, 468, 469, 470, 471, 472, 473, 474] (by decide +kernel) (by decide +kernel)
set_option maxRecDepth 20000 in
theorem gL_law_X5_pair : GoodIn wsL_law (wsV RL 41 RX5 yX5_pair wsX5_pair) := goodIn_app (goodIn_of _ (by decide +kernel)) ggL_law_X5_pair
set_option maxRecDepth 20000 in
theorem ggL_law_X6_pair : GoodIn wsL_law wsX6_pair := goodIn_r _ [261, 110, 85, 86, 262, 263, 264, 5, 265, 221, 112, 113, 114, 448, 449, 450, 451, 452, 453, 454, 455, 456, 457, 458, 459, 460, 461, 462, 463, 464] (by decide +kernel) (by decide +kernel)
set_option maxRecDepth 20000 in
theorem gL_law_X6_pair : GoodIn wsL_law (wsV RL 44 RX6 yX6_pair wsX6_pair) := goodIn_app (goodIn_of _ (by decide +kernel)) ggL_law_X6_pair
set_option maxRecDepth 20000 in
theorem ggL_law_X5_count : GoodIn wsL_law wsX5_count := goodIn_r _ [269, 20, 270, 257, 209, 210, 19, 211, 49, 443, 444, 445, 446, 447, 467, 468, 469, 470, 471, 472, 473, 474] (by decide +kernel) (by decide +kernel)
set_option maxRecDepth 20000 in
theorem gL_law_X5_count : GoodIn wsL_law (wsV RL 45 RX5 yX5_count wsX5_count) := goodIn_app (goodIn_of _ (by decide +kernel)) ggL_law_X5_count
set_option maxRecDepth 20000 in
theorem ggL_law_X6_count : GoodIn wsL_law wsX6_count := goodIn_r _ [274, 110, 87, 262, 263, 264, 5, 265, 221, 112, 113, 114, 448, 449, 450, 451, 452, 453, 454, 455, 456, 457, 458, 459, 460, 461, 462, 463, 464] (by decide +kernel) (by decide +kernel)
set_option maxRecDepth 20000 in
theorem gL_law_X6_count : GoodIn wsL_law (wsV RL 48 RX6 yX6_count wsX6_count) := goodIn_app (goodIn_of _ (by decide +kernel)) ggL_law_X6_count
set_option maxRecDepth 20000 in
theorem ggL_law_X5_size : GoodIn wsL_law wsX5_size := goodIn_r _ [278, 20, 279, 280, 281, 19, 282, 49, 283, 205, 206, 207, 47, 208, 209, 210, 211, 443, 444, 445, 446, 447, 467, 468, 469, 470, 471, 472, 473, 474] (by decide +kernel) (by decide +kernel)
set_option maxRecDepth 20000 in
theorem gL_law_X5_size : GoodIn wsL_law (wsV RL 49 RX5 yX5_size wsX5_size) := goodIn_app (goodIn_of _ (by decide +kernel)) ggL_law_X5_size
set_option maxRecDepth 20000 in
theorem ggL_law_X6_size : GoodIn wsL_law wsX6_size := goodIn_r _ [287, 110, 288, 289, 290, 5, 291, 221, 112, 113, 114, 239, 240, 241, 242, 88, 448, 449, 450, 451, 452, 453, 454, 455, 456, 457, 458, 459, 460, 461, 462, 463, 464] (by decide +kernel) (by decide +kernel)
set_option maxRecDepth 20000 in
theorem gL_law_X6_size : GoodIn wsL_law (wsV RL 52 RX6 yX6_size wsX6_size) := goodIn_app (goodIn_of _ (by decide +kernel)) ggL_law_X6_size
set_option maxRecDepth 20000 in
theorem ggL_law_L_decode : GoodIn wsL_law wsL_decode := goodIn_r _ [295, 296, 297, 298, 2, 299, 20, 300, 301, 302, 279, 280, 281, 19, 282, 49, 283, 205, 206, 207, 47, 208, 209, 210, 211, 303, 304, 305, 306, 51, 50, 443, 444, 445, 446, 447, 486, 487, 488, 489, 490, 491, 467, 468, 469, 470, 471, 472, 473, 474] (by decide +kernel) (by decide +kernel)
set_option maxRecDepth 20000 in
theorem gL_law_L_decode : GoodIn wsL_law (va_wsS RL 53 yL_decode wsL_decode) := goodIn_app (goodIn_of _ (by decide +kernel)) ggL_law_L_decode
set_option maxRecDepth 20000 in
theorem ggL_law_X6_decode : GoodIn wsL_law wsX6_decode := goodIn_r _ [310, 110, 288, 289, 290, 5, 291, 221, 112, 113, 114, 239, 240, 241, 242, 88, 243, 244, 245, 246, 89, 448, 449, 450, 451, 452, 453, 454, 455, 456, 457, 458, 459, 460, 461, 462, 463, 464] (by decide +kernel) (by decide +kernel)
set_option maxRecDepth 20000 in
theorem gL_law_X6_decode : GoodIn wsL_law (wsV RL 58 RX6 yX6_decode wsX6_decode) := goodIn_app (goodIn_of _ (by decide +kernel)) ggL_law_X6_decode
set_option maxRecDepth 20000 in
theorem ggL_law_X6_thrown : GoodIn wsL_law wsX6_thrown := goodIn_r _ [314, 110, 448, 449, 450, 451, 452, 453, 454, 455, 456, 457, 458, 459, 460, 461, 462, 463, 464] (by decide +kernel) (by decide +kernel)
set_option maxRecDepth 20000 in
theorem gL_law_X6_thrown : GoodIn wsL_law (wsV RL 59 RX6 yX6_thrown wsX6_thrown) := goodIn_app (goodIn_of _ (by decide +kernel)) ggL_law_X6_thrown
set_option maxRecDepth 20000 in
theorem ggL_law_X5_tokens : GoodIn wsL_law wsX5_tokens := goodIn_r _ [318, 24, 319, 320, 321, 322, 2, 323, 16, 20, 152, 255, 256, 162, 163, 164, 23, 165, 166, 62, 60, 167, 61, 64, 168, 137, 138, 15, 139, 39, 38, 212, 213, 214, 215, 216, 185, 186, 187, 443, 444, 445, 446, 447, 475, 476, 477, 478, 467, 468, 469, 470, 471, 472, 473, 474, 465, 466] (by decide +kernel) (by decide +kernel)
set_option maxRecDepth 20000 in
theorem gL_law_X5_tokens : GoodIn wsL_law (wsV RL 62 RX5 yX5_tokens wsX5_tokens) := goodIn_app (goodIn_of _ (by decide +kernel)) ggL_law_X5_tokens
set_option maxRecDepth 20000 in
theorem ggL_law_X6_tokens : GoodIn wsL_law wsX6_tokens := goodIn_r _ [327, 110, 222, 328, 329, 330, 5, 331, 221, 85, 86, 223, 224, 225, 226, 111, 91, 84, 92, 247, 248, 249, 250, 227, 228, 229, 230, 144, 145, 146, 147, 448, 449, 450, 451, 452, 453, 454, 455, 456, 457, 458, 459, 460, 461, 462, 463, 464] (by decide +kernel) (by decide +kernel)
set_option maxRecDepth 20000 in
theorem gL_law_X6_tokens : GoodIn wsL_law (wsV RL 65 RX6 yX6_tokens wsX6_tokens) := goodIn_app (goodIn_of _ (by decide +kernel)) ggL_law_X6_tokens
set_option maxRecDepth 20000 in
theorem ggL_law_X5_at : GoodIn wsL_law wsX5_at := goodIn_r _ [335, 24, 319, 336, 320, 321, 322, 2, 323, 16, 20, 152, 255, 256, 162, 163, 164, 23, 165, 166, 62, 60, 167, 61, 64, 168, 137, 138, 15, 139, 39, 38, 212, 213, 214, 215, 216, 185, 186, 187, 443, 444, 445, 446, 447, 475, 476, 477, 478, 467, 468, 469, 470, 471, 472, 473, 474, 465, 466] (by decide +kernel) (by decide +kernel)
set_option maxRecDepth 20000 in
theorem gL_law_X5_at : GoodIn wsL_law (wsV RL 66 RX5 yX5_at wsX5_at) := goodIn_app (goodIn_of _ (by decide +kernel)) ggL_law_X5_at
set_option maxRecDepth 20000 in
theorem ggL_law_X6_at : GoodIn wsL_law wsX6_at := goodIn_r _ [340, 110, 222, 91, 328, 329, 330, 5, 331, 221, 85, 86, 223, 224, 225, 226, 111, 84, 92, 247, 248, 249, 250, 227, 228, 229, 230, 144, 145, 146, 147, 112, 113, 114, 448, 449, 450, 451, 452, 453, 454, 455, 456, 457, 458, 459, 460, 461, 462, 463, 464] (by decide +kernel) (by decide +kernel)
set_option maxRecDepth 20000 in
theorem gL_law_X6_at : GoodIn wsL_law (wsV RL 69 RX6 yX6_at wsX6_at) := goodIn_app (goodIn_of _ (by decide +kernel)) ggL_law_X6_at
set_option maxRecDepth 20000 in
theorem ggL_law_X5_from : GoodIn wsL_law wsX5_from := goodIn_r _ [344, 24, 319, 345, 320, 321, 322, 2, 323, 16, 20, 152, 255, 256, 162, 163, 164, 23, 165, 166, 62, 60, 167, 61, 64, 168, 137, 138, 15, 139, 39, 38, 212, 213, 214, 215, 216, 185, 186, 187, 443, 444, 445, 446, 447, 475, 476, 477, 478, 467, 468, 469, 470, 471, 472, 473, 474, 465, 466] (by decide +kernel) (by decide +kernel)
set_option maxRecDepth 20000 in
theorem gL_law_X5_from : GoodIn wsL_law (wsV RL 70 RX5 yX5_from wsX5_from) := goodIn_app (goodIn_of _ (by decide +kernel)) ggL_law_X5_from
set_option maxRecDepth 20000 in
theorem ggL_law_X6_from : GoodIn wsL_law wsX6_from := goodIn_r _ [349, 110, 222, 92, 328, 329, 330, 5, 331, 221, 85, 86, 223, 224, 225, 226, 111, 91, 84, 247, 248, 249, 250, 227, 228, 229, 230, 144, 145, 146, 147, 112, 113, 114, 448, 449, 450, 451, 452, 453, 454, 455, 456, 457, 458, 459, 460, 461, 462, 463, 464] (by decide +kernel) (by decide +kernel)
set_option maxRecDepth 20000 in
theorem gL_law_X6_from : GoodIn wsL_law (wsV RL 73 RX6 yX6_from wsX6_from) := goodIn_app (goodIn_of _ (by decide +kernel)) ggL_law_X6_from
set_option maxRecDepth 20000 in
theorem ggL_law_X5_points : GoodIn wsL_law wsX5_points := goodIn_r _ [353, 20, 354, 279, 280, 281, 19, 282, 49, 443, 444, 445, 446, 447, 467, 468, 469, 470, 471, 472, 473, 474] (by decide +kernel) (by decide +kernel)
set_option maxRecDepth 20000 in
theorem gL_law_X5_points : GoodIn wsL_law (wsV RL 74 RX5 yX5_points wsX5_points) := goodIn_app (goodIn_of _ (by decide +kernel)) ggL_law_X5_points
set_option maxRecDepth 20000 in
theorem ggL_law_X6_points : GoodIn wsL_law wsX6_points := goodIn_r _ [358, 110, 90, 288, 289, 290, 5, 291, 221, 112, 113, 114, 448, 449, 450, 451, 452, 453, 454, 455, 456, 457, 458, 459, 460, 461, 462, 463, 464] (by decide +kernel) (by decide +kernel)
set_option maxRecDepth 20000 in
theorem gL_law_X6_points : GoodIn wsL_law (wsV RL 77 RX6 yX6_points wsX6_points) := goodIn_app (goodIn_of _ (by decide +kernel)) ggL_law_X6_points
set_option maxRecDepth 20000 in
theorem ggL_law_X5_best : GoodIn wsL_law wsX5_best := goodIn_r _ [362, 32, 16, 20, 363, 364, 365, 366, 31, 367, 368, 76, 77, 78, 369, 370, 371, 372, 373, 374, 375, 79, 376, 377, 378, 19, 379, 380, 157, 204, 205, 206, 207, 47, 208, 209, 210, 211, 49, 381, 304, 305, 306, 51, 50, 382, 383, 384, 385, 386, 387, 388, 389, 390, 391, 443, 444, 445, 446, 447, 482, 483, 484, 485, 465, 466, 467, 468, 469, 470, 471, 472, 473, 474] (by decide +kernel) (by decide +kernel)
set_option maxRecDepth 20000 in
theorem gL_law_X5_best : GoodIn wsL_law (wsV RL 78 RX5 yX5_best wsX5_best) := goodIn_app (goodIn_of _ (by decide +kernel)) ggL_law_X5_best
set_option maxRecDepth 20000 in
theorem ggL_law_X6_best : GoodIn wsL_law wsX6_best := goodIn_r _ [395, 110, 94, 111, 396, 397, 398, 5, 399, 93, 96, 84, 221, 400, 401, 402, 403, 90, 404, 95, 239, 240, 241, 242, 88, 405, 406, 407, 408, 409, 410, 411, 412, 243, 244, 245, 246, 89, 144, 145, 146, 147, 448, 449, 450, 451, 452, 453, 454, 455, 456, 457, 458, 459, 460, 461, 462, 463, 464] (by decide +kernel) (by decide +kernel)
set_option maxRecDepth 20000 in
theorem gL_law_X6_best : GoodIn wsL_law (wsV RL 81 RX6 yX6_best wsX6_best) := goodIn_app (goodIn_of _ (by decide +kernel)) ggL_law_X6_best
set_option maxRecDepth 20000 in
theorem ggL_law_X5_bestAt : GoodIn wsL_law wsX5_bestAt := goodIn_r _ [416, 32, 16, 20, 363, 364, 365, 366, 31, 367, 368, 76, 77, 78, 369, 370, 371, 372, 373, 374, 375, 79, 376, 377, 378, 19, 379, 380, 157, 204, 205, 206, 207, 47, 208, 209, 210, 211, 49, 381, 304, 305, 306, 51, 50, 382, 383, 384, 385, 386, 387, 388, 389, 390, 391, 417, 418, 419, 420, 443, 444, 445, 446, 447, 482, 483, 484, 485, 465, 466, 467, 468, 469, 470, 471, 472, 473, 474] (by decide +kernel) (by decide +kernel)
set_option maxRecDepth 20000 in
theorem gL_law_X5_bestAt : GoodIn wsL_law (wsV RL 82 RX5 yX5_bestAt wsX5_bestAt) := goodIn_app (goodIn_of _ (by decide +kernel)) ggL_law_X5_bestAt
set_option maxRecDepth 20000 in
theorem ggL_law_X6_bestAt : GoodIn wsL_law wsX6_bestAt := goodIn_r _ [424, 110, 94, 111, 95, 396, 397, 398, 5, 399, 93, 96, 84, 221, 400, 401, 402, 403, 90, 404, 239, 240, 241, 242, 88, 405, 406, 407, 408, 409, 410, 411, 412, 243, 244, 245, 246, 89, 144, 145, 146, 147, 112, 113, 114, 448, 449, 450, 451, 452, 453, 454, 455, 456, 457, 458, 459, 460, 461, 462, 463, 464] (by decide +kernel) (by decide +kernel)
set_option maxRecDepth 20000 in
theorem gL_law_X6_bestAt : GoodIn wsL_law (wsV RL 85 RX6 yX6_bestAt wsX6_bestAt) := goodIn_app (goodIn_of _ (by decide +kernel)) ggL_law_X6_bestAt
set_option maxRecDepth 20000 in
theorem ggL_law_X5_sum : GoodIn wsL_law wsX5_sum := goodIn_r _ [428, 32, 16, 20, 429, 364, 365, 366, 31, 367, 368, 76, 77, 78, 369, 370, 371, 372, 373, 374, 375, 79, 376, 377, 378, 19, 379, 380, 157, 204, 205, 206, 207, 47, 208, 209, 210, 211, 49, 381, 304, 305, 306, 51, 50, 382, 383, 384, 385, 386, 387, 388, 389, 390, 391, 443, 444, 445, 446, 447, 482, 483, 484, 485, 465, 466, 467, 468, 469, 470, 471, 472, 473, 474] (by decide +kernel) (by decide +kernel)
set_option maxRecDepth 20000 in
theorem gL_law_X5_sum : GoodIn wsL_law (wsV RL 86 RX5 yX5_sum wsX5_sum) := goodIn_app (goodIn_of _ (by decide +kernel)) ggL_law_X5_sum
set_option maxRecDepth 20000 in
theorem ggL_law_X6_sum : GoodIn wsL_law wsX6_sum := goodIn_r _ [433, 110, 93, 111, 396, 397, 398, 5, 399, 94, 96, 84, 221, 400, 401, 402, 403, 90, 404, 95, 239, 240, 241, 242, 88, 405, 406, 407, 408, 409, 410, 411, 412, 243, 244, 245, 246, 89, 144, 145, 146, 147, 448, 449, 450, 451, 452, 453, 454, 455, 456, 457, 458, 459, 460, 461, 462, 463, 464] (by decide +kernel) (by decide +kernel)
set_option maxRecDepth 20000 in
theorem gL_law_X6_sum : GoodIn wsL_law (wsV RL 89 RX6 yX6_sum wsX6_sum) := goodIn_app (goodIn_of _ (by decide +kernel)) ggL_law_X6_sum
set_option maxRecDepth 20000 in
theorem ggL_law_X5_ways : GoodIn wsL_law wsX5_ways := goodIn_r _ [437, 32, 16, 20, 438, 364, 365, 366, 31, 367, 368, 76, 77, 78, 369, 370, 371, 372, 373, 374, 375, 79, 376, 377, 378, 19, 379, 380, 157, 204, 205, 206, 207, 47, 208, 209, 210, 211, 49, 381, 304, 305, 306, 51, 50, 382, 383, 384, 385, 386, 387, 388, 389, 390, 391, 443, 444, 445, 446, 447, 482, 483, 484, 485, 465, 466, 467, 468, 469, 470, 471, 472, 473, 474] (by decide +kernel) (by decide +kernel)
set_option maxRecDepth 20000 in
theorem gL_law_X5_ways : GoodIn wsL_law (wsV RL 90 RX5 yX5_ways wsX5_ways) := goodIn_app (goodIn_of _ (by decide +kernel)) ggL_law_X5_ways
set_option maxRecDepth 20000 in
theorem ggL_law_X6_ways : GoodIn wsL_law wsX6_ways := goodIn_r _ [442, 110, 96, 111, 396, 397, 398, 5, 399, 93, 94, 84, 221, 400, 401, 402, 403, 90, 404, 95, 239, 240, 241, 242, 88, 405, 406, 407, 408, 409, 410, 411, 412, 243, 244, 245, 246, 89, 144, 145, 146, 147, 448, 449, 450, 451, 452, 453, 454, 455, 456, 457, 458, 459, 460, 461, 462, 463, 464] (by decide +kernel) (by decide +kernel)
set_option maxRecDepth 20000 in
theorem gL_law_X6_ways : GoodIn wsL_law (wsV RL 93 RX6 yX6_ways wsX6_ways) := goodIn_app (goodIn_of _ (by decide +kernel)) ggL_law_X6_ways
end
section
/-! the law: its end, as the skeleton has it -/
def R_law : String := "PairTokensLaw"
def lw_P (b : Addr) (xs : List Int32) (args : Array Value) (s : State) : Prop := args = #[.ref b] ∧ s.IntsAt b xs ∧ xs.length ≤ 1536 ∧ (Jvm.Cond.and given_1 narrow_1).before args s = true
def lw_Q (_ : Array Value) (s : State) (o : Outcome) (t : State) : Prop := o = .returned (some (.int 1)) ∧ Framed s o t [] 1064 30041
def lw_Z (below : List Frame) (a : Array Value) (s : State) : State → Prop := fun t => ∃ o, t.status = .running ∧ Ended t below o ∧ lw_Q a s o t
/-- the law's own end, with 1 on the stack, nothing written that was there before, its room as the claim has it -/
theorem lw_ret {p : Program} {l : Launch} {e : Env} {s : State} {m : MethodId} {below : List Frame} {meth : Method} {c : Code} {b : Nat} (hx : p.tables.exec = Jvm.exec) (hb : c.code = code) (hr : meth.sig.returnType = ret) (hlocks : meth.locks = false) {pc : Nat} {H : Heap} {ls : Array Slot} (hdg : decode code pc = .ok (.ireturn, 1)) : W p l e room_1 s m #[Value.ref b] below meth c H [] 1064 30041 (lw_Z below #[Value.ref b] s) (F0 m pc ls [.int 1]) := by
  intro T hT X
  obtain ⟨fs, hret, hrun, hended, hW, hframe⟩ := X.leave (v := some (.int 1)) (hlocks := hlocks) (fun h => by rw [hr] at h; cases h)
  have hmeth' : T.vm.method? m = some meth := X.method'
  refine ⟨T.setFrames fs, ?_, .returned (some (.int 1)), hrun, hended, rfl, ⟨_, rfl⟩, hW, hframe⟩
  jvm_step X.here [X.here.top, hx, hb, hdg, hmeth', hr, ret, narrow_b1]
  (try refine ⟨rfl, ?_⟩); (try refine ⟨rfl, ?_⟩)
  first | (intro acts; rw [hret _ acts rfl rfl rfl]) | rw [hret _ _ rfl rfl rfl]
  exact Steps.refl _
/-- what holds at the law's entry: the machine, the code, the tables' words (any of lw_tbl by 'hts w (by decide +kernel)'), the script of L ints xs at the cell b, what the Statement gives of the start (any of its parts by flat_of_before) -/
def lw_At (p : Program) (s : State) (m : MethodId) (meth : Method) (c : Code) (b L : Nat) (xs : Nat → Int32) : Prop :=
  p.tables.exec = Jvm.exec ∧ c.code = code ∧ meth.sig.returnType = ret ∧ c.maxLocals = 7 ∧ s.vm.findClass R_law = some m.cls ∧ (∀ w ∈ lw_tbl, w.before #[Value.ref b] s = true) ∧ va_X b L xs s s.heap ∧ b < s.heap.size ∧ meth.locks = false ∧ (Jvm.Cond.and given_1 narrow_1).before #[Value.ref b] s = true

/-! worlds in another order -/
theorem perm_at {a b c : va_W} (i : Nat) : (b ++ (a ++ c))[i]? = ((a ++ b) ++ c)[if i < b.length then a.length + i else if i < b.length + a.length then i - b.length else i]? := by
  by_cases h1 : i < b.length
  · rw [if_pos h1, List.getElem?_append_left h1, List.getElem?_append_left (by rw [List.length_append]; omega), List.getElem?_append_right (by omega), show a.length + i - a.length = i by omega]
  · rw [if_neg h1, List.getElem?_append_right (by omega)]
    by_cases h2 : i < b.length + a.length
    · rw [if_pos h2, List.getElem?_append_left (by omega), List.getElem?_append_left (by rw [List.length_append]; omega), List.getElem?_append_left (by omega)]
    · rw [if_neg h2, List.getElem?_append_right (by omega), List.getElem?_append_right (by rw [List.length_append]; omega), List.length_append, show i - (a.length + b.length) = i - b.length - a.length by omega]
theorem perm_P {D : va_G} {a b c : va_W} {H : Heap} (h : va_P D vwCl ((a ++ b) ++ c) H) : va_P D vwCl (b ++ (a ++ c)) H := fun k z hz => h _ z (by rw [← perm_at]; exact hz)
theorem perm_D {A : Nat → Prop} {a b c : va_W} (h : va_D A ((a ++ b) ++ c)) : va_D A (b ++ (a ++ c)) := by
  refine ⟨fun i j x y hx hy e => ?_, fun k z hz => h.2 _ z (by rw [← perm_at]; exact hz)⟩
  rw [perm_at] at hx hy
  have h1 := h.1 _ _ x y hx hy e
  by_cases i1 : i < b.length <;> by_cases i2 : i < b.length + a.length <;> by_cases j1 : j < b.length <;> by_cases j2 : j < b.length + a.length <;> simp only [i1, i2, j1, j2, if_true, if_false] at h1 <;> omega
section Mk
variable {p : Program} {l : Launch} {e : Env} {R : Room} {s : State} {m : MethodId} {args : Array Value} {below : List Frame} {meth : Method} {c : Code} {cells slots : Nat} {Q : State → Prop} {D : va_G} {cA : Nat → ClassId} {nL : Nat} {A : Nat → Prop} {cc : ByteArray} {own : String} {Ts : List Cond} {pc : Nat} {lv : List (Nat × Value)} {base : va_W}
theorem Wd.mk (F : Fx p s m args c cc nL own Ts D cA A) {C2 : String} {T2 : u_T} {N2 ci2 idxn idxi mc ms : Nat} {fs2 : List Value} {y : MethodName} {ws ws' : List Cond} {rm : Room} {bytes : ByteArray} {maxL : Nat} {post : Nat → va_W → Prop} (ty2 : Nat → FieldType) (hty2 : ∀ k, k < N2 → parseFieldDescriptor (T2 k).2.2.1 = some (ty2 k)) (hin_2 : ∀ w ∈ u_ws C2 T2 N2, w ∈ Ts) (hc2 : vwCl[ci2]? = some (C2, T2, N2)) (hcl : Cond.classLink own idxn C2 ∈ Ts) (hinst : Cond.instantiable C2 N2 ∈ Ts) (hini : Cond.initialized C2 ∈ Ts) (hfs : ∀ j, j < N2 → defaultValue (ty2 j) = vp_V fs2 j)
    (hM : ∀ q, Ck l y ws rm D cA q [(q, .inr (ci2, fs2))] (post q) mc ms) (hG : GoodIn Ts ws) (hw : ws = Cond.code y bytes maxL none :: ws') (hrc : rm.cells = mc) (hrs : rm.slots = ms) (hyc : y.cls = C2) (hml : Cond.methodLink own idxi y ∈ Ts) (hmi : Cond.instanceMethod y ∈ Ts) (hyn : y.name = "<init>") (hyd : y.cls ≠ "java/lang/invoke/MethodHandle" ∧ y.cls ≠ "java/lang/invoke/VarHandle" ∧ (parseMethodDescriptor y.desc).map (fun d => d.parameters.length) = some 0) (hR : rm.frames + 1 ≤ R.frames ∧ 8 + (maxL + 11) + rm.locals ≤ R.locals)
    (hcells : cells + 1 + mc ≤ R.cells) (hslots : slots + N2 + ms ≤ R.slots)
    (d1 : decode cc pc = .ok (.new idxn, 3)) (d2 : decode cc (pc + 3) = .ok (.dup, 1)) (d3 : decode cc (pc + 4) = .ok (.invokespecial idxi, 3))
    (kk : ∀ (q : Nat) (u : va_W), post q u → Wd p l e R s m args below meth c (cells + 1 + mc) (slots + N2 + ms) Q D nL A (pc + 7) lv [.ref q] (base ++ u)) : Wd p l e R s m args below meth c cells slots Q D nL A pc lv [] base := by
  intro H locs ls hP hD hS hl
  have ht := F.1.2.2.2.2
  refine va_new F.1.1 F.1.2.1 ht hin_2 ty2 hty2 F.1.2.2.2.1 (ht _ hcl) (ht _ hinst) (ht _ hini) F.2.1 hP hD hS F.2.2 hc2 hfs (by omega) (by omega) d1 (fun q H1 hP1 hD1 hS1 => ?_)
  refine lv_dup F.1.1 F.1.2.1 d2 rfl ?_
  have hPc : va_P D vwCl [(q, .inr (ci2, fs2))] H1 := fun j z hz => hP1 (base.length + j) z (by rw [List.getElem?_append_right (by omega)]; simpa using hz)
  have hDc : va_D (fun _ => True) [(q, (.inr (ci2, fs2) : va_E))] := by
    refine ⟨fun i j a b ha hb _ => ?_, fun _ _ _ => trivial⟩
    have := (List.getElem?_eq_some_iff.mp ha).1
    have := (List.getElem?_eq_some_iff.mp hb).1
    simp at *
    omega
  have hFc : ∀ x, va_A [(q, .inr (ci2, fs2))] H1.size x → A x := by
    rintro x (⟨j, z, hj⟩ | h)
    · cases j with
      | zero =>
        have hj : (q, (.inr (ci2, fs2) : va_E)) = (x, z) := by simpa using hj
        have e9 : q = x := congrArg Prod.fst hj
        rw [← e9]
        exact hD1.2 base.length (q, .inr (ci2, fs2)) (by rw [List.getElem?_append_right (Nat.le_refl _)]; simp)
      | succ j => simp at hj
    · exact F.2.2 x (Nat.le_trans hS1.1 h)
  refine va_callv (va_runI (As := []) (rest := [.ref q]) F.1 (hM q H1.size) (cwI 0 ht hG hw hrc hrs (ht _ (by rw [hyc]; exact hini)) (ht _ hml) (ht _ hmi) hyn hyd hR) ⟨fun a U g mk q => by obtain ⟨q0, q1, qP, qK, qD⟩ := q; exact ⟨q0, q1, qP, va_K.moved (u := U) (U := U.calling g mk a) (Vm.Alike.refl U.vm) qK, qD⟩, fun U hU hW => ⟨rfl, by rw [hU], by rw [hU]; exact hPc, va_K.moved hW.alike F.2.1, hDc⟩⟩ rfl rfl hl.1 rfl (lv_room (Nat.le_of_ble_eq_true rfl)) d3 ⟨hcells, hslots⟩) hS1 (fun x _ h => hFc x h) hFc (fun u t H2 locs2 ht2 hvm hp hB hz1 hk1 hS2 => ?_)
  obtain ⟨hPu, hDu⟩ := hB
  rw [ht2] at hPu
  obtain ⟨hP3, hD3⟩ := wd_join hP1 hD1 hk1 hFc hPu hDu
  exact kk q u hp H2 locs2 ls hP3 hD3 hS2 hl
end Mk
end
section
/-! the law's calls -/
def lwW (cA : Nat → ClassId) (cJ : ClassId) (bd ad : Nat → Nat) (q : Nat) (τ σ : St) (f : Nat → Int64) : va_W := wL cA bd τ 0 LM ++ (wL cA ad σ 0 LC ++ wO q cJ f)
def lvC (b : Nat) (ad bd : Nat → Nat) (q : Nat) (i : Nat) : List (Nat × Value) := [(4, .int (zI i)), (3, .ref q), (2, .ref (bd 0)), (1, .ref (ad 0)), (0, .ref b)]
abbrev WL (p : Program) (l : Launch) (e : Env) (s : State) (m : MethodId) (b : Nat) (below : List Frame) (meth : Method) (c : Code) (cells slots : Nat) (D : va_G) (pc : Nat) (lv : List (Nat × Value)) (st : List Value) (w : va_W) : Prop := Wd p l e room_1 s m #[Value.ref b] below meth c cells slots (lw_Z below #[Value.ref b] s) D 7 (fun y => s.heap.size ≤ y) pc lv st w
def LF (p : Program) (s : State) (m : MethodId) (c : Code) (b Ln : Nat) (xs : Nat → Int32) (D : va_G) (cA : Nat → ClassId) : Prop := Fx p s m #[Value.ref b] c cL_law 7 RL wsL_law D cA (fun y => s.heap.size ≤ y) ∧ va_X b Ln xs s s.heap ∧ b < s.heap.size ∧ Ln ≤ 1536
section Law
variable {p : Program} {l : Launch} {e : Env} {s : State} {m : MethodId} {b : Nat} {below : List Frame} {meth : Method} {c : Code} {cells slots : Nat} {D : va_G} {cA : Nat → ClassId} {cJ : ClassId} {ad bd : Nat → Nat} {q Ln i : Nat} {xs : Nat → Int32} {σ τ : St} {f : Nat → Int64} {pc : Nat} {lv : List (Nat × Value)} {st : List Value} {w : va_W}
theorem lw_arg (G : LF p s m c b Ln xs D cA) (j : Nat) (hj : i + j < Ln) (hb : (0, Value.ref b) ∈ lv) (hi : (4, Value.int (zI i)) ∈ lv) (h1 : decode cL_law pc = .ok (.aload_n 0, 1)) (h2 : decode cL_law (pc + 1) = .ok (.iload 4, 2)) (h3 : decode cL_law (pc + 3) = .ok (.iconst (j : Int), 1)) (h4 : decode cL_law (pc + 4) = .ok (.iadd, 1)) (h5 : decode cL_law (pc + 5) = .ok (.iaload, 1))
    (k : WL p l e s m b below meth c cells slots D (pc + 6) lv (.int (xs (i + j)) :: st) w) : WL p l e s m b below meth c cells slots D pc lv st w := by
  intro H locs ls hP hD hS hl
  have hL := G.2.2.2
  refine lv_aload_n (i := 0) (x := b) G.1.1.1 G.1.1.2.1 h1 rfl (hl.2.2 (0, .ref b) hb) ?_
  refine lv_iload (x := zI i) G.1.1.1 G.1.1.2.1 h2 (hl.2.2 (4, .int (zI i)) hi) ?_
  refine lv_iconst (v := zI (j : Int)) G.1.1.1 G.1.1.2.1 h3 rfl ?_
  refine lv_iadd G.1.1.1 G.1.1.2.1 h4 ?_
  have e1 : zI (i : Int) + zI (j : Int) = zI ((i + j : Nat) : Int) := by rw [zI_add]; congr 1
  rw [e1]
  have hin : inR ((i + j : Nat) : Int) := by unfold inR; omega
  refine va_sld G.1.1.1 G.1.1.2.1 G.2.1 G.2.2.1 (by have := G.2.2.1; omega) hS (zI_in (by omega) (by omega) (by omega)) h5 ?_
  rw [zI_cl hin, show ((i + j : Nat) : Int).toNat = i + j by omega]
  exact k H locs ls hP hD hS hl
theorem lw_ld (G : LF p s m c b Ln xs D cA) (n : Fin 4) {x : Nat} (hx : (n.val, Value.ref x) ∈ lv) (h1 : decode cL_law pc = .ok (.aload_n n, 1)) (k : WL p l e s m b below meth c cells slots D (pc + 1) lv (.ref x :: st) w) : WL p l e s m b below meth c cells slots D pc lv st w :=
  fun H locs ls hP hD hS hl => lv_aload_n (x := x) G.1.1.1 G.1.1.2.1 h1 rfl (hl.2.2 _ hx) (k H locs ls hP hD hS hl)
/-- two answers, held against each other -/
theorem lw_eq (G : LF p s m c b Ln xs D cA) {x : Int32} {off : Int} (h1 : decode cL_law pc = .ok (.if_icmp .eq off, 3)) (h2 : (pc : Int) + off = ((552 : Nat) : Int)) (k : WL p l e s m b below meth c cells slots D 552 lv st w) : WL p l e s m b below meth c cells slots D pc lv (.int x :: .int x :: st) w :=
  fun H locs ls hP hD hS hl => lv_icmp_eq G.1.1.1 G.1.1.2.1 h1 h2 (fun _ => k H locs ls hP hD hS hl) (fun h => absurd rfl h)
variable {yC yM : MethodName} {wsC wsM : List Cond} {rC rM : Room} {iC iM : Nat} {v : Int} {T' : List Int} {ps' : PSt} {P' : Int → Int} {off : Int}
theorem lw_c0 (G : LF p s m c b Ln xs D cA) (okC : okV room_1 RL wsL_law iC RX5 yC wsC rC 0) (okM : okV room_1 RL wsL_law iM RX6 yM wsM rM 0) (hcs : cells ≤ room_1.cells ∧ slots ≤ room_1.slots)
    (hC : Ci l yC wsC rC D cA ad LC [.inl 0] σ (fun r u => r = v ∧ RC u T' ps' P')) (hM : Ci l yM wsM rM D cA bd LM [.inl 0] τ (fun r u => r = v ∧ RM u T' ps' P'))
    (d0 : decode cL_law pc = .ok (.aload_n 1, 1)) (d1 : decode cL_law (pc + 1) = .ok (.invokevirtual iC, 3)) (d2 : decode cL_law (pc + 4) = .ok (.aload_n 2, 1)) (d3 : decode cL_law (pc + 5) = .ok (.invokevirtual iM, 3)) (d4 : decode cL_law (pc + 8) = .ok (.if_icmp .eq off, 3)) (d5 : ((pc + 8 : Nat) : Int) + off = ((552 : Nat) : Int))
    (k : ∀ σ' τ', RC σ' T' ps' P' → RM τ' T' ps' P' → WL p l e s m b below meth c cells slots D 552 (lvC b ad bd q i) [] (lwW cA cJ bd ad q τ' σ' f)) : WL p l e s m b below meth c cells slots D pc (lvC b ad bd q i) [] (lwW cA cJ bd ad q τ σ f) := by
  refine lw_ld G 1 (x := ad 0) (List.mem_of_getElem? (i := 3) rfl) d0 ?_
  refine Wd.callVi G.1 (wa := wL cA bd τ 0 LM) (wb := wO q cJ f) (vs := []) (rest := []) (j := 0) okC d1 rfl rfl (Nat.le_of_ble_eq_true rfl) hcs hC (fun r σ' _ hp => ?_)
  obtain ⟨h1, h2⟩ := hp
  subst h1
  refine lw_ld G 2 (x := bd 0) (List.mem_of_getElem? (i := 2) rfl) d2 ?_
  refine Wd.callVi G.1 (wa := []) (wb := wL cA ad σ' 0 LC ++ wO q cJ f) (vs := []) (rest := [.int (zI r)]) (j := 0) okM d3 rfl rfl (Nat.le_of_ble_eq_true rfl) hcs hM (fun r2 τ' _ hp => ?_)
  obtain ⟨h3, h4⟩ := hp
  subst h3
  exact lw_eq G d4 d5 (k σ' τ' h2 h4)
theorem lw_c1 (G : LF p s m c b Ln xs D cA) {a : Int} (hj : i + 1 < Ln) (ha : xs (i + 1) = zI a) (okC : okV room_1 RL wsL_law iC RX5 yC wsC rC 1) (okM : okV room_1 RL wsL_law iM RX6 yM wsM rM 1) (hcs : cells ≤ room_1.cells ∧ slots ≤ room_1.slots)
    (hC : Ci l yC wsC rC D cA ad LC [.inl 0, .inr a] σ (fun r u => r = v ∧ RC u T' ps' P')) (hM : Ci l yM wsM rM D cA bd LM [.inl 0, .inr a] τ (fun r u => r = v ∧ RM u T' ps' P'))
    (d0 : decode cL_law pc = .ok (.aload_n 1, 1)) (d1 : decode cL_law (pc + 1) = .ok (.aload_n 0, 1)) (d2 : decode cL_law (pc + 2) = .ok (.iload 4, 2)) (d3 : decode cL_law (pc + 4) = .ok (.iconst 1, 1)) (d4 : decode cL_law (pc + 5) = .ok (.iadd, 1)) (d5 : decode cL_law (pc + 6) = .ok (.iaload, 1)) (d6 : decode cL_law (pc + 7) = .ok (.invokevirtual iC, 3))
    (d7 : decode cL_law (pc + 10) = .ok (.aload_n 2, 1)) (d8 : decode cL_law (pc + 11) = .ok (.aload_n 0, 1)) (d9 : decode cL_law (pc + 12) = .ok (.iload 4, 2)) (d10 : decode cL_law (pc + 14) = .ok (.iconst 1, 1)) (d11 : decode cL_law (pc + 15) = .ok (.iadd, 1)) (d12 : decode cL_law (pc + 16) = .ok (.iaload, 1)) (d13 : decode cL_law (pc + 17) = .ok (.invokevirtual iM, 3))
    (d14 : decode cL_law (pc + 20) = .ok (.if_icmp .eq off, 3)) (d15 : ((pc + 20 : Nat) : Int) + off = ((552 : Nat) : Int))
    (k : ∀ σ' τ', RC σ' T' ps' P' → RM τ' T' ps' P' → WL p l e s m b below meth c cells slots D 552 (lvC b ad bd q i) [] (lwW cA cJ bd ad q τ' σ' f)) : WL p l e s m b below meth c cells slots D pc (lvC b ad bd q i) [] (lwW cA cJ bd ad q τ σ f) := by
  refine lw_ld G 1 (x := ad 0) (List.mem_of_getElem? (i := 3) rfl) d0 ?_
  refine lw_arg G 1 hj (List.mem_of_getElem? (i := 4) rfl) (List.mem_of_getElem? (i := 0) rfl) d1 d2 d3 d4 d5 ?_
  rw [ha]
  refine Wd.callVi G.1 (wa := wL cA bd τ 0 LM) (wb := wO q cJ f) (vs := [.inr a]) (rest := []) (j := 0) okC d6 rfl rfl (Nat.le_of_ble_eq_true rfl) hcs hC (fun r σ' _ hp => ?_)
  obtain ⟨h1, h2⟩ := hp
  subst h1
  refine lw_ld G 2 (x := bd 0) (List.mem_of_getElem? (i := 2) rfl) d7 ?_
  refine lw_arg G 1 hj (List.mem_of_getElem? (i := 4) rfl) (List.mem_of_getElem? (i := 0) rfl) d8 d9 d10 d11 d12 ?_
  rw [ha]
  refine Wd.callVi G.1 (wa := []) (wb := wL cA ad σ' 0 LC ++ wO q cJ f) (vs := [.inr a]) (rest := [.int (zI r)]) (j := 0) okM d13 rfl rfl (Nat.le_of_ble_eq_true rfl) hcs hM (fun r2 τ' _ hp => ?_)
  obtain ⟨h3, h4⟩ := hp
  subst h3
  exact lw_eq G d14 d15 (k σ' τ' h2 h4)
theorem lw_c2 (G : LF p s m c b Ln xs D cA) {a a2 : Int} (hj : i + 2 < Ln) (ha : xs (i + 1) = zI a) (ha2 : xs (i + 2) = zI a2) (okC : okV room_1 RL wsL_law iC RX5 yC wsC rC 2) (okM : okV room_1 RL wsL_law iM RX6 yM wsM rM 2) (hcs : cells ≤ room_1.cells ∧ slots ≤ room_1.slots)
    (hC : Ci l yC wsC rC D cA ad LC [.inl 0, .inr a, .inr a2] σ (fun r u => r = v ∧ RC u T' ps' P')) (hM : Ci l yM wsM rM D cA bd LM [.inl 0, .inr a, .inr a2] τ (fun r u => r = v ∧ RM u T' ps' P'))
    (d0 : decode cL_law pc = .ok (.aload_n 1, 1)) (d1 : decode cL_law (pc + 1) = .ok (.aload_n 0, 1)) (d2 : decode cL_law (pc + 2) = .ok (.iload 4, 2)) (d3 : decode cL_law (pc + 4) = .ok (.iconst 1, 1)) (d4 : decode cL_law (pc + 5) = .ok (.iadd, 1)) (d5 : decode cL_law (pc + 6) = .ok (.iaload, 1))
    (e1 : decode cL_law (pc + 7) = .ok (.aload_n 0, 1)) (e2 : decode cL_law (pc + 8) = .ok (.iload 4, 2)) (e3 : decode cL_law (pc + 10) = .ok (.iconst 2, 1)) (e4 : decode cL_law (pc + 11) = .ok (.iadd, 1)) (e5 : decode cL_law (pc + 12) = .ok (.iaload, 1)) (d6 : decode cL_law (pc + 13) = .ok (.invokevirtual iC, 3))
    (d7 : decode cL_law (pc + 16) = .ok (.aload_n 2, 1)) (d8 : decode cL_law (pc + 17) = .ok (.aload_n 0, 1)) (d9 : decode cL_law (pc + 18) = .ok (.iload 4, 2)) (d10 : decode cL_law (pc + 20) = .ok (.iconst 1, 1)) (d11 : decode cL_law (pc + 21) = .ok (.iadd, 1)) (d12 : decode cL_law (pc + 22) = .ok (.iaload, 1))
    (f1 : decode cL_law (pc + 23) = .ok (.aload_n 0, 1)) (f2 : decode cL_law (pc + 24) = .ok (.iload 4, 2)) (f3 : decode cL_law (pc + 26) = .ok (.iconst 2, 1)) (f4 : decode cL_law (pc + 27) = .ok (.iadd, 1)) (f5 : decode cL_law (pc + 28) = .ok (.iaload, 1)) (d13 : decode cL_law (pc + 29) = .ok (.invokevirtual iM, 3))
    (d14 : decode cL_law (pc + 32) = .ok (.if_icmp .eq off, 3)) (d15 : ((pc + 32 : Nat) : Int) + off = ((552 : Nat) : Int))
    (k : ∀ σ' τ', RC σ' T' ps' P' → RM τ' T' ps' P' → WL p l e s m b below meth c cells slots D 552 (lvC b ad bd q i) [] (lwW cA cJ bd ad q τ' σ' f)) : WL p l e s m b below meth c cells slots D pc (lvC b ad bd q i) [] (lwW cA cJ bd ad q τ σ f) := by
  refine lw_ld G 1 (x := ad 0) (List.mem_of_getElem? (i := 3) rfl) d0 ?_
  refine lw_arg G 1 (by omega) (List.mem_of_getElem? (i := 4) rfl) (List.mem_of_getElem? (i := 0) rfl) d1 d2 d3 d4 d5 ?_
  refine lw_arg G 2 hj (List.mem_of_getElem? (i := 4) rfl) (List.mem_of_getElem? (i := 0) rfl) e1 e2 e3 e4 e5 ?_
  rw [ha, ha2]
  refine Wd.callVi G.1 (wa := wL cA bd τ 0 LM) (wb := wO q cJ f) (vs := [.inr a, .inr a2]) (rest := []) (j := 0) okC d6 rfl rfl (Nat.le_of_ble_eq_true rfl) hcs hC (fun r σ' _ hp => ?_)
  obtain ⟨h1, h2⟩ := hp
  subst h1
  refine lw_ld G 2 (x := bd 0) (List.mem_of_getElem? (i := 2) rfl) d7 ?_
  refine lw_arg G 1 (by omega) (List.mem_of_getElem? (i := 4) rfl) (List.mem_of_getElem? (i := 0) rfl) d8 d9 d10 d11 d12 ?_
  refine lw_arg G 2 hj (List.mem_of_getElem? (i := 4) rfl) (List.mem_of_getElem? (i := 0) rfl) f1 f2 f3 f4 f5 ?_
  rw [ha, ha2]
  refine Wd.callVi G.1 (wa := []) (wb := wL cA ad σ' 0 LC ++ wO q cJ f) (vs := [.inr a, .inr a2]) (rest := [.int (zI r)]) (j := 0) okM d13 rfl rfl (Nat.le_of_ble_eq_true rfl) hcs hM (fun r2 τ' _ hp => ?_)
  obtain ⟨h3, h4⟩ := hp
  subst h3
  exact lw_eq G d14 d15 (k σ' τ' h2 h4)
end Law
end
section
/-! the law's case of decode -/
section LawD
variable {p : Program} {l : Launch} {e : Env} {R : Room} {s : State} {m : MethodId} {args : Array Value} {below : List Frame} {meth : Method} {c : Code} {H : Heap} {locs : List Loc} {cells slots : Nat}
theorem va_runSW {y : MethodName} {bytes cc : ByteArray} {maxL nL mc ms n index : Nat} {ret : Option FieldType} {hh : List (Nat × Nat × Nat × Nat)} {ws ws' : List Cond} {rm : Room} {Pc : Array Value → State → Prop} {Qc : Array Value → State → Outcome → State → Prop} {free : Addr → Prop} {Ts : List Cond} {own : String} {As rest : List Value} {g : JFrame}
    (S : CallFix p m c cc nL s args Ts own) (hM : Met l y ws rm Pc Qc mc ms free) (hT : GoodIn Ts (va_wsS own index y ws)) (hw : ws = Cond.codeWith y bytes maxL ret hh :: ws') (hrc : rm.cells = mc) (hrs : rm.slots = ms)
    (hd : y.cls ≠ "java/lang/invoke/MethodHandle" ∧ y.cls ≠ "java/lang/invoke/VarHandle" ∧ (parseMethodDescriptor y.desc).map (fun d => d.parameters.length) = some n) (hR : rm.frames + 1 ≤ R.frames ∧ 8 + (maxL + 11) + rm.locals ≤ R.locals) (hp : PreS s H Pc As)
    (hg : g.method = m) (hn : As.length = n) (hsize : g.locals.size = nL) (hstack : g.stack = As.reverse ++ rest) (hW : 2 * g.monitorRoom + (rest.map fun v => v.category).sum ≤ 8) (hdg : decode cc g.pc = .ok (.invokestatic index, 3)) (hf : cells + mc ≤ R.cells ∧ slots + ms ≤ R.slots) :
    va_Run p l e R s m args below meth c H locs cells slots mc ms g rest (Qc As.toArray) (free) := by
  obtain ⟨hx, hb, hml, ho, ht⟩ := S
  have ok : ∀ w ∈ va_wsS own index y ws, w.before args s = true := fun w h => ht w (hT w h).1
  have hG : GoodIn Ts ws := fun w h => hT w (by unfold va_wsS; exact List.mem_append_right _ h)
  have hc : Cond.codeWith y bytes maxL ret hh ∈ ws := by rw [hw]; exact List.mem_cons_self
  have hini := ok (.initialized y.cls) (by simp [va_wsS])
  have hK : Back l R p e below s args y 3 8 (PreOf R mc ms Pc) (PostOf Qc mc ms free) := va_backW (hh := hh) (bytes := bytes) (maxL := maxL) (ret := ret) hM hp.1 hrc hrs hR.1 hR.2 (pay_in ht hG) hc (fun a' U hW => word_at hW (Or.inl rfl) hini)
  intro T hT2 X
  obtain ⟨m9, methM, cM, hnamed, hmethM, -, -, -, -, -, -, hsigM⟩ := Cond.codeWith_spec (ht _ (hG _ hc).1)
  obtain ⟨v, vm₁, ⟨U', l2, c2, s2⟩, hW₁, X', ⟨g', mk, t, L, e1, e2, hq, h1, hL, h2, h3⟩, st⟩ := X.staticBack hx (own := own) (index := index) ho (ok _ (by simp [va_wsS])) (ok _ (by simp [va_wsS])) hini hnamed hmethM hsigM ⟨hd.1, hd.2.1⟩ hK hg (hsize.trans hml.symm) (Steps.refl _) (argsL := As) (rest := rest) (fun sig h => by
      have h9 := hd.2.2
      rw [h] at h9
      rw [hn]
      exact (Option.some.inj h9).symm) hstack hW (by rw [hb]; exact hdg) (fun vm₁ hW₁ => ⟨hf.1, hf.2, hp.2 (T.setVm vm₁) hT2 hW₁⟩)
  dsimp only [Pt.U, Pt.locs, Pt.cells, Pt.slots] at X' e1 e2 h1 h2 h3 st
  subst h1; subst h2; subst h3
  exact ⟨v, (T.setVm vm₁).calling g' mk As.toArray, t, U', L, hT2, X', hL, e1, e2, hq, fun tg h => st.trans h⟩
end LawD
section Law8
variable {p : Program} {l : Launch} {e : Env} {s : State} {m : MethodId} {b : Nat} {below : List Frame} {meth : Method} {c : Code} {cells slots : Nat} {D : va_G} {cA : Nat → ClassId} {cJ : ClassId} {ad bd : Nat → Nat} {q Ln i : Nat} {xs : Nat → Int32} {σ τ : St} {f : Nat → Int64} {lv lv' : List (Nat × Value)} {st : List Value} {w : va_W} {pc : Nat}
theorem lw_drop (h : ∀ x ∈ lv', x ∈ lv) (k : WL p l e s m b below meth c cells slots D pc lv' st w) : WL p l e s m b below meth c cells slots D pc lv st w :=
  fun H locs ls hP hD hS hl => k H locs ls hP hD hS ⟨hl.1, hl.2.1, fun x hx => hl.2.2 x (h x hx)⟩
theorem lw_dA (G : LF p s m c b Ln xs D cA) (hJ : va_K D vwCl (gT cA ++ [(cJ, .long)]) s) (hex : exF s) {a a2 : Int} (hj : i + 2 < Ln) (ha : xs (i + 1) = zI a) (ha2 : xs (i + 2) = zI a2) {k : Nat} {post : Int32 → (Nat → Int64) → Prop} (hL : Lk l D cA cJ ad q σ f a a2 k post) (hcs : cells + k ≤ room_1.cells ∧ slots + 6 * k ≤ room_1.slots)
    (kk : ∀ (r : Int32) (u : Nat → Int64), post r u → WL p l e s m b below meth c (cells + k) (slots + 6 * k) D 337 (lvC b ad bd q i) [.int r] (lwW cA cJ bd ad q τ σ u)) : WL p l e s m b below meth c cells slots D 320 (lvC b ad bd q i) [] (lwW cA cJ bd ad q τ σ f) := by
  refine lw_ld G 1 (x := ad 0) (List.mem_of_getElem? (i := 3) rfl) dL_law_320 ?_
  refine lw_arg G 1 (by omega) (List.mem_of_getElem? (i := 4) rfl) (List.mem_of_getElem? (i := 0) rfl) dL_law_321 dL_law_322 dL_law_324 dL_law_325 dL_law_326 ?_
  refine lw_arg G 2 hj (List.mem_of_getElem? (i := 4) rfl) (List.mem_of_getElem? (i := 0) rfl) dL_law_327 dL_law_328 dL_law_330 dL_law_331 dL_law_332 ?_
  rw [ha, ha2]
  refine lw_ld G 3 (x := q) (List.mem_of_getElem? (i := 1) rfl) dL_law_333 ?_
  intro H locs ls hP hD hS hl
  have hP' : va_P D vwCl (wL cA bd τ 0 LM ++ ((wL cA ad σ 0 LC ++ wO q cJ f) ++ [])) H := by rw [List.append_nil]; exact hP
  have hD' : va_D (fun y => s.heap.size ≤ y) (wL cA bd τ 0 LM ++ ((wL cA ad σ 0 LC ++ wO q cJ f) ++ [])) := by rw [List.append_nil]; exact hD
  have hPc := hP'.mid
  have hDc := hD'.mid
  have hFc : ∀ y, va_A (wL cA ad σ 0 LC ++ wO q cJ f) H.size y → s.heap.size ≤ y := by
    rintro y (⟨j, z, hj⟩ | h)
    · exact hDc.2 j _ hj
    · exact Nat.le_trans hS.1 h
  refine va_calli (va_runSW (hh := [(0, 10, 13, 13)]) (bytes := cL_decode) (maxL := 5) (ret := some .int) (n := 4) (As := [.ref (ad 0), .int (zI a), .int (zI a2), .ref q]) (rest := []) G.1.1 (hL H.size) gL_law_L_decode rfl rfl rfl (by decide +kernel) (by show 9 + 1 ≤ 11 ∧ 8 + (5 + 11) + 150 ≤ 384; decide) ⟨fun a U g mk x => by obtain ⟨q0, q1, qP, qK, qD, qE⟩ := x; exact ⟨q0, q1, qP, va_K.moved (u := U) (U := U.calling g mk a) (Vm.Alike.refl U.vm) qK, qD, qE.kept (U := U.calling g mk a) (State.WarmedH.refl U) (fun _ _ h _ => h)⟩, fun U hU hW => ⟨rfl, by rw [hU], by rw [hU]; exact hPc, va_K.moved hW.alike hJ, hDc.weaken (fun _ _ _ _ => trivial), hex.kept hW (fun y cell h1 _ => by
      have h2 := (Array.getElem?_eq_some_iff.mp h1).1
      rw [hU, hS.2.1 y h2 (by omega)]
      exact h1)⟩⟩ rfl rfl hl.1 rfl (lv_room (Nat.le_of_ble_eq_true rfl)) dL_law_334 hcs) hS (fun y _ h => hFc y h) hFc (fun r u t H1 locs1 ht hvm hw hB hz1 hk1 hS1 => ?_)
  obtain ⟨j1, j2⟩ := fr_join hP' hD' hk1 (w1 := wL cA ad σ 0 LC ++ wO q cJ u) (by rw [← ht]; exact hB) (by rw [List.map_append, List.map_append]; rfl)
  rw [List.append_nil] at j1 j2
  exact kk r u hw H1 locs1 ls j1 j2 hS1 hl
end Law8
end
section
/-! the law's case of decode: the two held against each other -/
theorem oL_X6_decode : okV room_1 RL wsL_law 58 RX6 yX6_decode wsX6_decode (rh 2) 2 := ⟨_, _, _, _, gL_law_X6_decode, rfl, rfl, rfl, by decide +kernel, by decide⟩
theorem oL_X6_thrown : okV room_1 RL wsL_law 59 RX6 yX6_thrown wsX6_thrown (rh 0) 0 := ⟨_, _, _, _, gL_law_X6_thrown, rfl, rfl, rfl, by decide +kernel, by decide⟩
section Law9
variable {p : Program} {l : Launch} {e : Env} {s : State} {m : MethodId} {b : Nat} {below : List Frame} {meth : Method} {c : Code} {cells slots : Nat} {D : va_G} {cA : Nat → ClassId} {cJ : ClassId} {ad bd : Nat → Nat} {q Ln i : Nat} {xs : Nat → Int32} {σ τ : St} {f : Nat → Int64} {T : List Int} {ps : PSt} {P : Int → Int}
theorem lw_dB (G : LF p s m c b Ln xs D cA) (hJ : va_K D vwCl (gT cA ++ [(cJ, .long)]) s) {a a2 : Int} (hj : i + 2 < Ln) (ha : xs (i + 1) = zI a) (ha2 : xs (i + 2) = zI a2) (hr : RM τ T ps P) (h120 : ∀ j, j < ps.length → tl (tbl ps) j ≤ 120) (hia : inR a) (hia2 : inR a2) (hcs : cells ≤ room_1.cells ∧ slots ≤ room_1.slots) {kv : Int} (hk : (kv = 1 ∧ dThr ps a a2) ∨ (kv = 0 ∧ ¬ dThr ps a a2 ∧ f 0 = (zI (aDec ps a a2)).toInt64))
    (kk : ∀ τ', RM τ' T ps P → WL p l e s m b below meth c cells slots D 552 (lvC b ad bd q i) [] (lwW cA cJ bd ad q τ' σ f)) : WL p l e s m b below meth c cells slots D 337 (lvC b ad bd q i) [.int (zI kv)] (lwW cA cJ bd ad q τ σ f) := by
  intro H locs ls hP hD hS hl
  refine lv_istore G.1.1.1 G.1.1.2.1 dL_law_337 hl (by decide) rfl (fun ls' hl' => ?_)
  refine lw_ld G 2 (x := bd 0) (List.mem_of_getElem? (i := 3) rfl) dL_law_339 ?_ H locs ls' hP hD hS hl'
  refine lw_arg G 1 (by omega) (List.mem_of_getElem? (i := 5) rfl) (List.mem_of_getElem? (i := 1) rfl) dL_law_340 dL_law_341 dL_law_343 dL_law_344 dL_law_345 ?_
  refine lw_arg G 2 hj (List.mem_of_getElem? (i := 5) rfl) (List.mem_of_getElem? (i := 1) rfl) dL_law_346 dL_law_347 dL_law_349 dL_law_350 dL_law_351 ?_
  rw [ha, ha2]
  clear hP hD hS hl hl' H locs ls ls'
  refine Wd.callVi G.1 (wa := []) (wb := wL cA ad σ 0 LC ++ wO q cJ f) (vs := [.inr a, .inr a2]) (rest := []) (j := 0) oL_X6_decode dL_law_352 rfl rfl (Nat.le_of_ble_eq_true rfl) hcs (c_X6_decode hr h120 hia hia2) (fun r τ' hin hp => ?_)
  obtain ⟨hr', hor⟩ := hp
  intro H locs ls hP hD hS hl
  refine lv_istore G.1.1.1 G.1.1.2.1 dL_law_355 hl (by decide) rfl (fun ls' hl' => ?_)
  refine lw_ld G 2 (x := bd 0) (List.mem_of_getElem? (i := 4) rfl) dL_law_357 ?_ H locs ls' hP hD hS hl'
  clear hP hD hS hl hl' H locs ls ls'
  refine Wd.callVi G.1 (wa := []) (wb := wL cA ad σ 0 LC ++ wO q cJ f) (vs := []) (rest := []) (j := 0) oL_X6_thrown dL_law_358 rfl rfl (Nat.le_of_ble_eq_true rfl) hcs (c_X6_thrown hr'.1) (fun r2 τ2 _ hp => ?_)
  obtain ⟨h2, h3⟩ := hp
  subst h2
  have hkv : r2 = kv := by
    rcases hk with ⟨h4, h5⟩ | ⟨h4, h5, -⟩ <;> rcases hor with ⟨h6, h7⟩ | ⟨h6, h7, -⟩
    · rw [h3, h7, h4]
    · exact absurd h5 h6
    · exact absurd h6 h5
    · rw [h3, h7, h4]
  subst hkv
  have fin : WL p l e s m b below meth c cells slots D 385 ((6, Value.int (zI r)) :: (5, Value.int (zI r2)) :: lvC b ad bd q i) [] (lwW cA cJ bd ad q τ2 σ f) := by
    intro H locs ls hP hD hS hl
    refine lv_goto G.1.1.1 G.1.1.2.1 (tgt := 552) dL_law_385 (by decide) ?_
    exact lw_drop (fun x hx => List.mem_cons_of_mem _ (List.mem_cons_of_mem _ hx)) (kk τ2 hr') H locs ls hP hD hS hl
  intro H locs ls hP hD hS hl
  refine lv_iload (x := zI r2) G.1.1.1 G.1.1.2.1 dL_law_361 (hl.2.2 (5, .int (zI r2)) (List.mem_of_getElem? (i := 1) rfl)) ?_
  refine lv_icmp_eq (tgt := 368) G.1.1.1 G.1.1.2.1 dL_law_363 (by decide) (fun _ => ?_) (fun h => absurd rfl h)
  refine lv_iload (x := zI r2) G.1.1.1 G.1.1.2.1 dL_law_368 (hl.2.2 (5, .int (zI r2)) (List.mem_of_getElem? (i := 1) rfl)) ?_
  refine lv_if_ne (tgt := 385) G.1.1.1 G.1.1.2.1 dL_law_370 (by decide) (fun _ => fin H locs ls hP hD hS hl) (fun h0 => ?_)
  have hz : f 0 = (zI r).toInt64 := by
    rcases hk with ⟨h4, h5⟩ | ⟨h4, h5, h6⟩
    · rw [h4] at h0
      exact absurd h0 (by decide)
    · rcases hor with ⟨h7, -⟩ | ⟨-, -, h8⟩
      · exact absurd h7 h5
      · rw [h6, h8]
  refine lv_aload_n (i := 3) (x := q) G.1.1.1 G.1.1.2.1 dL_law_373 rfl (hl.2.2 (3, .ref q) (List.mem_of_getElem? (i := 3) rfl)) ?_
  refine lv_iconst (v := zI 0) G.1.1.1 G.1.1.2.1 dL_law_374 rfl ?_
  refine va_lald G.1.1.1 G.1.1.2.1 hJ hP 38 2 (cA := cJ) (n := 1) (f := f) rfl rfl (by show ¬ (zI 0 < 0 ∨ 1 ≤ (zI 0).toNatClampNeg); decide) dL_law_375 ?_
  refine lv_iload (x := zI r) G.1.1.1 G.1.1.2.1 dL_law_376 (hl.2.2 (6, .int (zI r)) (List.mem_of_getElem? (i := 0) rfl)) ?_
  refine lv_i2l G.1.1.1 G.1.1.2.1 dL_law_378 rfl ?_
  have e0 : f (zI 0).toNatClampNeg = (zI r).toInt64 := hz
  rw [e0]
  refine W.lcmp G.1.1.1 G.1.1.2.1 dL_law_379 ?_
  have e1 : lg_cmp (zI r).toInt64 (zI r).toInt64 = 0 := by
    unfold lg_cmp
    rw [if_neg (by simp [Int64.lt_iff_toInt_lt]), if_pos rfl]
  rw [e1]
  exact lv_if_eq (tgt := 385) G.1.1.1 G.1.1.2.1 dL_law_380 (by decide) (fun _ => fin H locs ls hP hD hS hl) (fun h => absurd rfl h)
end Law9
end
section
/-! one turn of the law -/
theorem oL_X5_octet : okV room_1 RL wsL_law 19 RX5 yX5_octet wsX5_octet (rh 1) 1 := ⟨_, _, _, _, gL_law_X5_octet, rfl, rfl, rfl, by decide +kernel, by decide⟩
theorem oL_X6_octet : okV room_1 RL wsL_law 23 RX6 yX6_octet wsX6_octet (rh 1) 1 := ⟨_, _, _, _, gL_law_X6_octet, rfl, rfl, rfl, by decide +kernel, by decide⟩
theorem oL_X5_cut : okV room_1 RL wsL_law 24 RX5 yX5_cut wsX5_cut (rh 0) 1 := ⟨_, _, _, _, gL_law_X5_cut, rfl, rfl, rfl, by decide +kernel, by decide⟩
theorem oL_X6_cut : okV room_1 RL wsL_law 27 RX6 yX6_cut wsX6_cut (rh 1) 1 := ⟨_, _, _, _, gL_law_X6_cut, rfl, rfl, rfl, by decide +kernel, by decide⟩
theorem oL_X5_byteAt : okV room_1 RL wsL_law 28 RX5 yX5_byteAt wsX5_byteAt (rh 0) 1 := ⟨_, _, _, _, gL_law_X5_byteAt, rfl, rfl, rfl, by decide +kernel, by decide⟩
theorem oL_X6_byteAt : okV room_1 RL wsL_law 31 RX6 yX6_byteAt wsX6_byteAt (rh 1) 1 := ⟨_, _, _, _, gL_law_X6_byteAt, rfl, rfl, rfl, by decide +kernel, by decide⟩
theorem oL_X5_words : okV room_1 RL wsL_law 32 RX5 yX5_words wsX5_words (rh 1) 0 := ⟨_, _, _, _, gL_law_X5_words, rfl, rfl, rfl, by decide +kernel, by decide⟩
theorem oL_X6_words : okV room_1 RL wsL_law 36 RX6 yX6_words wsX6_words (rh 1) 0 := ⟨_, _, _, _, gL_law_X6_words, rfl, rfl, rfl, by decide +kernel, by decide⟩
theorem oL_X5_learn : okV room_1 RL wsL_law 37 RX5 yX5_learn wsX5_learn (rh 4) 1 := ⟨_, _, _, _, gL_law_X5_learn, rfl, rfl, rfl, by decide +kernel, by decide⟩
theorem oL_X6_learn : okV room_1 RL wsL_law 40 RX6 yX6_learn wsX6_learn (rh 3) 1 := ⟨_, _, _, _, gL_law_X6_learn, rfl, rfl, rfl, by decide +kernel, by decide⟩
theorem oL_X5_pair : okV room_1 RL wsL_law 41 RX5 yX5_pair wsX5_pair (rh 1) 2 := ⟨_, _, _, _, gL_law_X5_pair, rfl, rfl, rfl, by decide +kernel, by decide⟩
theorem oL_X6_pair : okV room_1 RL wsL_law 44 RX6 yX6_pair wsX6_pair (rh 2) 2 := ⟨_, _, _, _, gL_law_X6_pair, rfl, rfl, rfl, by decide +kernel, by decide⟩
theorem oL_X5_count : okV room_1 RL wsL_law 45 RX5 yX5_count wsX5_count (rh 1) 1 := ⟨_, _, _, _, gL_law_X5_count, rfl, rfl, rfl, by decide +kernel, by decide⟩
theorem oL_X6_count : okV room_1 RL wsL_law 48 RX6 yX6_count wsX6_count (rh 2) 1 := ⟨_, _, _, _, gL_law_X6_count, rfl, rfl, rfl, by decide +kernel, by decide⟩
theorem oL_X5_size : okV room_1 RL wsL_law 49 RX5 yX5_size wsX5_size (rh 2) 1 := ⟨_, _, _, _, gL_law_X5_size, rfl, rfl, rfl, by decide +kernel, by decide⟩
theorem oL_X6_size : okV room_1 RL wsL_law 52 RX6 yX6_size wsX6_size (rh 2) 1 := ⟨_, _, _, _, gL_law_X6_size, rfl, rfl, rfl, by decide +kernel, by decide⟩
theorem oL_X5_tokens : okV room_1 RL wsL_law 62 RX5 yX5_tokens wsX5_tokens (rh 3) 0 := ⟨_, _, _, _, gL_law_X5_tokens, rfl, rfl, rfl, by decide +kernel, by decide⟩
theorem oL_X6_tokens : okV room_1 RL wsL_law 65 RX6 yX6_tokens wsX6_tokens (rh 4) 0 := ⟨_, _, _, _, gL_law_X6_tokens, rfl, rfl, rfl, by decide +kernel, by decide⟩
theorem oL_X5_at : okV room_1 RL wsL_law 66 RX5 yX5_at wsX5_at (rh 3) 1 := ⟨_, _, _, _, gL_law_X5_at, rfl, rfl, rfl, by decide +kernel, by decide⟩
theorem oL_X6_at : okV room_1 RL wsL_law 69 RX6 yX6_at wsX6_at (rh 4) 1 := ⟨_, _, _, _, gL_law_X6_at, rfl, rfl, rfl, by decide +kernel, by decide⟩
theorem oL_X5_from : okV room_1 RL wsL_law 70 RX5 yX5_from wsX5_from (rh 3) 1 := ⟨_, _, _, _, gL_law_X5_from, rfl, rfl, rfl, by decide +kernel, by decide⟩
theorem oL_X6_from : okV room_1 RL wsL_law 73 RX6 yX6_from wsX6_from (rh 4) 1 := ⟨_, _, _, _, gL_law_X6_from, rfl, rfl, rfl, by decide +kernel, by decide⟩
theorem oL_X5_points : okV room_1 RL wsL_law 74 RX5 yX5_points wsX5_points (rh 1) 2 := ⟨_, _, _, _, gL_law_X5_points, rfl, rfl, rfl, by decide +kernel, by decide⟩
theorem oL_X6_points : okV room_1 RL wsL_law 77 RX6 yX6_points wsX6_points (rh 2) 2 := ⟨_, _, _, _, gL_law_X6_points, rfl, rfl, rfl, by decide +kernel, by decide⟩
theorem oL_X5_best : okV room_1 RL wsL_law 78 RX5 yX5_best wsX5_best (rh 4) 0 := ⟨_, _, _, _, gL_law_X5_best, rfl, rfl, rfl, by decide +kernel, by decide⟩
theorem oL_X6_best : okV room_1 RL wsL_law 81 RX6 yX6_best wsX6_best (rh 3) 0 := ⟨_, _, _, _, gL_law_X6_best, rfl, rfl, rfl, by decide +kernel, by decide⟩
theorem oL_X5_bestAt : okV room_1 RL wsL_law 82 RX5 yX5_bestAt wsX5_bestAt (rh 4) 1 := ⟨_, _, _, _, gL_law_X5_bestAt, rfl, rfl, rfl, by decide +kernel, by decide⟩
theorem oL_X6_bestAt : okV room_1 RL wsL_law 85 RX6 yX6_bestAt wsX6_bestAt (rh 3) 1 := ⟨_, _, _, _, gL_law_X6_bestAt, rfl, rfl, rfl, by decide +kernel, by decide⟩
theorem oL_X5_sum : okV room_1 RL wsL_law 86 RX5 yX5_sum wsX5_sum (rh 4) 0 := ⟨_, _, _, _, gL_law_X5_sum, rfl, rfl, rfl, by decide +kernel, by decide⟩
theorem oL_X6_sum : okV room_1 RL wsL_law 89 RX6 yX6_sum wsX6_sum (rh 3) 0 := ⟨_, _, _, _, gL_law_X6_sum, rfl, rfl, rfl, by decide +kernel, by decide⟩
theorem oL_X5_ways : okV room_1 RL wsL_law 90 RX5 yX5_ways wsX5_ways (rh 4) 0 := ⟨_, _, _, _, gL_law_X5_ways, rfl, rfl, rfl, by decide +kernel, by decide⟩
theorem oL_X6_ways : okV room_1 RL wsL_law 93 RX6 yX6_ways wsX6_ways (rh 3) 0 := ⟨_, _, _, _, gL_law_X6_ways, rfl, rfl, rfl, by decide +kernel, by decide⟩
def LInv (σ τ : St) (T : List Int) (ps : PSt) (P : Int → Int) : Prop := RC σ T ps P ∧ RM τ T ps P ∧ vOk ps ∧ ptsR ps.length P
theorem inv_pts {ps : PSt} {P : Int → Int} (h : ptsR ps.length P) (t p : Int) : ptsR ps.length (pPts ps P t p) := by
  intro x h1 h2
  unfold pPts
  split
  · show -120 ≤ (if x = t then p else P x) ∧ (if x = t then p else P x) ≤ 120
    split
    · omega
    · exact h x h1 h2
  · exact h x h1 h2
theorem inv_lrn {σ : St} {T : List Int} {ps : PSt} {P : Int → Int} (hr : RC σ T ps P) (hv : vOk ps) (h : ptsR ps.length P) (n : Int) : vOk (sLrn T ps n) ∧ ptsR (sLrn T ps n).length (pLrn T P n) := by
  have htx : txOk T := ⟨hr.2.1.2.1, fun i hi => (hr.2.1.2.2 i hi).2⟩
  unfold sLrn pLrn
  by_cases hn : 0 ≤ n ∧ n ≤ 32
  · rw [if_pos hn, if_pos hn]
    have hk := psL_ok htx hn
    refine ⟨hk.1, fun x h1 h2 => ?_⟩
    unfold pNew
    by_cases hx : x < 256
    · rw [if_pos hx]
      exact h x h1 (by omega)
    · rw [if_neg hx]
      have := hk.1.2.2.1 (x - 256).toNat (by omega)
      omega
  · rw [if_neg hn, if_neg hn]
    exact ⟨hv, h⟩
section Turn
variable {p : Program} {l : Launch} {e : Env} {s : State} {m : MethodId} {b : Nat} {below : List Frame} {meth : Method} {c : Code} {cells slots : Nat} {D : va_G} {cA : Nat → ClassId} {cJ : ClassId} {ad bd : Nat → Nat} {q Ln i : Nat} {xs : Nat → Int32} {σ τ : St} {f : Nat → Int64} {T : List Int} {ps : PSt} {P : Int → Int}
set_option maxHeartbeats 2000000 in
theorem lw_turn (G : LF p s m c b Ln xs D cA) (hJ : va_K D vwCl (gT cA ++ [(cJ, .long)]) s) (hex : exF s) (hst : l.stackTraces = false) (hi : i + 3 ≤ Ln) (I : LInv σ τ T ps P) (hcs : cells + 1 ≤ room_1.cells ∧ slots + 6 ≤ room_1.slots)
    (kk : ∀ (n : Nat) (σ' τ' : St) (f' : Nat → Int64) (T' : List Int) (ps' : PSt) (P' : Int → Int), n ≤ 1 → LInv σ' τ' T' ps' P' → WL p l e s m b below meth c (cells + n) (slots + 6 * n) D 552 (lvC b ad bd q i) [] (lwW cA cJ bd ad q τ' σ' f')) : WL p l e s m b below meth c cells slots D 32 (lvC b ad bd q i) [] (lwW cA cJ bd ad q τ σ f) := by
  obtain ⟨hC, hM, hv, hp⟩ := I
  have hL := G.2.2.2
  have hcs0 : cells ≤ room_1.cells ∧ slots ≤ room_1.slots := ⟨by omega, by omega⟩
  have k0 : ∀ (σ' τ' : St) (f' : Nat → Int64) (T' : List Int) (ps' : PSt) (P' : Int → Int), LInv σ' τ' T' ps' P' → WL p l e s m b below meth c cells slots D 552 (lvC b ad bd q i) [] (lwW cA cJ bd ad q τ' σ' f') := fun σ' τ' f' T' ps' P' h => kk 0 σ' τ' f' T' ps' P' (by decide) h
  obtain ⟨a, hia, ha⟩ := zI_of (xs (i + 1))
  obtain ⟨a2, hia2, ha2⟩ := zI_of (xs (i + 2))
  have keep : ∀ σ' τ', RC σ' T ps P → RM τ' T ps P → WL p l e s m b below meth c cells slots D 552 (lvC b ad bd q i) [] (lwW cA cJ bd ad q τ' σ' f) := fun σ' τ' h1 h2 => k0 σ' τ' f T ps P ⟨h1, h2, hv, hp⟩
  intro H locs ls hP hD hS hl
  refine lv_aload_n (i := 0) (x := b) G.1.1.1 G.1.1.2.1 dL_law_32 rfl (hl.2.2 (0, .ref b) (List.mem_of_getElem? (i := 4) rfl)) ?_
  refine lv_iload (x := zI i) G.1.1.1 G.1.1.2.1 dL_law_33 (hl.2.2 (4, .int (zI i)) (List.mem_of_getElem? (i := 0) rfl)) ?_
  refine va_sld G.1.1.1 G.1.1.2.1 G.2.1 G.2.2.1 (by have := G.2.2.1; omega) hS (zI_in (by omega) (by omega) (by omega)) dL_law_35 ?_
  refine lv_bipush (v := zI 31) G.1.1.1 G.1.1.2.1 dL_law_36 (zI_by (by decide) (by decide)) ?_
  refine lv_iand G.1.1.1 G.1.1.2.1 dL_law_38 ?_
  generalize (xs (zI (i : Int)).toNatClampNeg &&& zI 31) = x
  by_cases hd : x.toInt < 0 ∨ 16 < x.toInt
  · exact lv_tableOut (tgt := 552) G.1.1.1 G.1.1.2.1 dL_law_39 hd (by decide) (keep σ τ hC hM H locs ls hP hD hS hl)
  rcases (show x.toInt = 0 ∨ x.toInt = 1 ∨ x.toInt = 2 ∨ x.toInt = 3 ∨ x.toInt = 4 ∨ x.toInt = 5 ∨ x.toInt = 6 ∨ x.toInt = 7 ∨ x.toInt = 8 ∨ x.toInt = 9 ∨ x.toInt = 10 ∨ x.toInt = 11 ∨ x.toInt = 12 ∨ x.toInt = 13 ∨ x.toInt = 14 ∨ x.toInt = 15 ∨ x.toInt = 16 by omega) with h | h | h | h | h | h | h | h | h | h | h | h | h | h | h | h | h
  · refine lv_tableIn (off := 81) (tgt := 120) G.1.1.1 G.1.1.2.1 dL_law_39 (by omega) (by omega) (by rw [h]; rfl) (by decide) ?_
    exact lw_c1 G (by omega) ha oL_X5_octet oL_X6_octet hcs0 (c_X5_octet hC hia) (c_X6_octet hM hia) dL_law_120 dL_law_121 dL_law_122 dL_law_124 dL_law_125 dL_law_126 dL_law_127 dL_law_130 dL_law_131 dL_law_132 dL_law_134 dL_law_135 dL_law_136 dL_law_137 dL_law_140 (by decide) (fun σ' τ' h1 h2 => k0 σ' τ' f _ ps P ⟨h1, h2, hv, hp⟩) H locs ls hP hD hS hl
  · refine lv_tableIn (off := 106) (tgt := 145) G.1.1.1 G.1.1.2.1 dL_law_39 (by omega) (by omega) (by rw [h]; rfl) (by decide) ?_
    exact lw_c1 G (by omega) ha oL_X5_cut oL_X6_cut hcs0 (c_X5_cut hC hia) (c_X6_cut hM hia) dL_law_145 dL_law_146 dL_law_147 dL_law_149 dL_law_150 dL_law_151 dL_law_152 dL_law_155 dL_law_156 dL_law_157 dL_law_159 dL_law_160 dL_law_161 dL_law_162 dL_law_165 (by decide) (fun σ' τ' h1 h2 => k0 σ' τ' f _ ps P ⟨h1, h2, hv, hp⟩) H locs ls hP hD hS hl
  · refine lv_tableIn (off := 131) (tgt := 170) G.1.1.1 G.1.1.2.1 dL_law_39 (by omega) (by omega) (by rw [h]; rfl) (by decide) ?_
    exact lw_c1 G (by omega) ha oL_X5_byteAt oL_X6_byteAt hcs0 (c_X5_byteAt hC hia) (c_X6_byteAt hM hia) dL_law_170 dL_law_171 dL_law_172 dL_law_174 dL_law_175 dL_law_176 dL_law_177 dL_law_180 dL_law_181 dL_law_182 dL_law_184 dL_law_185 dL_law_186 dL_law_187 dL_law_190 (by decide) keep H locs ls hP hD hS hl
  · refine lv_tableIn (off := 156) (tgt := 195) G.1.1.1 G.1.1.2.1 dL_law_39 (by omega) (by omega) (by rw [h]; rfl) (by decide) ?_
    exact lw_c0 G oL_X5_words oL_X6_words hcs0 (c_X5_words hC) (c_X6_words hM) dL_law_195 dL_law_196 dL_law_199 dL_law_200 dL_law_203 (by decide) keep H locs ls hP hD hS hl
  · refine lv_tableIn (off := 169) (tgt := 208) G.1.1.1 G.1.1.2.1 dL_law_39 (by omega) (by omega) (by rw [h]; rfl) (by decide) ?_
    exact lw_c1 G (by omega) ha oL_X5_learn oL_X6_learn hcs0 (c_X5_learn hC hia) (c_X6_learn hM hia) dL_law_208 dL_law_209 dL_law_210 dL_law_212 dL_law_213 dL_law_214 dL_law_215 dL_law_218 dL_law_219 dL_law_220 dL_law_222 dL_law_223 dL_law_224 dL_law_225 dL_law_228 (by decide) (fun σ' τ' h1 h2 => k0 σ' τ' f T _ _ ⟨h1, h2, (inv_lrn hC hv hp a).1, (inv_lrn hC hv hp a).2⟩) H locs ls hP hD hS hl
  · refine lv_tableIn (off := 194) (tgt := 233) G.1.1.1 G.1.1.2.1 dL_law_39 (by omega) (by omega) (by rw [h]; rfl) (by decide) ?_
    exact lw_c2 G (by omega) ha ha2 oL_X5_pair oL_X6_pair hcs0 (c_X5_pair hC hia hia2) (c_X6_pair hM hia hia2) dL_law_233 dL_law_234 dL_law_235 dL_law_237 dL_law_238 dL_law_239 dL_law_240 dL_law_241 dL_law_243 dL_law_244 dL_law_245 dL_law_246 dL_law_249 dL_law_250 dL_law_251 dL_law_253 dL_law_254 dL_law_255 dL_law_256 dL_law_257 dL_law_259 dL_law_260 dL_law_261 dL_law_262 dL_law_265 (by decide) keep H locs ls hP hD hS hl
  · refine lv_tableIn (off := 231) (tgt := 270) G.1.1.1 G.1.1.2.1 dL_law_39 (by omega) (by omega) (by rw [h]; rfl) (by decide) ?_
    exact lw_c1 G (by omega) ha oL_X5_count oL_X6_count hcs0 (c_X5_count hC hia) (c_X6_count hM hia) dL_law_270 dL_law_271 dL_law_272 dL_law_274 dL_law_275 dL_law_276 dL_law_277 dL_law_280 dL_law_281 dL_law_282 dL_law_284 dL_law_285 dL_law_286 dL_law_287 dL_law_290 (by decide) keep H locs ls hP hD hS hl
  · refine lv_tableIn (off := 256) (tgt := 295) G.1.1.1 G.1.1.2.1 dL_law_39 (by omega) (by omega) (by rw [h]; rfl) (by decide) ?_
    exact lw_c1 G (by omega) ha oL_X5_size oL_X6_size hcs0 (c_X5_size hC hia) (c_X6_size hM hia) dL_law_295 dL_law_296 dL_law_297 dL_law_299 dL_law_300 dL_law_301 dL_law_302 dL_law_305 dL_law_306 dL_law_307 dL_law_309 dL_law_310 dL_law_311 dL_law_312 dL_law_315 (by decide) keep H locs ls hP hD hS hl
  · refine lv_tableIn (off := 281) (tgt := 320) G.1.1.1 G.1.1.2.1 dL_law_39 (by omega) (by omega) (by rw [h]; rfl) (by decide) ?_
    by_cases hth : dThr ps a a2
    · exact lw_dA G hJ hex (by omega) ha ha2 (c_L_decodeT hst hC hia hia2 hth) hcs (fun r u hru => by
        obtain ⟨h1, h2⟩ := hru
        subst h1 h2
        exact lw_dB G hJ (by omega) ha ha2 hM hv.2.2.1 hia hia2 hcs (Or.inl ⟨rfl, hth⟩) (fun τ' h3 => kk 1 σ τ' u T ps P (by decide) ⟨hC, h3, hv, hp⟩)) H locs ls hP hD hS hl
    · exact lw_dA G hJ hex (by omega) ha ha2 (c_L_decode hC hia hia2 hth) hcs0 (fun r u hru => by
        obtain ⟨h1, h2⟩ := hru
        subst h1
        exact lw_dB G hJ (by omega) ha ha2 hM hv.2.2.1 hia hia2 hcs0 (Or.inr ⟨rfl, hth, h2⟩) (fun τ' h3 => kk 0 σ τ' u T ps P (by decide) ⟨hC, h3, hv, hp⟩)) H locs ls hP hD hS hl
  · refine lv_tableIn (off := 349) (tgt := 388) G.1.1.1 G.1.1.2.1 dL_law_39 (by omega) (by omega) (by rw [h]; rfl) (by decide) ?_
    exact lw_c0 G oL_X5_tokens oL_X6_tokens hcs0 (c_X5_tokens hC) (c_X6_tokens hM) dL_law_388 dL_law_389 dL_law_392 dL_law_393 dL_law_396 (by decide) keep H locs ls hP hD hS hl
  · refine lv_tableIn (off := 362) (tgt := 401) G.1.1.1 G.1.1.2.1 dL_law_39 (by omega) (by omega) (by rw [h]; rfl) (by decide) ?_
    exact lw_c1 G (by omega) ha oL_X5_at oL_X6_at hcs0 (c_X5_at hC hia) (c_X6_at hM hia) dL_law_401 dL_law_402 dL_law_403 dL_law_405 dL_law_406 dL_law_407 dL_law_408 dL_law_411 dL_law_412 dL_law_413 dL_law_415 dL_law_416 dL_law_417 dL_law_418 dL_law_421 (by decide) keep H locs ls hP hD hS hl
  · refine lv_tableIn (off := 387) (tgt := 426) G.1.1.1 G.1.1.2.1 dL_law_39 (by omega) (by omega) (by rw [h]; rfl) (by decide) ?_
    exact lw_c1 G (by omega) ha oL_X5_from oL_X6_from hcs0 (c_X5_from hC hia) (c_X6_from hM hia) dL_law_426 dL_law_427 dL_law_428 dL_law_430 dL_law_431 dL_law_432 dL_law_433 dL_law_436 dL_law_437 dL_law_438 dL_law_440 dL_law_441 dL_law_442 dL_law_443 dL_law_446 (by decide) keep H locs ls hP hD hS hl
  · refine lv_tableIn (off := 412) (tgt := 451) G.1.1.1 G.1.1.2.1 dL_law_39 (by omega) (by omega) (by rw [h]; rfl) (by decide) ?_
    exact lw_c2 G (by omega) ha ha2 oL_X5_points oL_X6_points hcs0 (c_X5_points hC hia hia2) (c_X6_points hM hia hia2) dL_law_451 dL_law_452 dL_law_453 dL_law_455 dL_law_456 dL_law_457 dL_law_458 dL_law_459 dL_law_461 dL_law_462 dL_law_463 dL_law_464 dL_law_467 dL_law_468 dL_law_469 dL_law_471 dL_law_472 dL_law_473 dL_law_474 dL_law_475 dL_law_477 dL_law_478 dL_law_479 dL_law_480 dL_law_483 (by decide) (fun σ' τ' h1 h2 => k0 σ' τ' f T ps _ ⟨h1, h2, hv, inv_pts hp a a2⟩) H locs ls hP hD hS hl
  · refine lv_tableIn (off := 449) (tgt := 488) G.1.1.1 G.1.1.2.1 dL_law_39 (by omega) (by omega) (by rw [h]; rfl) (by decide) ?_
    exact lw_c0 G oL_X5_best oL_X6_best hcs0 (c_X5_best hC hp hv.2.1) (c_X6_best hM hp hv) dL_law_488 dL_law_489 dL_law_492 dL_law_493 dL_law_496 (by decide) keep H locs ls hP hD hS hl
  · refine lv_tableIn (off := 462) (tgt := 501) G.1.1.1 G.1.1.2.1 dL_law_39 (by omega) (by omega) (by rw [h]; rfl) (by decide) ?_
    exact lw_c1 G (by omega) ha oL_X5_bestAt oL_X6_bestAt hcs0 (c_X5_bestAt hC hia hp hv.2.1) (c_X6_bestAt hM hia hp hv) dL_law_501 dL_law_502 dL_law_503 dL_law_505 dL_law_506 dL_law_507 dL_law_508 dL_law_511 dL_law_512 dL_law_513 dL_law_515 dL_law_516 dL_law_517 dL_law_518 dL_law_521 (by decide) keep H locs ls hP hD hS hl
  · refine lv_tableIn (off := 487) (tgt := 526) G.1.1.1 G.1.1.2.1 dL_law_39 (by omega) (by omega) (by rw [h]; rfl) (by decide) ?_
    exact lw_c0 G oL_X5_sum oL_X6_sum hcs0 (c_X5_sum hC hp hv.2.1) (c_X6_sum hM hp hv) dL_law_526 dL_law_527 dL_law_530 dL_law_531 dL_law_534 (by decide) keep H locs ls hP hD hS hl
  · refine lv_tableIn (off := 500) (tgt := 539) G.1.1.1 G.1.1.2.1 dL_law_39 (by omega) (by omega) (by rw [h]; rfl) (by decide) ?_
    exact lw_c0 G oL_X5_ways oL_X6_ways hcs0 (c_X5_ways hC hp hv.2.1) (c_X6_ways hM hp hv) dL_law_539 dL_law_540 dL_law_543 dL_law_544 dL_law_547 (by decide) keep H locs ls hP hD hS hl
end Turn
end
section
/-! the law's loop -/
section Loop
variable {p : Program} {l : Launch} {e : Env} {s : State} {m : MethodId} {b : Nat} {below : List Frame} {meth : Method} {c : Code} {D : va_G} {cA : Nat → ClassId} {cJ : ClassId} {ad bd : Nat → Nat} {q Ln : Nat} {xs : Nat → Int32}
theorem lw_loop (G : LF p s m c b Ln xs D cA) (hJ : va_K D vwCl (gT cA ++ [(cJ, .long)]) s) (hex : exF s) (hst : l.stackTraces = false) (hr : meth.sig.returnType = ret) (hlk : meth.locks = false) : ∀ (r k n : Nat) (σ τ : St) (f : Nat → Int64) (T : List Int) (ps : PSt) (P : Int → Int), Ln ≤ 3 * k + 3 * r → k ≤ 512 → n ≤ k → LInv σ τ T ps P → WL p l e s m b below meth c (39 + n) (21843 + 6 * n) D 23 (lvC b ad bd q (3 * k)) [] (lwW cA cJ bd ad q τ σ f)
  | r, k, n, σ, τ, f, T, ps, P, hLn, hk, hn, I => by
    intro H locs ls hP hD hS hl
    have hL := G.2.2.2
    refine lv_iload (x := zI ((3 * k : Nat) : Int)) G.1.1.1 G.1.1.2.1 dL_law_23 (hl.2.2 (4, .int (zI ((3 * k : Nat) : Int))) (List.mem_of_getElem? (i := 0) rfl)) ?_
    refine lv_aload_n (i := 0) (x := b) G.1.1.1 G.1.1.2.1 dL_law_25 rfl (hl.2.2 (0, .ref b) (List.mem_of_getElem? (i := 4) rfl)) ?_
    refine va_slen G.1.1.1 G.1.1.2.1 G.2.1 G.2.2.1 (by have := G.2.2.1; omega) hS dL_law_26 ?_
    refine lv_iconst (v := zI 3) G.1.1.1 G.1.1.2.1 dL_law_27 rfl ?_
    refine lv_isub G.1.1.1 G.1.1.2.1 dL_law_28 ?_
    rw [show Int32.ofNat Ln = zI (Ln : Int) from (zI_nat Ln).symm, zI_sub]
    refine lv_icmp_gt (tgt := 558) G.1.1.1 G.1.1.2.1 dL_law_29 (by decide) (fun _ => ?_) (fun hgt => ?_)
    · refine lv_iconst (v := 1) G.1.1.1 G.1.1.2.1 dL_law_558 (by decide) ?_
      exact W.widen (by omega) (by omega) (W.forget (locs := []) (L := locs) hS.2.2 (lw_ret G.1.1.1 G.1.1.2.1 hr hlk dL_law_559))
    · rw [zI_lt (by unfold inR; omega) (by unfold inR; omega)] at hgt
      match r, hLn with
      | 0, hLn => exact absurd hLn (by omega)
      | r + 1, hLn =>
        refine lw_turn (cJ := cJ) (ad := ad) (bd := bd) (q := q) G hJ hex hst (i := 3 * k) (by omega) I (by show 39 + n + 1 ≤ 1064 ∧ 21843 + 6 * n + 6 ≤ 30041; omega) (fun n' σ' τ' f' T' ps' P' hn' I' => ?_) H locs ls hP hD hS hl
        intro H2 locs2 ls2 hP2 hD2 hS2 hl2
        refine lv_iinc (k := 0) (v := zI ((3 * (k + 1) : Nat) : Int)) G.1.1.1 G.1.1.2.1 dL_law_552 hl2 rfl (by
          show zI _ + zI 3 = _
          rw [zI_add]
          congr 1) (by decide) rfl (fun ls3 hl3 => ?_)
        refine lv_goto G.1.1.1 G.1.1.2.1 (tgt := 23) dL_law_555 (by decide) ?_
        have := lw_loop G hJ hex hst hr hlk r (k + 1) (n + n') σ' τ' f' T' ps' P' (by omega) (by omega) (by omega) I' H2 locs2 ls3 hP2 hD2 hS2 hl3
        rw [show 39 + n + n' = 39 + (n + n') by omega, show 21843 + 6 * n + 6 * n' = 21843 + 6 * (n + n') by omega]
        exact this
end Loop
end
section
/-! what the start gives -/
theorem exO_in : ∀ w ∈ exO, w ∈ lw_tbl ∨ w = .isRef (.static "java/lang/Throwable" "UNASSIGNED_STACK" "[Ljava/lang/StackTraceElement;") ∨ w = .isRef (.static "java/lang/Throwable" "SUPPRESSED_SENTINEL" "Ljava/util/List;") := by decide +kernel
theorem ex_any {A : Array Value} {s : State} (h : ∀ w ∈ exO, w.before A s = true) : ∀ w ∈ exO, w.before #[] s = true := by
  intro w hw
  have hb := exB_ok w hw
  have hs := h w hw
  have hk : Kst s s := fun _ _ h _ => h
  cases w with
  | isRef t =>
    cases t with
    | static O n d =>
      have hb2 : exO.contains (.laysStatic O n d) = true := by simpa only [exB] using hb
      exact isref_kept (Vm.Alike.refl s.vm) hk (h _ (List.contains_iff_mem.mp hb2)) hs
    | _ => exact absurd hb (by simp [exB, Cond.onTables])
  | laysStatic O n d => exact lays_kept (Vm.Alike.refl s.vm) hk hs
  | _ => exact word_face (State.WarmedH.refl s) (by simp only [exB, Bool.and_eq_true] at hb; exact hb.1) (by simp only [exB, Bool.and_eq_true] at hb; exact hb.2) hs
theorem ex_start {s : State} {b : Nat} (hts : ∀ w ∈ lw_tbl, w.before #[Value.ref b] s = true) (hgv : (Jvm.Cond.and given_1 narrow_1).before #[Value.ref b] s = true) : exF s := by
  have hs := flat_of_before _ hgv
  refine ⟨⟨ex_any (A := #[Value.ref b]) (fun w hw => ?_), ?_⟩, word_at (State.WarmedH.refl s) (Or.inl rfl) (hts (Cond.classLink RL 13 RJx00060) (by decide +kernel))⟩
  · rcases exO_in w hw with h | h | h
    · exact hts w h
    · subst h
      exact hs _ (by decide +kernel)
    · subst h
      exact hs _ (by decide +kernel)
  · have h1 : (Cond.exactly (Term.string RX5 95) "java/lang/String").before #[Value.ref b] s = true := hs _ (by decide +kernel)
    obtain ⟨a, c, cA, kA, q1, -⟩ := Cond.exactly_spec (args := #[Value.ref b]) (first := s) (o := none) (s := s) (idx := []) (t := Term.string RX5 95) (cls := "java/lang/String") h1
    exact ⟨a, vk_R.of (A := #[Value.ref b]) (hts (Cond.stringRef RX5 95 "the token has no such byte") (by decide +kernel)) q1⟩
theorem kn_arr {s : State} {A : Array Value} {ty : FieldType} (hty : ∀ C, ty ≠ .object C) (h : (Cond.arrayClass ty).before A s = true) : ∃ cA : ClassId, ArrOfT s cA ty ∧ va_RA s cA ty := by
  obtain ⟨c, k, comp, h1, h2, h3⟩ := Cond.arrayClass_spec h
  refine ⟨c, fun n z => ⟨fun k h => (by cases h), k, h2, comp, h3⟩, ?_⟩
  cases ty with
  | object C => exact absurd rfl (hty C)
  | _ => exact h1
theorem kn_all {s : State} {b : Nat} (hts : ∀ w ∈ lw_tbl, w.before #[Value.ref b] s = true) : ∃ (D : va_G) (cA : Nat → ClassId), va_K D vwCl (gT cA) s := by
  obtain ⟨c0, i0, h0⟩ := u_known hts lwk_Jx00060 (hts (Cond.instantiable RJx00060 6) (by decide +kernel))
  obtain ⟨c1, i1, h1⟩ := u_known hts lwk_X0 (hts (Cond.instantiable RX0 4) (by decide +kernel))
  obtain ⟨c2, i2, h2⟩ := u_known hts lwk_X1 (hts (Cond.instantiable RX1 3) (by decide +kernel))
  obtain ⟨c3, i3, h3⟩ := u_known hts lwk_X2 (hts (Cond.instantiable RX2 4) (by decide +kernel))
  obtain ⟨c4, i4, h4⟩ := u_known hts lwk_X3 (hts (Cond.instantiable RX3 2) (by decide +kernel))
  obtain ⟨c5, i5, h5⟩ := u_known hts lwk_X4 (hts (Cond.instantiable RX4 8) (by decide +kernel))
  obtain ⟨c6, i6, h6⟩ := u_known hts lwk_X5 (hts (Cond.instantiable RX5 5) (by decide +kernel))
  obtain ⟨c7, i7, h7⟩ := u_known hts lwk_X6 (hts (Cond.instantiable RX6 17) (by decide +kernel))
  obtain ⟨a0, g0⟩ := kn_arr (ty := .int) (fun C h => by cases h) (hts (Cond.arrayClass .int) (by decide +kernel))
  obtain ⟨a1, g1⟩ := kn_arr (ty := .boolean) (fun C h => by cases h) (hts (Cond.arrayClass .boolean) (by decide +kernel))
  refine ⟨(fun k => ([c0, c1, c2, c3, c4, c5, c6, c7] : List ClassId).getD k 0, fun k => ([i0, i1, i2, i3, i4, i5, i6, i7] : List (Nat → Nat)).getD k (fun _ => 0)), fun k => if k = 0 then a0 else a1, fun c q hq => ?_, fun k q hq => ?_⟩
  · match c, hq with
    | 0, hq => cases hq; exact h0
    | 1, hq => cases hq; exact h1
    | 2, hq => cases hq; exact h2
    | 3, hq => cases hq; exact h3
    | 4, hq => cases hq; exact h4
    | 5, hq => cases hq; exact h5
    | 6, hq => cases hq; exact h6
    | 7, hq => cases hq; exact h7
    | n + 8, hq => cases hq
  · match k, hq with
    | 0, hq => cases hq; exact g0
    | 1, hq => cases hq; exact g1
    | n + 2, hq => cases hq
theorem inv_start {σ τ : St} (h1 : rng σ) (h2 : σ 1 1 = 0) (h3 : σ 2 5 = 0) (h4 : ∀ i, i < 288 → σ 11 i = -10) (g1 : rng τ) (g2 : ∀ j, j ≠ 7 → τ j = fun _ => 0) (g3 : ∀ i, i < 256 → τ 7 i = -10) : LInv σ τ [] [] (fun _ => -10) := by
  have t0 : τ 0 = fun _ => 0 := g2 0 (by decide)
  have hR : RC σ [] [] (fun _ => -10) := by
    refine ⟨h1, ⟨h2, Nat.zero_le _, fun i hi => absurd hi (Nat.not_lt_zero i)⟩, ⟨h3, Nat.zero_le _, fun t q hq => ?_, fun j hj => absurd hj (Nat.not_lt_zero j)⟩, fun t ht => h4 t ?_⟩
    · simp at hq
    · have : t < 256 + 0 := ht
      omega
  have hM : RM τ [] [] (fun _ => -10) := by
    refine ⟨g1, ⟨by rw [t0]; rfl, Nat.zero_le _, fun i hi => absurd hi (Nat.not_lt_zero i)⟩, ⟨by rw [t0]; rfl, Nat.zero_le _, fun t q hq => ?_, fun j hj => absurd hj (Nat.not_lt_zero j)⟩, fun t ht => g3 t ?_⟩
    · simp at hq
    · have : t < 256 + 0 := ht
      omega
  refine ⟨hR, hM, ⟨fun t q hq => ?_, fun j hj => absurd hj (Nat.not_lt_zero j), fun j hj => absurd hj (Nat.not_lt_zero j), fun j hj => absurd hj (Nat.not_lt_zero j)⟩, fun t _ _ => ?_⟩
  · simp at hq
  · show (-120 : Int) ≤ -10 ∧ (-10 : Int) ≤ 120
    decide
theorem dfltX5 : ∀ j, j < 5 → defaultValue (tyX5 j) = vp_V [.null, .null, .null, .null, .null] j := fun j hj => by
  rcases (show j = 0 ∨ j = 1 ∨ j = 2 ∨ j = 3 ∨ j = 4 by omega) with rfl | rfl | rfl | rfl | rfl <;> first | rfl | (show Value.int 0 = Value.int (zI 0); rw [← zI_0])
theorem dfltX6 : ∀ j, j < 17 → defaultValue (tyX6 j) = vp_V [.int (zI 0), .int (zI 0), .null, .int (zI 0), .null, .null, .null, .null, .null, .null, .int (zI 0), .null, .null, .null, .null, .null, .null] j := fun j hj => by
  rcases (show j = 0 ∨ j = 1 ∨ j = 2 ∨ j = 3 ∨ j = 4 ∨ j = 5 ∨ j = 6 ∨ j = 7 ∨ j = 8 ∨ j = 9 ∨ j = 10 ∨ j = 11 ∨ j = 12 ∨ j = 13 ∨ j = 14 ∨ j = 15 ∨ j = 16 by omega) with rfl | rfl | rfl | rfl | rfl | rfl | rfl | rfl | rfl | rfl | rfl | rfl | rfl | rfl | rfl | rfl | rfl <;> first | rfl | (show Value.int 0 = Value.int (zI 0); rw [← zI_0])
end
section
/-! from the law's entry to its end -/
set_option maxHeartbeats 2000000 in
set_option maxRecDepth 20000 in
theorem whole_start {p : Program} {e : Env} {s : State} {m : MethodId} {below : List Frame} {meth : Method} {c : Code} (l : Launch) (hst : l.stackTraces = false) {b L : Nat} {xs : Nat → Int32} (hL : L ≤ 1536) (C0 : lw_At p s m meth c b L xs) : W p l e room_1 s m #[Value.ref b] below meth c s.heap [] 0 0 (lw_Z below #[Value.ref b] s) (entryFrame m ([Value.ref b] : List Value).toArray 7) := by
  obtain ⟨hx, hb, hr, hml, hown, hts, hX, hbl, hlk, hgv⟩ := C0
  have hex := ex_start hts hgv
  obtain ⟨D, cA, hK⟩ := kn_all hts
  have F : Fx p s m #[Value.ref b] c cL_law 7 RL wsL_law D cA (fun y => s.heap.size ≤ y) := ⟨⟨hx, hb, hml, hown, fun w hw => hts w (wsL_law_in w hw)⟩, hK, fun q h => h⟩
  have G : LF p s m c b L xs D cA := ⟨F, hX, hbl, hL⟩
  have hl := lv_entry [Value.ref b] (n := 7) (Nat.le_of_ble_eq_true rfl)
  rw [lg_entry_eq]
  refine Wd.mk F (base := []) (lv := [(0, .ref b)]) (C2 := RX5) (T2 := TX5) (N2 := 5) (ci2 := 6) (idxn := 8) (idxi := 15) (mc := 23) (ms := 2321) (fs2 := [.null, .null, .null, .null, .null]) (y := yX5_init) tyX5 tyX5_ok (by decide +kernel) rfl (by decide +kernel) (by decide +kernel) (by decide +kernel) dfltX5 (fun q => c_X5_init) gL_law_X5_init rfl rfl rfl rfl (by decide +kernel) (by decide +kernel) rfl (by decide +kernel) (by decide) (Nat.le_of_ble_eq_true rfl) (Nat.le_of_ble_eq_true rfl) dL_law_0 dL_law_3 dL_law_4 (fun q1 u hu => ?_) s.heap [] _ (fun k z hz => by simp at hz) ⟨fun i j x y hx => by simp at hx, fun k z hz => by simp at hz⟩ va_S.rf hl
  obtain ⟨ad, σ, hu1, hu2, s1, s2, s3, s4⟩ := hu
  subst hu1 hu2
  intro H1 locs1 ls1 hP1 hD1 hS1 hl1
  refine lv_astore_n (i := 1) F.1.1 F.1.2.1 dL_law_7 rfl hl1 (by decide) rfl (fun ls2 hl2 => ?_)
  refine Wd.mk F (base := wL cA ad σ 0 LC) (lv := [(1, .ref (ad 0)), (0, .ref b)]) (C2 := RX6) (T2 := TX6) (N2 := 17) (ci2 := 7) (idxn := 16) (idxi := 18) (mc := 13) (ms := 19499) (fs2 := [.int (zI 0), .int (zI 0), .null, .int (zI 0), .null, .null, .null, .null, .null, .null, .int (zI 0), .null, .null, .null, .null, .null, .null]) (y := yX6_init) tyX6 tyX6_ok (by decide +kernel) rfl (by decide +kernel) (by decide +kernel) (by decide +kernel) dfltX6 (fun q => c_X6_init) gL_law_X6_init rfl rfl rfl rfl (by decide +kernel) (by decide +kernel) rfl (by decide +kernel) (by decide) (Nat.le_of_ble_eq_true rfl) (Nat.le_of_ble_eq_true rfl) dL_law_8 dL_law_11 dL_law_12 (fun q2 u hu => ?_) H1 locs1 ls2 hP1 hD1 hS1 hl2
  obtain ⟨q00, q01, q02, q03, q04, q05, q06, q07, q08, q09, q10, q11, q12, τ, hu3, g1, g2, g3⟩ := hu
  subst hu3
  intro H2 locs2 ls3 hP2 hD2 hS2 hl3
  refine lv_astore_n (i := 2) F.1.1 F.1.2.1 dL_law_15 rfl hl3 (by decide) rfl (fun ls4 hl4 => ?_)
  refine lv_iconst (v := zI 1) F.1.1 F.1.2.1 dL_law_16 rfl ?_
  refine va_newa F.1.1 F.1.2.1 (F.1.2.2.2.2 (Cond.arrayClass (newarray.typeOf .long)) (by decide +kernel)) rfl F.2.1 hP2 hD2 hS2 F.2.2 (N' := 1) (a0 := (1, .inr (.inl (fun _ => 0)))) (fun _ => rfl) (by decide) (by decide) (by decide) (Nat.le_of_ble_eq_true rfl) (Nat.le_of_ble_eq_true rfl) dL_law_17 (fun q cJ H3 hK3 hP3 hD3 hS3 => ?_)
  refine lv_astore_n (i := 3) F.1.1 F.1.2.1 dL_law_19 rfl hl4 (by decide) rfl (fun ls5 hl5 => ?_)
  refine lv_iconst (v := zI 0) F.1.1 F.1.2.1 dL_law_20 rfl ?_
  refine lv_istore F.1.1 F.1.2.1 dL_law_21 hl5 (by decide) rfl (fun ls6 hl6 => ?_)
  exact lw_loop (cJ := cJ) (ad := ad) (bd := fun i => ([q2, q00, q01, q02, q03, q04, q05, q06, q07, q08, q09, q10, q11, q12] : List Nat).getD i 0) (q := q) G hK3 hex hst hr hlk 512 0 0 σ τ (fun _ => 0) [] [] (fun _ => -10) (by omega) (by decide) (by decide) (inv_start s1 s2 s3 s4 g1 g2 g3) H3 locs2 ls6 (perm_P hP3) (perm_D hD3) hS3 hl6
set_option maxHeartbeats 4000000 in
theorem lw_walk (l : Launch) (hst : l.stackTraces = false) (b : Addr) (xs : List Int32) : MetFree l x (headSpec (Jvm.Cond.code x code maxLocals ret :: tables_1) room_1) (lw_P b xs) (fun _ _ _ _ _ => True) lw_Q := by
  refine MetFree.of_bodyS (code := code) (maxLocals := maxLocals) (ret := ret) (by decide) ?_ ?_
  · intro args s m h hn
    obtain ⟨meth, c, h1, h2, h3, h4, h5, h6, -, -⟩ := Cond.code_spec hn (atoms_spec (ws := Jvm.Cond.code x code maxLocals ret :: tables_1) h _ List.mem_cons_self)
    exact ⟨meth, c, h1, h2, h3, h4, h5, h6⟩
  · intro p e s m args below meth c s₁ B hml0 hP _
    obtain ⟨rfl, hx, hbd, hgv⟩ := hP
    obtain ⟨scr, harrAt, hlist, hof, hsmall⟩ := hx
    obtain ⟨hcb, hkn, -, -⟩ := State.arrayAt?_spec harrAt
    have hown : s.vm.findClass R_law = some m.cls := findClass_of_methodNamed B.named
    have hts0 : ∀ c ∈ (Jvm.Cond.code x code maxLocals ret :: tables_1), c.before #[Value.ref b] s = true := atoms_spec (ws := Jvm.Cond.code x code maxLocals ret :: tables_1) B.pre
    have hts : ∀ w ∈ lw_tbl, w.before #[Value.ref b] s = true := k2_hts_sels lw_privs (fun w hw => hts0 w (List.mem_cons_of_mem _ hw)) lw_privs_ok
    have hml : c.maxLocals = 7 := B.maxLocals_eq (hts0 _ List.mem_cons_self)
    have X₀ : Stand p l e room_1 s m #[Value.ref b] below meth c s₁ [] 0 0 := Stand.of_body B
    have hh0 : s₁.heap = s.heap := by rw [B.state]; rfl
    have hsz : scr.slots.size = xs.length := by rw [← Array.length_toList, hlist, List.length_map]
    have hval : ∀ j : Nat, j < xs.length → scr.slots[j]? = some (.int (xs.getD j 0)) := fun j hj => by
      rw [← Array.getElem?_toList, hlist]
      simp [hj]
    have hbl : b < s.heap.size := (Array.getElem?_eq_some_iff.mp hcb).1
    have hX : va_X b xs.length (fun j => xs.getD j 0) s s.heap := ⟨scr, hcb, hof, hkn, hsz, hval⟩
    have K : W p l e room_1 s m #[Value.ref b] below meth c s₁.heap [] 0 0 (lw_Z below #[Value.ref b] s) (entryFrame m ([Value.ref b] : List Value).toArray 7) := by
      rw [hh0]
      exact whole_start l hst hbd ⟨B.exec, B.bytes, B.returns, hml, hown, hts, hX, hbl, B.notSynchronized, hgv⟩
    obtain ⟨t, a1, o, b1, b2, b3⟩ := K s₁ rfl X₀
    exact ⟨t, o, a1, b1, b2, b3⟩
theorem lw_pre_spec {args : Array Value} {s : State} (h : (Jvm.Cond.and given_1 narrow_1).before args s = true) (hr : rest_1_c.before args s = true) : ∃ (b : Addr) (xs : List Int32), lw_P b xs args s := by
  have hs := flat_of_before _ h
  have hq := flat_of_before _ hr
  have hc : (Cond.count 1).before args s = true := hs _ (by decide +kernel)
  have harr : (Cond.arrayOf (.arg 0) .int).before args s = true := hs _ (by decide +kernel)
  have hle : (Cond.le (.length (.arg 0)) (.int 1536)).before args s = true := hs _ (by decide +kernel)
  have hlen : (Cond.isInt (.length (.arg 0))).before args s = true := hq _ (by decide +kernel)
  have hall : (Cond.all (.arg 0) (.isInt (.elem (.arg 0) (.index 0)))).before args s = true := hq _ (by decide +kernel)
  obtain ⟨b, xs, hb, hx⟩ := State.ints_of_pre rfl harr hlen hall
  have hsm : xs.length < 2 ^ 31 := hx.choose_spec.2.2.2
  have hev : (Term.length (.arg 0)).eval args s none [] s = some (.int xs.length.toInt32) := hx.length_eval hb
  have hv := Cond.le_ints hev (show (Term.int 1536).eval args s none [] s = some (.int 1536) from rfl)
  have hd : xs.length.toInt32 ≤ 1536 := by
    simpa [Cond.before, Cond.holds, hv] using hle
  have hN : xs.length ≤ 1536 := (Int32.ofNat_le_ofNat hsm (by decide)).mp (show Int32.ofNat xs.length ≤ Int32.ofNat 1536 from hd)
  exact ⟨b, xs, Cond.one_arg hc (show args[0]? = some (.ref b) from hb), hx, hN, h⟩
theorem lw_comes (l : Launch) (hst : l.stackTraces = false) : Comes l x (Jvm.Cond.code x code maxLocals ret :: tables_1) room_1 (fun tb e args s => Calls_1 tb e args s ∧ rest_1 tb e args s ∧ Pre_1 tb e args s)
    (fun _ _ args s o t => lw_Q args s o t) := by
  intro p e ha hc hk s m args below hf hfit hheap happ hpre
  obtain ⟨b, xs, hP⟩ := lw_pre_spec hpre.2.2 hpre.2.1
  obtain ⟨k, o, h1, h2, h3, hQ⟩ := lw_walk l hst b xs p e ha hc hk s m args below hf ((Spec.applies_iff_loose hf).mp happ).1 hP trivial
  exact ⟨k, o, h1, h2, h3, hQ⟩
theorem lw_frame {s t : State} {o : Outcome} {args : Array Value} (h : Framed s o t [] 1064 30041) :
    Framed s o t (fieldLocs frame_1_writes args s ++ arrayLocs frame_1_arrays args s ++ staticLocs frame_1_statics s) 1064 30041 := h
theorem lw_limb (L : Cond) (hL : ∀ (args : Array Value) (s t : State), L.after args s (.returned (some (.int 1))) t = true) :
    ArmFor flags0 classFile x code maxLocals ret World_1 tables_1 room_1 Calls_1 rest_1 Pre_1
      (fun tb e a s o t => postC L tb e a s o t ∧ Framed s o t (fieldLocs frame_1_writes a s ++ arrayLocs frame_1_arrays a s ++ staticLocs frame_1_statics s) 1064 30041) := by
  intro l hfl _ _ p e ha hc hk s m args below hf hfit hheap happ hpre
  have hst : l.stackTraces = false := by
    unfold Launch.stackTraces
    rw [hfl]
    decide +kernel
  obtain ⟨k, o, h1, h2, h3, rfl, hF⟩ := lw_comes l hst p e ha hc hk s m args below hf hfit hheap happ hpre
  exact ⟨k, _, h1, h2, h3, hL args s _, lw_frame hF⟩
theorem i_vc : Claimed_1_1 ∧ Claimed_1_2 := ⟨lw_limb limb_1_1 (fun args s t => by simp [limb_1_1, Cond.after, Cond.holds, Cond.value]), lw_limb limb_1_2 (fun args s t => Cond.after_iff.mpr (by
  first | (rw [show limb_1_2 = Cond.eq .result (.int 1) from rfl, Cond.eq_ints (x := 1) (y := 1) rfl rfl]; simp; done) | (simp [limb_1_2, Cond.value, Term.eval]; done)))⟩
end
