section
-- ===== PART A: goes FIRST, ahead of the names: the tables' words, and 'selects' of the private methods out of them =====
/-- a private method of a class that the tables say can be made, by its rows of tables_1 -/
def lw_okq (q : MethodName × Nat) : Prop := (q.1.cls ≠ "java/lang/invoke/MethodHandle" ∧ q.1.cls ≠ "java/lang/invoke/VarHandle") ∧ Cond.instantiable q.1.cls q.2 ∈ tables_1 ∧ Cond.privateMethod q.1 ∈ tables_1 ∧ Cond.instanceMethod q.1 ∈ tables_1
theorem lw_p0 : lw_okq (⟨"PuzzleBook", "writeRootBlock", "(I)V"⟩, 7) := ⟨⟨by decide +kernel, by decide +kernel⟩, List.mem_of_getElem? (i := 11) (by decide +kernel), List.mem_of_getElem? (i := 49) (by decide +kernel), List.mem_of_getElem? (i := 50) (by decide +kernel)⟩
theorem lw_p1 : lw_okq (⟨"PuzzleBook", "blockOf", "(I)I"⟩, 7) := ⟨⟨by decide +kernel, by decide +kernel⟩, List.mem_of_getElem? (i := 11) (by decide +kernel), List.mem_of_getElem? (i := 61) (by decide +kernel), List.mem_of_getElem? (i := 62) (by decide +kernel)⟩
theorem lw_p2 : lw_okq (⟨"PuzzleBook$Store", "sumOf", "(I)I"⟩, 5) := ⟨⟨by decide +kernel, by decide +kernel⟩, List.mem_of_getElem? (i := 19) (by decide +kernel), List.mem_of_getElem? (i := 69) (by decide +kernel), List.mem_of_getElem? (i := 70) (by decide +kernel)⟩
theorem lw_p3 : lw_okq (⟨"PuzzleBook", "firstEntryWithFedRow", "()I"⟩, 7) := ⟨⟨by decide +kernel, by decide +kernel⟩, List.mem_of_getElem? (i := 11) (by decide +kernel), List.mem_of_getElem? (i := 114) (by decide +kernel), List.mem_of_getElem? (i := 115) (by decide +kernel)⟩
theorem lw_p4 : lw_okq (⟨"PuzzleBook", "hasFedRow", "(I)Z"⟩, 7) := ⟨⟨by decide +kernel, by decide +kernel⟩, List.mem_of_getElem? (i := 11) (by decide +kernel), List.mem_of_getElem? (i := 118) (by decide +kernel), List.mem_of_getElem? (i := 119) (by decide +kernel)⟩
theorem lw_p5 : lw_okq (⟨"PuzzleBook", "lengthOf", "(I)I"⟩, 7) := ⟨⟨by decide +kernel, by decide +kernel⟩, List.mem_of_getElem? (i := 11) (by decide +kernel), List.mem_of_getElem? (i := 122) (by decide +kernel), List.mem_of_getElem? (i := 123) (by decide +kernel)⟩
theorem lw_p6 : lw_okq (⟨"PuzzleBook", "rowByte", "(II)I"⟩, 7) := ⟨⟨by decide +kernel, by decide +kernel⟩, List.mem_of_getElem? (i := 11) (by decide +kernel), List.mem_of_getElem? (i := 127) (by decide +kernel), List.mem_of_getElem? (i := 128) (by decide +kernel)⟩
theorem lw_p7 : lw_okq (⟨"PuzzleBook", "fedByte", "(I)I"⟩, 7) := ⟨⟨by decide +kernel, by decide +kernel⟩, List.mem_of_getElem? (i := 11) (by decide +kernel), List.mem_of_getElem? (i := 132) (by decide +kernel), List.mem_of_getElem? (i := 133) (by decide +kernel)⟩
theorem lw_p8 : lw_okq (⟨"PuzzleBook", "leastFreeBlock", "()I"⟩, 7) := ⟨⟨by decide +kernel, by decide +kernel⟩, List.mem_of_getElem? (i := 11) (by decide +kernel), List.mem_of_getElem? (i := 136) (by decide +kernel), List.mem_of_getElem? (i := 137) (by decide +kernel)⟩
theorem lw_p9 : lw_okq (⟨"PuzzleBook", "isTaken", "(I)Z"⟩, 7) := ⟨⟨by decide +kernel, by decide +kernel⟩, List.mem_of_getElem? (i := 11) (by decide +kernel), List.mem_of_getElem? (i := 144) (by decide +kernel), List.mem_of_getElem? (i := 145) (by decide +kernel)⟩
theorem lw_p10 : lw_okq (⟨"PuzzleBook", "writeEntryBlock", "(II)V"⟩, 7) := ⟨⟨by decide +kernel, by decide +kernel⟩, List.mem_of_getElem? (i := 11) (by decide +kernel), List.mem_of_getElem? (i := 148) (by decide +kernel), List.mem_of_getElem? (i := 149) (by decide +kernel)⟩
theorem lw_p11 : lw_okq (⟨"PuzzleBook", "addEntryBlock", "(I)V"⟩, 7) := ⟨⟨by decide +kernel, by decide +kernel⟩, List.mem_of_getElem? (i := 11) (by decide +kernel), List.mem_of_getElem? (i := 152) (by decide +kernel), List.mem_of_getElem? (i := 153) (by decide +kernel)⟩
theorem lw_p12 : lw_okq (⟨"PuzzleBook", "writeOtherRootAndTurn", "()V"⟩, 7) := ⟨⟨by decide +kernel, by decide +kernel⟩, List.mem_of_getElem? (i := 11) (by decide +kernel), List.mem_of_getElem? (i := 156) (by decide +kernel), List.mem_of_getElem? (i := 157) (by decide +kernel)⟩
theorem lw_p13 : lw_okq (⟨"PuzzleBook", "nameOf", "(I)I"⟩, 7) := ⟨⟨by decide +kernel, by decide +kernel⟩, List.mem_of_getElem? (i := 11) (by decide +kernel), List.mem_of_getElem? (i := 164) (by decide +kernel), List.mem_of_getElem? (i := 165) (by decide +kernel)⟩
theorem lw_p14 : lw_okq (⟨"PuzzleBook", "isEntry", "(I)Z"⟩, 7) := ⟨⟨by decide +kernel, by decide +kernel⟩, List.mem_of_getElem? (i := 11) (by decide +kernel), List.mem_of_getElem? (i := 172) (by decide +kernel), List.mem_of_getElem? (i := 173) (by decide +kernel)⟩
theorem lw_p15 : lw_okq (⟨"PuzzleBook", "removeEntryBlock", "(I)V"⟩, 7) := ⟨⟨by decide +kernel, by decide +kernel⟩, List.mem_of_getElem? (i := 11) (by decide +kernel), List.mem_of_getElem? (i := 180) (by decide +kernel), List.mem_of_getElem? (i := 181) (by decide +kernel)⟩
def lw_privs_1 : List (MethodName × Nat) := [(⟨"PuzzleBook", "writeRootBlock", "(I)V"⟩, 7), (⟨"PuzzleBook", "blockOf", "(I)I"⟩, 7), (⟨"PuzzleBook$Store", "sumOf", "(I)I"⟩, 5), (⟨"PuzzleBook", "firstEntryWithFedRow", "()I"⟩, 7), (⟨"PuzzleBook", "hasFedRow", "(I)Z"⟩, 7), (⟨"PuzzleBook", "lengthOf", "(I)I"⟩, 7), (⟨"PuzzleBook", "rowByte", "(II)I"⟩, 7), (⟨"PuzzleBook", "fedByte", "(I)I"⟩, 7), (⟨"PuzzleBook", "leastFreeBlock", "()I"⟩, 7), (⟨"PuzzleBook", "isTaken", "(I)Z"⟩, 7), (⟨"PuzzleBook", "writeEntryBlock", "(II)V"⟩, 7), (⟨"PuzzleBook", "addEntryBlock", "(I)V"⟩, 7), (⟨"PuzzleBook", "writeOtherRootAndTurn", "()V"⟩, 7), (⟨"PuzzleBook", "nameOf", "(I)I"⟩, 7), (⟨"PuzzleBook", "isEntry", "(I)Z"⟩, 7), (⟨"PuzzleBook", "removeEntryBlock", "(I)V"⟩, 7)]
theorem lw_r1 : ∀ q ∈ lw_privs_1, lw_okq q := List.forall_mem_cons.mpr ⟨lw_p0, List.forall_mem_cons.mpr ⟨lw_p1, List.forall_mem_cons.mpr ⟨lw_p2, List.forall_mem_cons.mpr ⟨lw_p3, List.forall_mem_cons.mpr ⟨lw_p4, List.forall_mem_cons.mpr ⟨lw_p5, List.forall_mem_cons.mpr ⟨lw_p6, List.forall_mem_cons.mpr ⟨lw_p7, List.forall_mem_cons.mpr ⟨lw_p8, List.forall_mem_cons.mpr ⟨lw_p9, List.forall_mem_cons.mpr ⟨lw_p10, List.forall_mem_cons.mpr ⟨lw_p11, List.forall_mem_cons.mpr ⟨lw_p12, List.forall_mem_cons.mpr ⟨lw_p13, List.forall_mem_cons.mpr ⟨lw_p14, List.forall_mem_cons.mpr ⟨lw_p15, fun _ h => absurd h List.not_mem_nil⟩⟩⟩⟩⟩⟩⟩⟩⟩⟩⟩⟩⟩⟩⟩⟩
theorem lw_p16 : lw_okq (⟨"PuzzleBook", "readFromStore", "()I"⟩, 7) := ⟨⟨by decide +kernel, by decide +kernel⟩, List.mem_of_getElem? (i := 11) (by decide +kernel), List.mem_of_getElem? (i := 200) (by decide +kernel), List.mem_of_getElem? (i := 201) (by decide +kernel)⟩
theorem lw_p17 : lw_okq (⟨"PuzzleBook", "readRootBlock", "(I)Z"⟩, 7) := ⟨⟨by decide +kernel, by decide +kernel⟩, List.mem_of_getElem? (i := 11) (by decide +kernel), List.mem_of_getElem? (i := 204) (by decide +kernel), List.mem_of_getElem? (i := 205) (by decide +kernel)⟩
theorem lw_p18 : lw_okq (⟨"PuzzleBook", "leastWrongEntryBlock", "()I"⟩, 7) := ⟨⟨by decide +kernel, by decide +kernel⟩, List.mem_of_getElem? (i := 11) (by decide +kernel), List.mem_of_getElem? (i := 212) (by decide +kernel), List.mem_of_getElem? (i := 213) (by decide +kernel)⟩
theorem lw_p19 : lw_okq (⟨"java/lang/Throwable", "fillInStackTrace", "(I)Ljava/lang/Throwable;"⟩, 6) := ⟨⟨by decide +kernel, by decide +kernel⟩, List.mem_of_getElem? (i := 289) (by decide +kernel), List.mem_of_getElem? (i := 287) (by decide +kernel), List.mem_of_getElem? (i := 288) (by decide +kernel)⟩
theorem lw_p20 : lw_okq (⟨"PuzzleBookModel", "writeRoot", "(II)V"⟩, 12) := ⟨⟨by decide +kernel, by decide +kernel⟩, List.mem_of_getElem? (i := 321) (by decide +kernel), List.mem_of_getElem? (i := 327) (by decide +kernel), List.mem_of_getElem? (i := 328) (by decide +kernel)⟩
theorem lw_p21 : lw_okq (⟨"PuzzleBookModel", "write", "(II)V"⟩, 12) := ⟨⟨by decide +kernel, by decide +kernel⟩, List.mem_of_getElem? (i := 321) (by decide +kernel), List.mem_of_getElem? (i := 331) (by decide +kernel), List.mem_of_getElem? (i := 332) (by decide +kernel)⟩
theorem lw_p22 : lw_okq (⟨"PuzzleBookModel", "writeSum", "(I)V"⟩, 12) := ⟨⟨by decide +kernel, by decide +kernel⟩, List.mem_of_getElem? (i := 321) (by decide +kernel), List.mem_of_getElem? (i := 335) (by decide +kernel), List.mem_of_getElem? (i := 336) (by decide +kernel)⟩
theorem lw_p23 : lw_okq (⟨"PuzzleBookModel", "sumOf", "(I)I"⟩, 12) := ⟨⟨by decide +kernel, by decide +kernel⟩, List.mem_of_getElem? (i := 321) (by decide +kernel), List.mem_of_getElem? (i := 339) (by decide +kernel), List.mem_of_getElem? (i := 340) (by decide +kernel)⟩
theorem lw_p24 : lw_okq (⟨"PuzzleBookModel", "hasFed", "(I)Z"⟩, 12) := ⟨⟨by decide +kernel, by decide +kernel⟩, List.mem_of_getElem? (i := 321) (by decide +kernel), List.mem_of_getElem? (i := 394) (by decide +kernel), List.mem_of_getElem? (i := 395) (by decide +kernel)⟩
theorem lw_p25 : lw_okq (⟨"PuzzleBookModel", "longOf", "(I)I"⟩, 12) := ⟨⟨by decide +kernel, by decide +kernel⟩, List.mem_of_getElem? (i := 321) (by decide +kernel), List.mem_of_getElem? (i := 398) (by decide +kernel), List.mem_of_getElem? (i := 399) (by decide +kernel)⟩
theorem lw_p26 : lw_okq (⟨"PuzzleBookModel", "leastFree", "()I"⟩, 12) := ⟨⟨by decide +kernel, by decide +kernel⟩, List.mem_of_getElem? (i := 321) (by decide +kernel), List.mem_of_getElem? (i := 402) (by decide +kernel), List.mem_of_getElem? (i := 403) (by decide +kernel)⟩
theorem lw_p27 : lw_okq (⟨"PuzzleBookModel", "isUsed", "(I)Z"⟩, 12) := ⟨⟨by decide +kernel, by decide +kernel⟩, List.mem_of_getElem? (i := 321) (by decide +kernel), List.mem_of_getElem? (i := 406) (by decide +kernel), List.mem_of_getElem? (i := 407) (by decide +kernel)⟩
theorem lw_p28 : lw_okq (⟨"PuzzleBookModel", "writeEntry", "(II)V"⟩, 12) := ⟨⟨by decide +kernel, by decide +kernel⟩, List.mem_of_getElem? (i := 321) (by decide +kernel), List.mem_of_getElem? (i := 410) (by decide +kernel), List.mem_of_getElem? (i := 411) (by decide +kernel)⟩
theorem lw_p29 : lw_okq (⟨"PuzzleBookModel", "turnTo", "(I)V"⟩, 12) := ⟨⟨by decide +kernel, by decide +kernel⟩, List.mem_of_getElem? (i := 321) (by decide +kernel), List.mem_of_getElem? (i := 414) (by decide +kernel), List.mem_of_getElem? (i := 415) (by decide +kernel)⟩
theorem lw_p30 : lw_okq (⟨"PuzzleBookModel", "nameOf", "(I)I"⟩, 12) := ⟨⟨by decide +kernel, by decide +kernel⟩, List.mem_of_getElem? (i := 321) (by decide +kernel), List.mem_of_getElem? (i := 426) (by decide +kernel), List.mem_of_getElem? (i := 427) (by decide +kernel)⟩
theorem lw_p31 : lw_okq (⟨"PuzzleBookModel", "rootIsRight", "(I)Z"⟩, 12) := ⟨⟨by decide +kernel, by decide +kernel⟩, List.mem_of_getElem? (i := 321) (by decide +kernel), List.mem_of_getElem? (i := 442) (by decide +kernel), List.mem_of_getElem? (i := 443) (by decide +kernel)⟩
def lw_privs_2 : List (MethodName × Nat) := [(⟨"PuzzleBook", "readFromStore", "()I"⟩, 7), (⟨"PuzzleBook", "readRootBlock", "(I)Z"⟩, 7), (⟨"PuzzleBook", "leastWrongEntryBlock", "()I"⟩, 7), (⟨"java/lang/Throwable", "fillInStackTrace", "(I)Ljava/lang/Throwable;"⟩, 6), (⟨"PuzzleBookModel", "writeRoot", "(II)V"⟩, 12), (⟨"PuzzleBookModel", "write", "(II)V"⟩, 12), (⟨"PuzzleBookModel", "writeSum", "(I)V"⟩, 12), (⟨"PuzzleBookModel", "sumOf", "(I)I"⟩, 12), (⟨"PuzzleBookModel", "hasFed", "(I)Z"⟩, 12), (⟨"PuzzleBookModel", "longOf", "(I)I"⟩, 12), (⟨"PuzzleBookModel", "leastFree", "()I"⟩, 12), (⟨"PuzzleBookModel", "isUsed", "(I)Z"⟩, 12), (⟨"PuzzleBookModel", "writeEntry", "(II)V"⟩, 12), (⟨"PuzzleBookModel", "turnTo", "(I)V"⟩, 12), (⟨"PuzzleBookModel", "nameOf", "(I)I"⟩, 12), (⟨"PuzzleBookModel", "rootIsRight", "(I)Z"⟩, 12)]
theorem lw_r2 : ∀ q ∈ lw_privs_2, lw_okq q := List.forall_mem_cons.mpr ⟨lw_p16, List.forall_mem_cons.mpr ⟨lw_p17, List.forall_mem_cons.mpr ⟨lw_p18, List.forall_mem_cons.mpr ⟨lw_p19, List.forall_mem_cons.mpr ⟨lw_p20, List.forall_mem_cons.mpr ⟨lw_p21, List.forall_mem_cons.mpr ⟨lw_p22, List.forall_mem_cons.mpr ⟨lw_p23, List.forall_mem_cons.mpr ⟨lw_p24, List.forall_mem_cons.mpr ⟨lw_p25, List.forall_mem_cons.mpr ⟨lw_p26, List.forall_mem_cons.mpr ⟨lw_p27, List.forall_mem_cons.mpr ⟨lw_p28, List.forall_mem_cons.mpr ⟨lw_p29, List.forall_mem_cons.mpr ⟨lw_p30, List.forall_mem_cons.mpr ⟨lw_p31, fun _ h => absurd h List.not_mem_nil⟩⟩⟩⟩⟩⟩⟩⟩⟩⟩⟩⟩⟩⟩⟩⟩
theorem lw_p32 : lw_okq (⟨"PuzzleBookModel", "isRight", "(I)Z"⟩, 12) := ⟨⟨by decide +kernel, by decide +kernel⟩, List.mem_of_getElem? (i := 321) (by decide +kernel), List.mem_of_getElem? (i := 446) (by decide +kernel), List.mem_of_getElem? (i := 447) (by decide +kernel)⟩
theorem lw_p33 : lw_okq (⟨"PuzzleBookModel", "entryIsRight", "(I)Z"⟩, 12) := ⟨⟨by decide +kernel, by decide +kernel⟩, List.mem_of_getElem? (i := 321) (by decide +kernel), List.mem_of_getElem? (i := 450) (by decide +kernel), List.mem_of_getElem? (i := 451) (by decide +kernel)⟩
theorem lw_p34 : lw_okq (⟨"PuzzleBookModel", "isByte", "(II)Z"⟩, 12) := ⟨⟨by decide +kernel, by decide +kernel⟩, List.mem_of_getElem? (i := 321) (by decide +kernel), List.mem_of_getElem? (i := 458) (by decide +kernel), List.mem_of_getElem? (i := 459) (by decide +kernel)⟩
def lw_privs_3 : List (MethodName × Nat) := [(⟨"PuzzleBookModel", "isRight", "(I)Z"⟩, 12), (⟨"PuzzleBookModel", "entryIsRight", "(I)Z"⟩, 12), (⟨"PuzzleBookModel", "isByte", "(II)Z"⟩, 12)]
theorem lw_r3 : ∀ q ∈ lw_privs_3, lw_okq q := List.forall_mem_cons.mpr ⟨lw_p32, List.forall_mem_cons.mpr ⟨lw_p33, List.forall_mem_cons.mpr ⟨lw_p34, fun _ h => absurd h List.not_mem_nil⟩⟩⟩
def lw_privs : List (MethodName × Nat) := lw_privs_1 ++ (lw_privs_2 ++ (lw_privs_3))
def lw_tbl : List Cond := k2_sels lw_privs ++ tables_1
theorem lw_privs_ok : ∀ q ∈ lw_privs, lw_okq q := by
  show ∀ q ∈ lw_privs_1 ++ (lw_privs_2 ++ (lw_privs_3)), lw_okq q
  exact List.forall_mem_append.mpr ⟨lw_r1, List.forall_mem_append.mpr ⟨lw_r2, lw_r3⟩⟩
-- ===== end of PART A; then your names; then what follows =====
end
section
/-! ===== BEGIN words of one list among another's, by their places ===== -/
theorem goodIn_r {big : List Cond} (ws : List Cond) (ps : List Nat) (hp : ws = ps.filterMap (fun i => big[i]?)) (h : ws.all goodWord = true) : GoodIn big ws := by
  intro w hw
  have h1 := List.all_eq_true.mp h w hw
  rw [hp] at hw
  obtain ⟨i, -, hi⟩ := List.mem_filterMap.mp hw
  have hm : w ∈ big := by first | exact List.mem_of_getElem? hi | exact List.getElem?_mem hi
  exact ⟨hm, good_of_word h1⟩
theorem goodIn_app {big a b : List Cond} (ha : GoodIn big a) (hb : GoodIn big b) : GoodIn big (a ++ b) := fun w h => (List.mem_append.mp h).elim (ha w) (hb w)
theorem goodIn_ca {big a b : List Cond} {c : Cond} (ha : GoodIn big (c :: a)) (hb : GoodIn big b) : GoodIn big (c :: (a ++ b)) := fun w h => (List.mem_cons.mp h).elim (fun e => ha w (List.mem_cons.mpr (Or.inl e))) (fun h => (List.mem_append.mp h).elim (fun h => ha w (List.mem_cons.mpr (Or.inr h))) (hb w))
theorem goodIn_sub {big ws : List Cond} (hm : ∀ w ∈ ws, w ∈ big) (h : ws.all goodWord = true) : GoodIn big ws := fun w hw => ⟨hm w hw, good_of_word (List.all_eq_true.mp h w hw)⟩
/-! ===== END ===== -/

/-! ===== BEGIN printed: names, fields, word lists, decode rows ===== -/
def RX0 : String := "PuzzleBook$Store"
def TX0 : u_T := fun k => match k with
  | 0 => ("PuzzleBook$Store", "blocks", "I", true)
  | 1 => ("PuzzleBook$Store", "bytes", "[B", true)
  | 2 => ("PuzzleBook$Store", "changedPlaces", "[I", true)
  | 3 => ("PuzzleBook$Store", "formerBytes", "[B", true)
  | _ => ("PuzzleBook$Store", "changed", "I", false)
def tyX0 : Nat → FieldType := fun k => match k with
  | 0 => .int
  | 1 => .array .byte
  | 2 => .array .int
  | 3 => .array .byte
  | _ => .int
abbrev wsX00 : List Cond := u_ws RX0 TX0 5
theorem nmX0 : ∀ a, a < 5 → ∀ b, b < 5 → a ≠ b → (TX0 a).2.1 ≠ (TX0 b).2.1 := by decide +kernel
theorem tyX0_ok : ∀ k, k < 5 → parseFieldDescriptor (TX0 k).2.2.1 = some (tyX0 k) := by decide +kernel
abbrev cX0_init : ByteArray := prog_2_method_1_code
def yX0_init : MethodName := ⟨RX0, "<init>", "(I)V"⟩
abbrev cX0_blockCount : ByteArray := prog_2_method_2_code
def yX0_blockCount : MethodName := ⟨RX0, "blockCount", "()I"⟩
abbrev cX0_has : ByteArray := prog_2_method_3_code
def yX0_has : MethodName := ⟨RX0, "has", "(II)Z"⟩
abbrev cX0_read : ByteArray := prog_2_method_4_code
def yX0_read : MethodName := ⟨RX0, "read", "(II)I"⟩
abbrev cX0_alter : ByteArray := prog_2_method_5_code
def yX0_alter : MethodName := ⟨RX0, "alter", "(III)V"⟩
abbrev cX0_beginChange : ByteArray := prog_2_method_6_code
def yX0_beginChange : MethodName := ⟨RX0, "beginChange", "()V"⟩
abbrev cX0_writtenBytes : ByteArray := prog_2_method_7_code
def yX0_writtenBytes : MethodName := ⟨RX0, "writtenBytes", "()I"⟩
abbrev cX0_write : ByteArray := prog_2_method_8_code
def yX0_write : MethodName := ⟨RX0, "write", "(III)V"⟩
abbrev cX0_undoAllBut : ByteArray := prog_2_method_9_code
def yX0_undoAllBut : MethodName := ⟨RX0, "undoAllBut", "(I)V"⟩
abbrev cX0_writeSum : ByteArray := prog_2_method_10_code
def yX0_writeSum : MethodName := ⟨RX0, "writeSum", "(I)V"⟩
abbrev cX0_hasRightSum : ByteArray := prog_2_method_11_code
def yX0_hasRightSum : MethodName := ⟨RX0, "hasRightSum", "(I)Z"⟩
abbrev cX0_sumOf : ByteArray := prog_2_method_12_code
def yX0_sumOf : MethodName := ⟨RX0, "sumOf", "(I)I"⟩
def RX1 : String := "PuzzleBook"
def TX1 : u_T := fun k => match k with
  | 0 => ("PuzzleBook", "store", "LPuzzleBook$Store;", true)
  | 1 => ("PuzzleBook", "fedBytes", "[I", true)
  | 2 => ("PuzzleBook", "fedCount", "I", false)
  | 3 => ("PuzzleBook", "isOpen", "Z", false)
  | 4 => ("PuzzleBook", "turn", "I", false)
  | 5 => ("PuzzleBook", "entryBlocks", "[I", true)
  | _ => ("PuzzleBook", "entryCount", "I", false)
def tyX1 : Nat → FieldType := fun k => match k with
  | 0 => .object "PuzzleBook$Store"
  | 1 => .array .int
  | 2 => .int
  | 3 => .boolean
  | 4 => .int
  | 5 => .array .int
  | _ => .int
abbrev wsX10 : List Cond := u_ws RX1 TX1 7
theorem nmX1 : ∀ a, a < 7 → ∀ b, b < 7 → a ≠ b → (TX1 a).2.1 ≠ (TX1 b).2.1 := by decide +kernel
theorem tyX1_ok : ∀ k, k < 7 → parseFieldDescriptor (TX1 k).2.2.1 = some (tyX1 k) := by decide +kernel
abbrev cX1_init : ByteArray := prog_1_method_1_code
def yX1_init : MethodName := ⟨RX1, "<init>", "(I)V"⟩
abbrev cX1_feed : ByteArray := prog_1_method_2_code
def yX1_feed : MethodName := ⟨RX1, "feed", "(I)Z"⟩
abbrev cX1_put : ByteArray := prog_1_method_3_code
def yX1_put : MethodName := ⟨RX1, "put", "(I)I"⟩
abbrev cX1_find : ByteArray := prog_1_method_4_code
def yX1_find : MethodName := ⟨RX1, "find", "(II)I"⟩
abbrev cX1_entry : ByteArray := prog_1_method_5_code
def yX1_entry : MethodName := ⟨RX1, "entry", "(II)I"⟩
abbrev cX1_drop : ByteArray := prog_1_method_6_code
def yX1_drop : MethodName := ⟨RX1, "drop", "(I)Z"⟩
abbrev cX1_crash : ByteArray := prog_1_method_7_code
def yX1_crash : MethodName := ⟨RX1, "crash", "(I)Z"⟩
abbrev cX1_reopen : ByteArray := prog_1_method_8_code
def yX1_reopen : MethodName := ⟨RX1, "reopen", "()I"⟩
abbrev cX1_poke : ByteArray := prog_1_method_9_code
def yX1_poke : MethodName := ⟨RX1, "poke", "(III)Z"⟩
abbrev cX1_badAt : ByteArray := prog_1_method_10_code
def yX1_badAt : MethodName := ⟨RX1, "badAt", "()I"⟩
abbrev cX1_byteAt : ByteArray := prog_1_method_11_code
def yX1_byteAt : MethodName := ⟨RX1, "byteAt", "(II)I"⟩
abbrev cX1_free : ByteArray := prog_1_method_12_code
def yX1_free : MethodName := ⟨RX1, "free", "()I"⟩
abbrev cX1_root : ByteArray := prog_1_method_13_code
def yX1_root : MethodName := ⟨RX1, "root", "()I"⟩
abbrev cX1_isEntry : ByteArray := prog_1_method_14_code
def yX1_isEntry : MethodName := ⟨RX1, "isEntry", "(I)Z"⟩
abbrev cX1_blockOf : ByteArray := prog_1_method_15_code
def yX1_blockOf : MethodName := ⟨RX1, "blockOf", "(I)I"⟩
abbrev cX1_nameOf : ByteArray := prog_1_method_16_code
def yX1_nameOf : MethodName := ⟨RX1, "nameOf", "(I)I"⟩
abbrev cX1_lengthOf : ByteArray := prog_1_method_17_code
def yX1_lengthOf : MethodName := ⟨RX1, "lengthOf", "(I)I"⟩
abbrev cX1_rowByte : ByteArray := prog_1_method_18_code
def yX1_rowByte : MethodName := ⟨RX1, "rowByte", "(II)I"⟩
abbrev cX1_fedByte : ByteArray := prog_1_method_19_code
def yX1_fedByte : MethodName := ⟨RX1, "fedByte", "(I)I"⟩
abbrev cX1_firstEntryWithFedRow : ByteArray := prog_1_method_20_code
def yX1_firstEntryWithFedRow : MethodName := ⟨RX1, "firstEntryWithFedRow", "()I"⟩
abbrev cX1_hasFedRow : ByteArray := prog_1_method_21_code
def yX1_hasFedRow : MethodName := ⟨RX1, "hasFedRow", "(I)Z"⟩
abbrev cX1_leastFreeBlock : ByteArray := prog_1_method_22_code
def yX1_leastFreeBlock : MethodName := ⟨RX1, "leastFreeBlock", "()I"⟩
abbrev cX1_isTaken : ByteArray := prog_1_method_23_code
def yX1_isTaken : MethodName := ⟨RX1, "isTaken", "(I)Z"⟩
abbrev cX1_addEntryBlock : ByteArray := prog_1_method_24_code
def yX1_addEntryBlock : MethodName := ⟨RX1, "addEntryBlock", "(I)V"⟩
abbrev cX1_removeEntryBlock : ByteArray := prog_1_method_25_code
def yX1_removeEntryBlock : MethodName := ⟨RX1, "removeEntryBlock", "(I)V"⟩
abbrev cX1_writeEntryBlock : ByteArray := prog_1_method_26_code
def yX1_writeEntryBlock : MethodName := ⟨RX1, "writeEntryBlock", "(II)V"⟩
abbrev cX1_writeRootBlock : ByteArray := prog_1_method_27_code
def yX1_writeRootBlock : MethodName := ⟨RX1, "writeRootBlock", "(I)V"⟩
abbrev cX1_writeOtherRootAndTurn : ByteArray := prog_1_method_28_code
def yX1_writeOtherRootAndTurn : MethodName := ⟨RX1, "writeOtherRootAndTurn", "()V"⟩
abbrev cX1_readFromStore : ByteArray := prog_1_method_29_code
def yX1_readFromStore : MethodName := ⟨RX1, "readFromStore", "()I"⟩
abbrev cX1_readRootBlock : ByteArray := prog_1_method_30_code
def yX1_readRootBlock : MethodName := ⟨RX1, "readRootBlock", "(I)Z"⟩
abbrev cX1_leastWrongEntryBlock : ByteArray := prog_1_method_31_code
def yX1_leastWrongEntryBlock : MethodName := ⟨RX1, "leastWrongEntryBlock", "()I"⟩
abbrev cX1_lesserBlock : ByteArray := prog_1_method_32_code
def yX1_lesserBlock : MethodName := ⟨RX1, "lesserBlock", "(II)I"⟩
def RX2 : String := "PuzzleBookModel"
def TX2 : u_T := fun k => match k with
  | 0 => ("PuzzleBookModel", "blocks", "I", true)
  | 1 => ("PuzzleBookModel", "store", "[I", true)
  | 2 => ("PuzzleBookModel", "open", "Z", false)
  | 3 => ("PuzzleBookModel", "turn", "I", false)
  | 4 => ("PuzzleBookModel", "entries", "I", false)
  | 5 => ("PuzzleBookModel", "thrown", "I", false)
  | 6 => ("PuzzleBookModel", "block", "[I", true)
  | 7 => ("PuzzleBookModel", "fed", "[I", true)
  | 8 => ("PuzzleBookModel", "fedLong", "I", false)
  | 9 => ("PuzzleBookModel", "where", "[I", true)
  | 10 => ("PuzzleBookModel", "before", "[I", true)
  | _ => ("PuzzleBookModel", "written", "I", false)
def tyX2 : Nat → FieldType := fun k => match k with
  | 0 => .int
  | 1 => .array .int
  | 2 => .boolean
  | 3 => .int
  | 4 => .int
  | 5 => .int
  | 6 => .array .int
  | 7 => .array .int
  | 8 => .int
  | 9 => .array .int
  | 10 => .array .int
  | _ => .int
abbrev wsX20 : List Cond := u_ws RX2 TX2 12
theorem nmX2 : ∀ a, a < 12 → ∀ b, b < 12 → a ≠ b → (TX2 a).2.1 ≠ (TX2 b).2.1 := by decide +kernel
theorem tyX2_ok : ∀ k, k < 12 → parseFieldDescriptor (TX2 k).2.2.1 = some (tyX2 k) := by decide +kernel
abbrev cX2_init : ByteArray := prog_4_method_1_code
def yX2_init : MethodName := ⟨RX2, "<init>", "(I)V"⟩
abbrev cX2_thrown : ByteArray := prog_4_method_2_code
def yX2_thrown : MethodName := ⟨RX2, "thrown", "()I"⟩
abbrev cX2_sumOf : ByteArray := prog_4_method_3_code
def yX2_sumOf : MethodName := ⟨RX2, "sumOf", "(I)I"⟩
abbrev cX2_isRight : ByteArray := prog_4_method_4_code
def yX2_isRight : MethodName := ⟨RX2, "isRight", "(I)Z"⟩
abbrev cX2_write : ByteArray := prog_4_method_5_code
def yX2_write : MethodName := ⟨RX2, "write", "(II)V"⟩
abbrev cX2_writeSum : ByteArray := prog_4_method_6_code
def yX2_writeSum : MethodName := ⟨RX2, "writeSum", "(I)V"⟩
abbrev cX2_writeRoot : ByteArray := prog_4_method_7_code
def yX2_writeRoot : MethodName := ⟨RX2, "writeRoot", "(II)V"⟩
abbrev cX2_writeEntry : ByteArray := prog_4_method_8_code
def yX2_writeEntry : MethodName := ⟨RX2, "writeEntry", "(II)V"⟩
abbrev cX2_turnTo : ByteArray := prog_4_method_9_code
def yX2_turnTo : MethodName := ⟨RX2, "turnTo", "(I)V"⟩
abbrev cX2_isUsed : ByteArray := prog_4_method_10_code
def yX2_isUsed : MethodName := ⟨RX2, "isUsed", "(I)Z"⟩
abbrev cX2_leastFree : ByteArray := prog_4_method_11_code
def yX2_leastFree : MethodName := ⟨RX2, "leastFree", "()I"⟩
abbrev cX2_nameOf : ByteArray := prog_4_method_12_code
def yX2_nameOf : MethodName := ⟨RX2, "nameOf", "(I)I"⟩
abbrev cX2_longOf : ByteArray := prog_4_method_13_code
def yX2_longOf : MethodName := ⟨RX2, "longOf", "(I)I"⟩
abbrev cX2_hasFed : ByteArray := prog_4_method_14_code
def yX2_hasFed : MethodName := ⟨RX2, "hasFed", "(I)Z"⟩
abbrev cX2_feed : ByteArray := prog_4_method_15_code
def yX2_feed : MethodName := ⟨RX2, "feed", "(I)Z"⟩
abbrev cX2_put : ByteArray := prog_4_method_16_code
def yX2_put : MethodName := ⟨RX2, "put", "(I)I"⟩
abbrev cX2_drop : ByteArray := prog_4_method_17_code
def yX2_drop : MethodName := ⟨RX2, "drop", "(I)Z"⟩
abbrev cX2_find : ByteArray := prog_4_method_18_code
def yX2_find : MethodName := ⟨RX2, "find", "(II)I"⟩
abbrev cX2_entry : ByteArray := prog_4_method_19_code
def yX2_entry : MethodName := ⟨RX2, "entry", "(II)I"⟩
abbrev cX2_crash : ByteArray := prog_4_method_20_code
def yX2_crash : MethodName := ⟨RX2, "crash", "(I)Z"⟩
abbrev cX2_rootIsRight : ByteArray := prog_4_method_21_code
def yX2_rootIsRight : MethodName := ⟨RX2, "rootIsRight", "(I)Z"⟩
abbrev cX2_entryIsRight : ByteArray := prog_4_method_22_code
def yX2_entryIsRight : MethodName := ⟨RX2, "entryIsRight", "(I)Z"⟩
abbrev cX2_reopen : ByteArray := prog_4_method_23_code
def yX2_reopen : MethodName := ⟨RX2, "reopen", "()I"⟩
abbrev cX2_isByte : ByteArray := prog_4_method_24_code
def yX2_isByte : MethodName := ⟨RX2, "isByte", "(II)Z"⟩
abbrev cX2_poke : ByteArray := prog_4_method_25_code
def yX2_poke : MethodName := ⟨RX2, "poke", "(III)Z"⟩
abbrev cX2_badAt : ByteArray := prog_4_method_26_code
def yX2_badAt : MethodName := ⟨RX2, "badAt", "()I"⟩
abbrev cX2_byteAt : ByteArray := prog_4_method_27_code
def yX2_byteAt : MethodName := ⟨RX2, "byteAt", "(II)I"⟩
abbrev cX2_free : ByteArray := prog_4_method_28_code
def yX2_free : MethodName := ⟨RX2, "free", "()I"⟩
abbrev cX2_root : ByteArray := prog_4_method_29_code
def yX2_root : MethodName := ⟨RX2, "root", "()I"⟩
def RJx00060 : String := "java/lang/ArrayIndexOutOfBoundsException"
def TJx00060 : u_T := fun k => match k with
  | 0 => ("java/lang/Throwable", "cause", "Ljava/lang/Throwable;", false)
  | 1 => ("java/lang/Throwable", "stackTrace", "[Ljava/lang/StackTraceElement;", false)
  | 2 => ("java/lang/Throwable", "suppressedExceptions", "Ljava/util/List;", false)
  | 3 => ("java/lang/Throwable", "detailMessage", "Ljava/lang/String;", false)
  | 4 => ("java/lang/Throwable", "backtrace", "Ljava/lang/Object;", false)
  | _ => ("java/lang/Throwable", "depth", "I", false)
def tyJx00060 : Nat → FieldType := fun k => match k with
  | 0 => .object "java/lang/Throwable"
  | 1 => .array (.object "java/lang/StackTraceElement")
  | 2 => .object "java/util/List"
  | 3 => .object "java/lang/String"
  | 4 => .object "java/lang/Object"
  | _ => .int
abbrev wsJx000600 : List Cond := u_ws RJx00060 TJx00060 6
theorem nmJx00060 : ∀ a, a < 6 → ∀ b, b < 6 → a ≠ b → (TJx00060 a).2.1 ≠ (TJx00060 b).2.1 := by decide +kernel
theorem tyJx00060_ok : ∀ k, k < 6 → parseFieldDescriptor (TJx00060 k).2.2.1 = some (tyJx00060 k) := by decide +kernel
abbrev cJx00060_init_a7421 : ByteArray := prog_5_method_2_code
def yJx00060_init_a7421 : MethodName := ⟨RJx00060, "<init>", "(Ljava/lang/String;)V"⟩
def RJ9 : String := "java/lang/Math"
def TJ9 : u_T := fun k => match k with
  | _ => ("", "", "", false)
def tyJ9 : Nat → FieldType := fun k => match k with
  | _ => .int
abbrev wsJ90 : List Cond := u_ws RJ9 TJ9 0
theorem nmJ9 : ∀ a, a < 0 → ∀ b, b < 0 → a ≠ b → (TJ9 a).2.1 ≠ (TJ9 b).2.1 := by decide +kernel
theorem tyJ9_ok : ∀ k, k < 0 → parseFieldDescriptor (TJ9 k).2.2.1 = some (tyJ9 k) := by decide +kernel
abbrev cJ9_max_7cf53 : ByteArray := prog_8_method_65_code
def yJ9_max_7cf53 : MethodName := ⟨RJ9, "max", "(II)I"⟩
abbrev cJ9_min_7cf53 : ByteArray := prog_8_method_69_code
def yJ9_min_7cf53 : MethodName := ⟨RJ9, "min", "(II)I"⟩
def RJ0 : String := "java/lang/String"
def TJ0 : u_T := fun k => match k with
  | _ => ("", "", "", false)
def tyJ0 : Nat → FieldType := fun k => match k with
  | _ => .int
abbrev wsJ00 : List Cond := u_ws RJ0 TJ0 0
theorem nmJ0 : ∀ a, a < 0 → ∀ b, b < 0 → a ≠ b → (TJ0 a).2.1 ≠ (TJ0 b).2.1 := by decide +kernel
theorem tyJ0_ok : ∀ k, k < 0 → parseFieldDescriptor (TJ0 k).2.2.1 = some (tyJ0 k) := by decide +kernel
def RL : String := "PuzzleBookLaw"
abbrev cL_cell : ByteArray := method_2_code
def yL_cell : MethodName := ⟨RL, "cell", "([II)I"⟩
abbrev cL_byteAt : ByteArray := method_3_code
def yL_byteAt : MethodName := ⟨RL, "byteAt", "(LPuzzleBook;II[J)I"⟩
abbrev cL_law : ByteArray := code
def yL_law : MethodName := ⟨RL, "law", "([I)Z"⟩
def wsX0_init : List Cond := .code yX0_init cX0_init 2 none :: ([.methodLink RX0 3 objectInit, .instanceMethod objectInit, .code objectInit ⟨#[0xb1]⟩ 1 none, .arrayClass .int, .fieldLink RX0 9 "PuzzleBook$Store" "changedPlaces" "[I", .arrayClass .byte, .fieldLink RX0 15 "PuzzleBook$Store" "formerBytes" "[B", .fieldLink RX0 19 "PuzzleBook$Store" "changed" "I", .methodLink RX0 23 Lib.Math.min.name, .static Lib.Math.min.name, .initialized "java/lang/Math", .code Lib.Math.min.name Lib.Math.min.code 2 (some .int), .methodLink RX0 29 Lib.Math.max.name, .static Lib.Math.max.name, .code Lib.Math.max.name Lib.Math.max.code 2 (some .int), .fieldLink RX0 32 "PuzzleBook$Store" "blocks" "I", .fieldLink RX0 35 "PuzzleBook$Store" "bytes" "[B"] ++ wsX00)
def wsX0_blockCount : List Cond := .code yX0_blockCount cX0_blockCount 1 (some .int) :: ([.fieldLink RX0 32 "PuzzleBook$Store" "blocks" "I"] ++ wsX00)
def wsX0_has : List Cond := .code yX0_has cX0_has 3 (some .boolean) :: ([.fieldLink RX0 32 "PuzzleBook$Store" "blocks" "I"] ++ wsX00)
def wsX0_read : List Cond := .code yX0_read cX0_read 3 (some .int) :: ([.fieldLink RX0 35 "PuzzleBook$Store" "bytes" "[B", .methodLink RX0 38 yX0_has, .instanceMethod yX0_has, .selects RX0 yX0_has yX0_has, .initialized RX0, .code yX0_has cX0_has 3 (some .boolean), .fieldLink RX0 32 "PuzzleBook$Store" "blocks" "I"] ++ wsX00)
def wsX0_alter : List Cond := .code yX0_alter cX0_alter 5 none :: ([.fieldLink RX0 35 "PuzzleBook$Store" "bytes" "[B", .methodLink RX0 38 yX0_has, .instanceMethod yX0_has, .selects RX0 yX0_has yX0_has, .initialized RX0, .code yX0_has cX0_has 3 (some .boolean), .fieldLink RX0 32 "PuzzleBook$Store" "blocks" "I"] ++ wsX00)
def wsX0_beginChange : List Cond := .code yX0_beginChange cX0_beginChange 1 none :: ([.fieldLink RX0 19 "PuzzleBook$Store" "changed" "I"] ++ wsX00)
def wsX0_writtenBytes : List Cond := .code yX0_writtenBytes cX0_writtenBytes 1 (some .int) :: ([.fieldLink RX0 19 "PuzzleBook$Store" "changed" "I"] ++ wsX00)
def wsX0_write : List Cond := .code yX0_write cX0_write 5 none :: ([.fieldLink RX0 19 "PuzzleBook$Store" "changed" "I", .fieldLink RX0 9 "PuzzleBook$Store" "changedPlaces" "[I", .fieldLink RX0 15 "PuzzleBook$Store" "formerBytes" "[B", .fieldLink RX0 35 "PuzzleBook$Store" "bytes" "[B", .methodLink RX0 38 yX0_has, .instanceMethod yX0_has, .selects RX0 yX0_has yX0_has, .initialized RX0, .code yX0_has cX0_has 3 (some .boolean), .fieldLink RX0 32 "PuzzleBook$Store" "blocks" "I"] ++ wsX00)
def wsX0_undoAllBut : List Cond := .code yX0_undoAllBut cX0_undoAllBut 4 none :: ([.methodLink RX0 29 Lib.Math.max.name, .static Lib.Math.max.name, .initialized "java/lang/Math", .code Lib.Math.max.name Lib.Math.max.code 2 (some .int), .fieldLink RX0 19 "PuzzleBook$Store" "changed" "I", .fieldLink RX0 9 "PuzzleBook$Store" "changedPlaces" "[I", .fieldLink RX0 35 "PuzzleBook$Store" "bytes" "[B", .fieldLink RX0 15 "PuzzleBook$Store" "formerBytes" "[B"] ++ wsX00)
def wsX0_sumOf : List Cond := .code yX0_sumOf cX0_sumOf 5 (some .int) :: ([.constant RX0 53 (-2048144789), .methodLink RX0 50 yX0_read, .instanceMethod yX0_read, .selects RX0 yX0_read yX0_read, .initialized RX0, .code yX0_read cX0_read 3 (some .int), .fieldLink RX0 35 "PuzzleBook$Store" "bytes" "[B", .methodLink RX0 38 yX0_has, .instanceMethod yX0_has, .selects RX0 yX0_has yX0_has, .code yX0_has cX0_has 3 (some .boolean), .fieldLink RX0 32 "PuzzleBook$Store" "blocks" "I"] ++ wsX00)
def wsX0_writeSum : List Cond := .code yX0_writeSum cX0_writeSum 4 none :: ([.methodLink RX0 42 yX0_sumOf, .instanceMethod yX0_sumOf, .selects RX0 yX0_sumOf yX0_sumOf, .initialized RX0, .code yX0_sumOf cX0_sumOf 5 (some .int), .constant RX0 53 (-2048144789), .methodLink RX0 50 yX0_read, .instanceMethod yX0_read, .selects RX0 yX0_read yX0_read, .code yX0_read cX0_read 3 (some .int), .fieldLink RX0 35 "PuzzleBook$Store" "bytes" "[B", .methodLink RX0 38 yX0_has, .instanceMethod yX0_has, .selects RX0 yX0_has yX0_has, .code yX0_has cX0_has 3 (some .boolean), .fieldLink RX0 32 "PuzzleBook$Store" "blocks" "I", .methodLink RX0 46 yX0_write, .instanceMethod yX0_write, .selects RX0 yX0_write yX0_write, .code yX0_write cX0_write 5 none, .fieldLink RX0 19 "PuzzleBook$Store" "changed" "I", .fieldLink RX0 9 "PuzzleBook$Store" "changedPlaces" "[I", .fieldLink RX0 15 "PuzzleBook$Store" "formerBytes" "[B"] ++ wsX00)
def wsX0_hasRightSum : List Cond := .code yX0_hasRightSum cX0_hasRightSum 4 (some .boolean) :: ([.methodLink RX0 42 yX0_sumOf, .instanceMethod yX0_sumOf, .selects RX0 yX0_sumOf yX0_sumOf, .initialized RX0, .code yX0_sumOf cX0_sumOf 5 (some .int), .constant RX0 53 (-2048144789), .methodLink RX0 50 yX0_read, .instanceMethod yX0_read, .selects RX0 yX0_read yX0_read, .code yX0_read cX0_read 3 (some .int), .fieldLink RX0 35 "PuzzleBook$Store" "bytes" "[B", .methodLink RX0 38 yX0_has, .instanceMethod yX0_has, .selects RX0 yX0_has yX0_has, .code yX0_has cX0_has 3 (some .boolean), .fieldLink RX0 32 "PuzzleBook$Store" "blocks" "I"] ++ wsX00)
def wsX1_blockOf : List Cond := .code yX1_blockOf cX1_blockOf 2 (some .int) :: ([.fieldLink RX1 20 "PuzzleBook" "entryCount" "I", .fieldLink RX1 17 "PuzzleBook" "entryBlocks" "[I"] ++ wsX10)
def wsX1_writeRootBlock_r1 : List Cond := [Cond.fieldLink RX1 28 "PuzzleBook" "store" "LPuzzleBook$Store;", Cond.fieldLink RX1 20 "PuzzleBook" "entryCount" "I", Cond.methodLink RX1 38 yX0_write, Cond.instanceMethod yX0_write, Cond.selects RX0 yX0_write yX0_write, Cond.initialized RX0, Cond.code yX0_write cX0_write 5 none, Cond.fieldLink RX0 19 "PuzzleBook$Store" "changed" "I", Cond.fieldLink RX0 9 "PuzzleBook$Store" "changedPlaces" "[I", Cond.fieldLink RX0 15 "PuzzleBook$Store" "formerBytes" "[B", Cond.fieldLink RX0 35 "PuzzleBook$Store" "bytes" "[B", Cond.methodLink RX0 38 yX0_has, Cond.instanceMethod yX0_has, Cond.selects RX0 yX0_has yX0_has, Cond.code yX0_has cX0_has 3 (some .boolean), Cond.fieldLink RX0 32 "PuzzleBook$Store" "blocks" "I", Cond.methodLink RX1 79 yX1_blockOf, Cond.instanceMethod yX1_blockOf, Cond.selects RX1 yX1_blockOf yX1_blockOf, Cond.initialized RX1, Cond.code yX1_blockOf cX1_blockOf 2 (some .int), Cond.fieldLink RX1 17 "PuzzleBook" "entryBlocks" "[I", Cond.methodLink RX1 137 yX0_writeSum, Cond.instanceMethod yX0_writeSum]
def wsX1_writeRootBlock_r2 : List Cond := [Cond.selects RX0 yX0_writeSum yX0_writeSum, Cond.code yX0_writeSum cX0_writeSum 4 none, Cond.methodLink RX0 42 yX0_sumOf, Cond.instanceMethod yX0_sumOf, Cond.selects RX0 yX0_sumOf yX0_sumOf, Cond.code yX0_sumOf cX0_sumOf 5 (some .int), Cond.constant RX0 53 (-2048144789), Cond.methodLink RX0 50 yX0_read, Cond.instanceMethod yX0_read, Cond.selects RX0 yX0_read yX0_read, Cond.code yX0_read cX0_read 3 (some .int), Cond.methodLink RX0 46 yX0_write]
def wsX1_writeRootBlock : List Cond := .code yX1_writeRootBlock cX1_writeRootBlock 3 none :: ((wsX1_writeRootBlock_r1 ++ wsX1_writeRootBlock_r2) ++ wsX10 ++ wsX00)
def wsX1_init_r1 : List Cond := [Cond.methodLink RX1 3 objectInit, Cond.instanceMethod objectInit, Cond.code objectInit ⟨#[0xb1]⟩ 1 none, Cond.arrayClass .int, Cond.fieldLink RX1 9 "PuzzleBook" "fedBytes" "[I", Cond.fieldLink RX1 13 "PuzzleBook" "fedCount" "I", Cond.fieldLink RX1 17 "PuzzleBook" "entryBlocks" "[I", Cond.fieldLink RX1 20 "PuzzleBook" "entryCount" "I", Cond.classLink RX1 23 RX0, Cond.instantiable RX0 5, Cond.initialized RX0, Cond.fieldLink RX1 28 "PuzzleBook" "store" "LPuzzleBook$Store;", Cond.fieldLink RX1 32 "PuzzleBook" "turn" "I", Cond.fieldLink RX1 45 "PuzzleBook" "isOpen" "Z", Cond.methodLink RX1 25 yX0_init, Cond.instanceMethod yX0_init, Cond.code yX0_init cX0_init 2 none, Cond.methodLink RX0 3 objectInit, Cond.fieldLink RX0 9 "PuzzleBook$Store" "changedPlaces" "[I", Cond.arrayClass .byte, Cond.fieldLink RX0 15 "PuzzleBook$Store" "formerBytes" "[B", Cond.fieldLink RX0 19 "PuzzleBook$Store" "changed" "I", Cond.methodLink RX0 23 Lib.Math.min.name, Cond.static Lib.Math.min.name]
def wsX1_init_r2 : List Cond := [Cond.initialized "java/lang/Math", Cond.code Lib.Math.min.name Lib.Math.min.code 2 (some .int), Cond.methodLink RX0 29 Lib.Math.max.name, Cond.static Lib.Math.max.name, Cond.code Lib.Math.max.name Lib.Math.max.code 2 (some .int), Cond.fieldLink RX0 32 "PuzzleBook$Store" "blocks" "I", Cond.fieldLink RX0 35 "PuzzleBook$Store" "bytes" "[B", Cond.methodLink RX1 35 yX1_writeRootBlock, Cond.instanceMethod yX1_writeRootBlock, Cond.selects RX1 yX1_writeRootBlock yX1_writeRootBlock, Cond.initialized RX1, Cond.code yX1_writeRootBlock cX1_writeRootBlock 3 none, Cond.methodLink RX1 38 yX0_write, Cond.instanceMethod yX0_write, Cond.selects RX0 yX0_write yX0_write, Cond.code yX0_write cX0_write 5 none, Cond.methodLink RX0 38 yX0_has, Cond.instanceMethod yX0_has, Cond.selects RX0 yX0_has yX0_has, Cond.code yX0_has cX0_has 3 (some .boolean), Cond.methodLink RX1 79 yX1_blockOf, Cond.instanceMethod yX1_blockOf, Cond.selects RX1 yX1_blockOf yX1_blockOf, Cond.code yX1_blockOf cX1_blockOf 2 (some .int)]
def wsX1_init_r3 : List Cond := [Cond.methodLink RX1 137 yX0_writeSum, Cond.instanceMethod yX0_writeSum, Cond.selects RX0 yX0_writeSum yX0_writeSum, Cond.code yX0_writeSum cX0_writeSum 4 none, Cond.methodLink RX0 42 yX0_sumOf, Cond.instanceMethod yX0_sumOf, Cond.selects RX0 yX0_sumOf yX0_sumOf, Cond.code yX0_sumOf cX0_sumOf 5 (some .int), Cond.constant RX0 53 (-2048144789), Cond.methodLink RX0 50 yX0_read, Cond.instanceMethod yX0_read, Cond.selects RX0 yX0_read yX0_read, Cond.code yX0_read cX0_read 3 (some .int), Cond.methodLink RX0 46 yX0_write, Cond.methodLink RX1 42 yX0_beginChange, Cond.instanceMethod yX0_beginChange, Cond.selects RX0 yX0_beginChange yX0_beginChange, Cond.code yX0_beginChange cX0_beginChange 1 none]
def wsX1_init : List Cond := .code yX1_init cX1_init 2 none :: ((wsX1_init_r1 ++ (wsX1_init_r2 ++ wsX1_init_r3)) ++ wsX10 ++ wsX00)
def wsX1_feed : List Cond := .code yX1_feed cX1_feed 2 (some .boolean) :: ([.fieldLink RX1 13 "PuzzleBook" "fedCount" "I", .fieldLink RX1 9 "PuzzleBook" "fedBytes" "[I"] ++ wsX10)
def wsX1_lengthOf : List Cond := .code yX1_lengthOf cX1_lengthOf 2 (some .int) :: ([.fieldLink RX1 28 "PuzzleBook" "store" "LPuzzleBook$Store;", .methodLink RX1 79 yX1_blockOf, .instanceMethod yX1_blockOf, .selects RX1 yX1_blockOf yX1_blockOf, .initialized RX1, .code yX1_blockOf cX1_blockOf 2 (some .int), .fieldLink RX1 20 "PuzzleBook" "entryCount" "I", .fieldLink RX1 17 "PuzzleBook" "entryBlocks" "[I", .methodLink RX1 117 yX0_read, .instanceMethod yX0_read, .selects RX0 yX0_read yX0_read, .initialized RX0, .code yX0_read cX0_read 3 (some .int), .fieldLink RX0 35 "PuzzleBook$Store" "bytes" "[B", .methodLink RX0 38 yX0_has, .instanceMethod yX0_has, .selects RX0 yX0_has yX0_has, .code yX0_has cX0_has 3 (some .boolean), .fieldLink RX0 32 "PuzzleBook$Store" "blocks" "I"] ++ wsX10 ++ wsX00)
def wsX1_rowByte_r1 : List Cond := [Cond.methodLink RX1 123 Lib.Math.min.name, Cond.static Lib.Math.min.name, Cond.initialized "java/lang/Math", Cond.code Lib.Math.min.name Lib.Math.min.code 2 (some .int), Cond.fieldLink RX1 28 "PuzzleBook" "store" "LPuzzleBook$Store;", Cond.methodLink RX1 82 yX1_lengthOf, Cond.instanceMethod yX1_lengthOf, Cond.selects RX1 yX1_lengthOf yX1_lengthOf, Cond.initialized RX1, Cond.code yX1_lengthOf cX1_lengthOf 2 (some .int), Cond.methodLink RX1 79 yX1_blockOf, Cond.instanceMethod yX1_blockOf, Cond.selects RX1 yX1_blockOf yX1_blockOf, Cond.code yX1_blockOf cX1_blockOf 2 (some .int), Cond.fieldLink RX1 20 "PuzzleBook" "entryCount" "I", Cond.fieldLink RX1 17 "PuzzleBook" "entryBlocks" "[I", Cond.methodLink RX1 117 yX0_read, Cond.instanceMethod yX0_read, Cond.selects RX0 yX0_read yX0_read, Cond.initialized RX0, Cond.code yX0_read cX0_read 3 (some .int), Cond.fieldLink RX0 35 "PuzzleBook$Store" "bytes" "[B", Cond.methodLink RX0 38 yX0_has, Cond.instanceMethod yX0_has]
def wsX1_rowByte_r2 : List Cond := [Cond.selects RX0 yX0_has yX0_has, Cond.code yX0_has cX0_has 3 (some .boolean), Cond.fieldLink RX0 32 "PuzzleBook$Store" "blocks" "I"]
def wsX1_rowByte : List Cond := .code yX1_rowByte cX1_rowByte 4 (some .int) :: ((wsX1_rowByte_r1 ++ wsX1_rowByte_r2) ++ wsX10 ++ wsX00)
def wsX1_fedByte : List Cond := .code yX1_fedByte cX1_fedByte 2 (some .int) :: ([.fieldLink RX1 13 "PuzzleBook" "fedCount" "I", .fieldLink RX1 9 "PuzzleBook" "fedBytes" "[I"] ++ wsX10)
def wsX1_hasFedRow_r1 : List Cond := [Cond.fieldLink RX1 13 "PuzzleBook" "fedCount" "I", Cond.methodLink RX1 82 yX1_lengthOf, Cond.instanceMethod yX1_lengthOf, Cond.selects RX1 yX1_lengthOf yX1_lengthOf, Cond.initialized RX1, Cond.code yX1_lengthOf cX1_lengthOf 2 (some .int), Cond.fieldLink RX1 28 "PuzzleBook" "store" "LPuzzleBook$Store;", Cond.methodLink RX1 79 yX1_blockOf, Cond.instanceMethod yX1_blockOf, Cond.selects RX1 yX1_blockOf yX1_blockOf, Cond.code yX1_blockOf cX1_blockOf 2 (some .int), Cond.fieldLink RX1 20 "PuzzleBook" "entryCount" "I", Cond.fieldLink RX1 17 "PuzzleBook" "entryBlocks" "[I", Cond.methodLink RX1 117 yX0_read, Cond.instanceMethod yX0_read, Cond.selects RX0 yX0_read yX0_read, Cond.initialized RX0, Cond.code yX0_read cX0_read 3 (some .int), Cond.fieldLink RX0 35 "PuzzleBook$Store" "bytes" "[B", Cond.methodLink RX0 38 yX0_has, Cond.instanceMethod yX0_has, Cond.selects RX0 yX0_has yX0_has, Cond.code yX0_has cX0_has 3 (some .boolean), Cond.fieldLink RX0 32 "PuzzleBook$Store" "blocks" "I"]
def wsX1_hasFedRow_r2 : List Cond := [Cond.methodLink RX1 71 yX1_rowByte, Cond.instanceMethod yX1_rowByte, Cond.selects RX1 yX1_rowByte yX1_rowByte, Cond.code yX1_rowByte cX1_rowByte 4 (some .int), Cond.methodLink RX1 123 Lib.Math.min.name, Cond.static Lib.Math.min.name, Cond.initialized "java/lang/Math", Cond.code Lib.Math.min.name Lib.Math.min.code 2 (some .int), Cond.methodLink RX1 131 yX1_fedByte, Cond.instanceMethod yX1_fedByte, Cond.selects RX1 yX1_fedByte yX1_fedByte, Cond.code yX1_fedByte cX1_fedByte 2 (some .int), Cond.fieldLink RX1 9 "PuzzleBook" "fedBytes" "[I"]
def wsX1_hasFedRow : List Cond := .code yX1_hasFedRow cX1_hasFedRow 3 (some .boolean) :: ((wsX1_hasFedRow_r1 ++ wsX1_hasFedRow_r2) ++ wsX10 ++ wsX00)
def wsX1_firstEntryWithFedRow_r1 : List Cond := [Cond.fieldLink RX1 20 "PuzzleBook" "entryCount" "I", Cond.methodLink RX1 128 yX1_hasFedRow, Cond.instanceMethod yX1_hasFedRow, Cond.selects RX1 yX1_hasFedRow yX1_hasFedRow, Cond.initialized RX1, Cond.code yX1_hasFedRow cX1_hasFedRow 3 (some .boolean), Cond.fieldLink RX1 13 "PuzzleBook" "fedCount" "I", Cond.methodLink RX1 82 yX1_lengthOf, Cond.instanceMethod yX1_lengthOf, Cond.selects RX1 yX1_lengthOf yX1_lengthOf, Cond.code yX1_lengthOf cX1_lengthOf 2 (some .int), Cond.fieldLink RX1 28 "PuzzleBook" "store" "LPuzzleBook$Store;", Cond.methodLink RX1 79 yX1_blockOf, Cond.instanceMethod yX1_blockOf, Cond.selects RX1 yX1_blockOf yX1_blockOf, Cond.code yX1_blockOf cX1_blockOf 2 (some .int), Cond.fieldLink RX1 17 "PuzzleBook" "entryBlocks" "[I", Cond.methodLink RX1 117 yX0_read, Cond.instanceMethod yX0_read, Cond.selects RX0 yX0_read yX0_read, Cond.initialized RX0, Cond.code yX0_read cX0_read 3 (some .int), Cond.fieldLink RX0 35 "PuzzleBook$Store" "bytes" "[B", Cond.methodLink RX0 38 yX0_has]
def wsX1_firstEntryWithFedRow_r2 : List Cond := [Cond.instanceMethod yX0_has, Cond.selects RX0 yX0_has yX0_has, Cond.code yX0_has cX0_has 3 (some .boolean), Cond.fieldLink RX0 32 "PuzzleBook$Store" "blocks" "I", Cond.methodLink RX1 71 yX1_rowByte, Cond.instanceMethod yX1_rowByte, Cond.selects RX1 yX1_rowByte yX1_rowByte, Cond.code yX1_rowByte cX1_rowByte 4 (some .int), Cond.methodLink RX1 123 Lib.Math.min.name, Cond.static Lib.Math.min.name, Cond.initialized "java/lang/Math", Cond.code Lib.Math.min.name Lib.Math.min.code 2 (some .int), Cond.methodLink RX1 131 yX1_fedByte, Cond.instanceMethod yX1_fedByte, Cond.selects RX1 yX1_fedByte yX1_fedByte, Cond.code yX1_fedByte cX1_fedByte 2 (some .int), Cond.fieldLink RX1 9 "PuzzleBook" "fedBytes" "[I"]
def wsX1_firstEntryWithFedRow : List Cond := .code yX1_firstEntryWithFedRow cX1_firstEntryWithFedRow 2 (some .int) :: ((wsX1_firstEntryWithFedRow_r1 ++ wsX1_firstEntryWithFedRow_r2) ++ wsX10 ++ wsX00)
def wsX1_isTaken : List Cond := .code yX1_isTaken cX1_isTaken 3 (some .boolean) :: ([.fieldLink RX1 20 "PuzzleBook" "entryCount" "I", .methodLink RX1 79 yX1_blockOf, .instanceMethod yX1_blockOf, .selects RX1 yX1_blockOf yX1_blockOf, .initialized RX1, .code yX1_blockOf cX1_blockOf 2 (some .int), .fieldLink RX1 17 "PuzzleBook" "entryBlocks" "[I"] ++ wsX10)
def wsX1_leastFreeBlock : List Cond := .code yX1_leastFreeBlock cX1_leastFreeBlock 2 (some .int) :: ([.fieldLink RX1 28 "PuzzleBook" "store" "LPuzzleBook$Store;", .methodLink RX1 120 yX0_blockCount, .instanceMethod yX0_blockCount, .selects RX0 yX0_blockCount yX0_blockCount, .initialized RX0, .code yX0_blockCount cX0_blockCount 1 (some .int), .fieldLink RX0 32 "PuzzleBook$Store" "blocks" "I", .methodLink RX1 134 yX1_isTaken, .instanceMethod yX1_isTaken, .selects RX1 yX1_isTaken yX1_isTaken, .initialized RX1, .code yX1_isTaken cX1_isTaken 3 (some .boolean), .fieldLink RX1 20 "PuzzleBook" "entryCount" "I", .methodLink RX1 79 yX1_blockOf, .instanceMethod yX1_blockOf, .selects RX1 yX1_blockOf yX1_blockOf, .code yX1_blockOf cX1_blockOf 2 (some .int), .fieldLink RX1 17 "PuzzleBook" "entryBlocks" "[I"] ++ wsX10 ++ wsX00)
def wsX1_writeEntryBlock_r1 : List Cond := [Cond.fieldLink RX1 28 "PuzzleBook" "store" "LPuzzleBook$Store;", Cond.fieldLink RX1 13 "PuzzleBook" "fedCount" "I", Cond.methodLink RX1 38 yX0_write, Cond.instanceMethod yX0_write, Cond.selects RX0 yX0_write yX0_write, Cond.initialized RX0, Cond.code yX0_write cX0_write 5 none, Cond.fieldLink RX0 19 "PuzzleBook$Store" "changed" "I", Cond.fieldLink RX0 9 "PuzzleBook$Store" "changedPlaces" "[I", Cond.fieldLink RX0 15 "PuzzleBook$Store" "formerBytes" "[B", Cond.fieldLink RX0 35 "PuzzleBook$Store" "bytes" "[B", Cond.methodLink RX0 38 yX0_has, Cond.instanceMethod yX0_has, Cond.selects RX0 yX0_has yX0_has, Cond.code yX0_has cX0_has 3 (some .boolean), Cond.fieldLink RX0 32 "PuzzleBook$Store" "blocks" "I", Cond.methodLink RX1 131 yX1_fedByte, Cond.instanceMethod yX1_fedByte, Cond.selects RX1 yX1_fedByte yX1_fedByte, Cond.initialized RX1, Cond.code yX1_fedByte cX1_fedByte 2 (some .int), Cond.fieldLink RX1 9 "PuzzleBook" "fedBytes" "[I", Cond.methodLink RX1 137 yX0_writeSum, Cond.instanceMethod yX0_writeSum]
def wsX1_writeEntryBlock_r2 : List Cond := [Cond.selects RX0 yX0_writeSum yX0_writeSum, Cond.code yX0_writeSum cX0_writeSum 4 none, Cond.methodLink RX0 42 yX0_sumOf, Cond.instanceMethod yX0_sumOf, Cond.selects RX0 yX0_sumOf yX0_sumOf, Cond.code yX0_sumOf cX0_sumOf 5 (some .int), Cond.constant RX0 53 (-2048144789), Cond.methodLink RX0 50 yX0_read, Cond.instanceMethod yX0_read, Cond.selects RX0 yX0_read yX0_read, Cond.code yX0_read cX0_read 3 (some .int), Cond.methodLink RX0 46 yX0_write]
def wsX1_writeEntryBlock : List Cond := .code yX1_writeEntryBlock cX1_writeEntryBlock 4 none :: ((wsX1_writeEntryBlock_r1 ++ wsX1_writeEntryBlock_r2) ++ wsX10 ++ wsX00)
def wsX1_addEntryBlock : List Cond := .code yX1_addEntryBlock cX1_addEntryBlock 2 none :: ([.fieldLink RX1 20 "PuzzleBook" "entryCount" "I", .fieldLink RX1 17 "PuzzleBook" "entryBlocks" "[I"] ++ wsX10)
def wsX1_writeOtherRootAndTurn_r1 : List Cond := [Cond.fieldLink RX1 32 "PuzzleBook" "turn" "I", Cond.fieldLink RX1 28 "PuzzleBook" "store" "LPuzzleBook$Store;", Cond.methodLink RX1 35 yX1_writeRootBlock, Cond.instanceMethod yX1_writeRootBlock, Cond.selects RX1 yX1_writeRootBlock yX1_writeRootBlock, Cond.initialized RX1, Cond.code yX1_writeRootBlock cX1_writeRootBlock 3 none, Cond.fieldLink RX1 20 "PuzzleBook" "entryCount" "I", Cond.methodLink RX1 38 yX0_write, Cond.instanceMethod yX0_write, Cond.selects RX0 yX0_write yX0_write, Cond.initialized RX0, Cond.code yX0_write cX0_write 5 none, Cond.fieldLink RX0 19 "PuzzleBook$Store" "changed" "I", Cond.fieldLink RX0 9 "PuzzleBook$Store" "changedPlaces" "[I", Cond.fieldLink RX0 15 "PuzzleBook$Store" "formerBytes" "[B", Cond.fieldLink RX0 35 "PuzzleBook$Store" "bytes" "[B", Cond.methodLink RX0 38 yX0_has, Cond.instanceMethod yX0_has, Cond.selects RX0 yX0_has yX0_has, Cond.code yX0_has cX0_has 3 (some .boolean), Cond.fieldLink RX0 32 "PuzzleBook$Store" "blocks" "I", Cond.methodLink RX1 79 yX1_blockOf, Cond.instanceMethod yX1_blockOf]
def wsX1_writeOtherRootAndTurn_r2 : List Cond := [Cond.selects RX1 yX1_blockOf yX1_blockOf, Cond.code yX1_blockOf cX1_blockOf 2 (some .int), Cond.fieldLink RX1 17 "PuzzleBook" "entryBlocks" "[I", Cond.methodLink RX1 137 yX0_writeSum, Cond.instanceMethod yX0_writeSum, Cond.selects RX0 yX0_writeSum yX0_writeSum, Cond.code yX0_writeSum cX0_writeSum 4 none, Cond.methodLink RX0 42 yX0_sumOf, Cond.instanceMethod yX0_sumOf, Cond.selects RX0 yX0_sumOf yX0_sumOf, Cond.code yX0_sumOf cX0_sumOf 5 (some .int), Cond.constant RX0 53 (-2048144789), Cond.methodLink RX0 50 yX0_read, Cond.instanceMethod yX0_read, Cond.selects RX0 yX0_read yX0_read, Cond.code yX0_read cX0_read 3 (some .int), Cond.methodLink RX0 46 yX0_write]
def wsX1_writeOtherRootAndTurn : List Cond := .code yX1_writeOtherRootAndTurn cX1_writeOtherRootAndTurn 2 none :: ((wsX1_writeOtherRootAndTurn_r1 ++ wsX1_writeOtherRootAndTurn_r2) ++ wsX10 ++ wsX00)
def wsX1_put_r1 : List Cond := [Cond.fieldLink RX1 45 "PuzzleBook" "isOpen" "Z", Cond.constant RX1 49 (65535), Cond.fieldLink RX1 13 "PuzzleBook" "fedCount" "I", Cond.fieldLink RX1 20 "PuzzleBook" "entryCount" "I", Cond.fieldLink RX1 28 "PuzzleBook" "store" "LPuzzleBook$Store;", Cond.methodLink RX1 50 yX1_firstEntryWithFedRow, Cond.instanceMethod yX1_firstEntryWithFedRow, Cond.selects RX1 yX1_firstEntryWithFedRow yX1_firstEntryWithFedRow, Cond.initialized RX1, Cond.code yX1_firstEntryWithFedRow cX1_firstEntryWithFedRow 2 (some .int), Cond.methodLink RX1 128 yX1_hasFedRow, Cond.instanceMethod yX1_hasFedRow, Cond.selects RX1 yX1_hasFedRow yX1_hasFedRow, Cond.code yX1_hasFedRow cX1_hasFedRow 3 (some .boolean), Cond.methodLink RX1 82 yX1_lengthOf, Cond.instanceMethod yX1_lengthOf, Cond.selects RX1 yX1_lengthOf yX1_lengthOf, Cond.code yX1_lengthOf cX1_lengthOf 2 (some .int), Cond.methodLink RX1 79 yX1_blockOf, Cond.instanceMethod yX1_blockOf, Cond.selects RX1 yX1_blockOf yX1_blockOf, Cond.code yX1_blockOf cX1_blockOf 2 (some .int), Cond.fieldLink RX1 17 "PuzzleBook" "entryBlocks" "[I", Cond.methodLink RX1 117 yX0_read]
def wsX1_put_r2 : List Cond := [Cond.instanceMethod yX0_read, Cond.selects RX0 yX0_read yX0_read, Cond.initialized RX0, Cond.code yX0_read cX0_read 3 (some .int), Cond.fieldLink RX0 35 "PuzzleBook$Store" "bytes" "[B", Cond.methodLink RX0 38 yX0_has, Cond.instanceMethod yX0_has, Cond.selects RX0 yX0_has yX0_has, Cond.code yX0_has cX0_has 3 (some .boolean), Cond.fieldLink RX0 32 "PuzzleBook$Store" "blocks" "I", Cond.methodLink RX1 71 yX1_rowByte, Cond.instanceMethod yX1_rowByte, Cond.selects RX1 yX1_rowByte yX1_rowByte, Cond.code yX1_rowByte cX1_rowByte 4 (some .int), Cond.methodLink RX1 123 Lib.Math.min.name, Cond.static Lib.Math.min.name, Cond.initialized "java/lang/Math", Cond.code Lib.Math.min.name Lib.Math.min.code 2 (some .int), Cond.methodLink RX1 131 yX1_fedByte, Cond.instanceMethod yX1_fedByte, Cond.selects RX1 yX1_fedByte yX1_fedByte, Cond.code yX1_fedByte cX1_fedByte 2 (some .int), Cond.fieldLink RX1 9 "PuzzleBook" "fedBytes" "[I", Cond.methodLink RX1 54 yX1_leastFreeBlock]
def wsX1_put_r3 : List Cond := [Cond.instanceMethod yX1_leastFreeBlock, Cond.selects RX1 yX1_leastFreeBlock yX1_leastFreeBlock, Cond.code yX1_leastFreeBlock cX1_leastFreeBlock 2 (some .int), Cond.methodLink RX1 120 yX0_blockCount, Cond.instanceMethod yX0_blockCount, Cond.selects RX0 yX0_blockCount yX0_blockCount, Cond.code yX0_blockCount cX0_blockCount 1 (some .int), Cond.methodLink RX1 134 yX1_isTaken, Cond.instanceMethod yX1_isTaken, Cond.selects RX1 yX1_isTaken yX1_isTaken, Cond.code yX1_isTaken cX1_isTaken 3 (some .boolean), Cond.methodLink RX1 42 yX0_beginChange, Cond.instanceMethod yX0_beginChange, Cond.selects RX0 yX0_beginChange yX0_beginChange, Cond.code yX0_beginChange cX0_beginChange 1 none, Cond.fieldLink RX0 19 "PuzzleBook$Store" "changed" "I", Cond.methodLink RX1 57 yX1_writeEntryBlock, Cond.instanceMethod yX1_writeEntryBlock, Cond.selects RX1 yX1_writeEntryBlock yX1_writeEntryBlock, Cond.code yX1_writeEntryBlock cX1_writeEntryBlock 4 none, Cond.methodLink RX1 38 yX0_write, Cond.instanceMethod yX0_write, Cond.selects RX0 yX0_write yX0_write, Cond.code yX0_write cX0_write 5 none]
def wsX1_put_r4 : List Cond := [Cond.fieldLink RX0 9 "PuzzleBook$Store" "changedPlaces" "[I", Cond.fieldLink RX0 15 "PuzzleBook$Store" "formerBytes" "[B", Cond.methodLink RX1 137 yX0_writeSum, Cond.instanceMethod yX0_writeSum, Cond.selects RX0 yX0_writeSum yX0_writeSum, Cond.code yX0_writeSum cX0_writeSum 4 none, Cond.methodLink RX0 42 yX0_sumOf, Cond.instanceMethod yX0_sumOf, Cond.selects RX0 yX0_sumOf yX0_sumOf, Cond.code yX0_sumOf cX0_sumOf 5 (some .int), Cond.constant RX0 53 (-2048144789), Cond.methodLink RX0 50 yX0_read, Cond.methodLink RX0 46 yX0_write, Cond.methodLink RX1 61 yX1_addEntryBlock, Cond.instanceMethod yX1_addEntryBlock, Cond.selects RX1 yX1_addEntryBlock yX1_addEntryBlock, Cond.code yX1_addEntryBlock cX1_addEntryBlock 2 none, Cond.methodLink RX1 64 yX1_writeOtherRootAndTurn, Cond.instanceMethod yX1_writeOtherRootAndTurn, Cond.selects RX1 yX1_writeOtherRootAndTurn yX1_writeOtherRootAndTurn, Cond.code yX1_writeOtherRootAndTurn cX1_writeOtherRootAndTurn 2 none, Cond.fieldLink RX1 32 "PuzzleBook" "turn" "I", Cond.methodLink RX1 35 yX1_writeRootBlock, Cond.instanceMethod yX1_writeRootBlock]
def wsX1_put_r5 : List Cond := [Cond.selects RX1 yX1_writeRootBlock yX1_writeRootBlock, Cond.code yX1_writeRootBlock cX1_writeRootBlock 3 none]
def wsX1_put : List Cond := .code yX1_put cX1_put 4 (some .int) :: ((wsX1_put_r1 ++ (wsX1_put_r2 ++ (wsX1_put_r3 ++ (wsX1_put_r4 ++ wsX1_put_r5)))) ++ wsX10 ++ wsX00)
def wsX1_nameOf : List Cond := .code yX1_nameOf cX1_nameOf 3 (some .int) :: ([.fieldLink RX1 28 "PuzzleBook" "store" "LPuzzleBook$Store;", .methodLink RX1 79 yX1_blockOf, .instanceMethod yX1_blockOf, .selects RX1 yX1_blockOf yX1_blockOf, .initialized RX1, .code yX1_blockOf cX1_blockOf 2 (some .int), .fieldLink RX1 20 "PuzzleBook" "entryCount" "I", .fieldLink RX1 17 "PuzzleBook" "entryBlocks" "[I", .methodLink RX1 117 yX0_read, .instanceMethod yX0_read, .selects RX0 yX0_read yX0_read, .initialized RX0, .code yX0_read cX0_read 3 (some .int), .fieldLink RX0 35 "PuzzleBook$Store" "bytes" "[B", .methodLink RX0 38 yX0_has, .instanceMethod yX0_has, .selects RX0 yX0_has yX0_has, .code yX0_has cX0_has 3 (some .boolean), .fieldLink RX0 32 "PuzzleBook$Store" "blocks" "I"] ++ wsX10 ++ wsX00)
def wsX1_find_r1 : List Cond := [Cond.fieldLink RX1 45 "PuzzleBook" "isOpen" "Z", Cond.fieldLink RX1 20 "PuzzleBook" "entryCount" "I", Cond.methodLink RX1 67 yX1_nameOf, Cond.instanceMethod yX1_nameOf, Cond.selects RX1 yX1_nameOf yX1_nameOf, Cond.initialized RX1, Cond.code yX1_nameOf cX1_nameOf 3 (some .int), Cond.fieldLink RX1 28 "PuzzleBook" "store" "LPuzzleBook$Store;", Cond.methodLink RX1 79 yX1_blockOf, Cond.instanceMethod yX1_blockOf, Cond.selects RX1 yX1_blockOf yX1_blockOf, Cond.code yX1_blockOf cX1_blockOf 2 (some .int), Cond.fieldLink RX1 17 "PuzzleBook" "entryBlocks" "[I", Cond.methodLink RX1 117 yX0_read, Cond.instanceMethod yX0_read, Cond.selects RX0 yX0_read yX0_read, Cond.initialized RX0, Cond.code yX0_read cX0_read 3 (some .int), Cond.fieldLink RX0 35 "PuzzleBook$Store" "bytes" "[B", Cond.methodLink RX0 38 yX0_has, Cond.instanceMethod yX0_has, Cond.selects RX0 yX0_has yX0_has, Cond.code yX0_has cX0_has 3 (some .boolean), Cond.fieldLink RX0 32 "PuzzleBook$Store" "blocks" "I"]
def wsX1_find_r2 : List Cond := [Cond.methodLink RX1 71 yX1_rowByte, Cond.instanceMethod yX1_rowByte, Cond.selects RX1 yX1_rowByte yX1_rowByte, Cond.code yX1_rowByte cX1_rowByte 4 (some .int), Cond.methodLink RX1 123 Lib.Math.min.name, Cond.static Lib.Math.min.name, Cond.initialized "java/lang/Math", Cond.code Lib.Math.min.name Lib.Math.min.code 2 (some .int), Cond.methodLink RX1 82 yX1_lengthOf, Cond.instanceMethod yX1_lengthOf, Cond.selects RX1 yX1_lengthOf yX1_lengthOf, Cond.code yX1_lengthOf cX1_lengthOf 2 (some .int)]
def wsX1_find : List Cond := .code yX1_find cX1_find 4 (some .int) :: ((wsX1_find_r1 ++ wsX1_find_r2) ++ wsX10 ++ wsX00)
def wsX1_isEntry : List Cond := .code yX1_isEntry cX1_isEntry 2 (some .boolean) :: ([.fieldLink RX1 45 "PuzzleBook" "isOpen" "Z", .fieldLink RX1 20 "PuzzleBook" "entryCount" "I"] ++ wsX10)
def wsX1_entry_r1 : List Cond := [Cond.methodLink RX1 75 yX1_isEntry, Cond.instanceMethod yX1_isEntry, Cond.selects RX1 yX1_isEntry yX1_isEntry, Cond.initialized RX1, Cond.code yX1_isEntry cX1_isEntry 2 (some .boolean), Cond.fieldLink RX1 45 "PuzzleBook" "isOpen" "Z", Cond.fieldLink RX1 20 "PuzzleBook" "entryCount" "I", Cond.methodLink RX1 67 yX1_nameOf, Cond.instanceMethod yX1_nameOf, Cond.selects RX1 yX1_nameOf yX1_nameOf, Cond.code yX1_nameOf cX1_nameOf 3 (some .int), Cond.fieldLink RX1 28 "PuzzleBook" "store" "LPuzzleBook$Store;", Cond.methodLink RX1 79 yX1_blockOf, Cond.instanceMethod yX1_blockOf, Cond.selects RX1 yX1_blockOf yX1_blockOf, Cond.code yX1_blockOf cX1_blockOf 2 (some .int), Cond.fieldLink RX1 17 "PuzzleBook" "entryBlocks" "[I", Cond.methodLink RX1 117 yX0_read, Cond.instanceMethod yX0_read, Cond.selects RX0 yX0_read yX0_read, Cond.initialized RX0, Cond.code yX0_read cX0_read 3 (some .int), Cond.fieldLink RX0 35 "PuzzleBook$Store" "bytes" "[B", Cond.methodLink RX0 38 yX0_has]
def wsX1_entry_r2 : List Cond := [Cond.instanceMethod yX0_has, Cond.selects RX0 yX0_has yX0_has, Cond.code yX0_has cX0_has 3 (some .boolean), Cond.fieldLink RX0 32 "PuzzleBook$Store" "blocks" "I", Cond.methodLink RX1 82 yX1_lengthOf, Cond.instanceMethod yX1_lengthOf, Cond.selects RX1 yX1_lengthOf yX1_lengthOf, Cond.code yX1_lengthOf cX1_lengthOf 2 (some .int)]
def wsX1_entry : List Cond := .code yX1_entry cX1_entry 3 (some .int) :: ((wsX1_entry_r1 ++ wsX1_entry_r2) ++ wsX10 ++ wsX00)
def wsX1_removeEntryBlock : List Cond := .code yX1_removeEntryBlock cX1_removeEntryBlock 3 none :: ([.fieldLink RX1 20 "PuzzleBook" "entryCount" "I", .fieldLink RX1 17 "PuzzleBook" "entryBlocks" "[I"] ++ wsX10)
def wsX1_drop_r1 : List Cond := [Cond.fieldLink RX1 28 "PuzzleBook" "store" "LPuzzleBook$Store;", Cond.methodLink RX1 75 yX1_isEntry, Cond.instanceMethod yX1_isEntry, Cond.selects RX1 yX1_isEntry yX1_isEntry, Cond.initialized RX1, Cond.code yX1_isEntry cX1_isEntry 2 (some .boolean), Cond.fieldLink RX1 45 "PuzzleBook" "isOpen" "Z", Cond.fieldLink RX1 20 "PuzzleBook" "entryCount" "I", Cond.methodLink RX1 42 yX0_beginChange, Cond.instanceMethod yX0_beginChange, Cond.selects RX0 yX0_beginChange yX0_beginChange, Cond.initialized RX0, Cond.code yX0_beginChange cX0_beginChange 1 none, Cond.fieldLink RX0 19 "PuzzleBook$Store" "changed" "I", Cond.methodLink RX1 85 yX1_removeEntryBlock, Cond.instanceMethod yX1_removeEntryBlock, Cond.selects RX1 yX1_removeEntryBlock yX1_removeEntryBlock, Cond.code yX1_removeEntryBlock cX1_removeEntryBlock 3 none, Cond.fieldLink RX1 17 "PuzzleBook" "entryBlocks" "[I", Cond.methodLink RX1 64 yX1_writeOtherRootAndTurn, Cond.instanceMethod yX1_writeOtherRootAndTurn, Cond.selects RX1 yX1_writeOtherRootAndTurn yX1_writeOtherRootAndTurn, Cond.code yX1_writeOtherRootAndTurn cX1_writeOtherRootAndTurn 2 none, Cond.fieldLink RX1 32 "PuzzleBook" "turn" "I"]
def wsX1_drop_r2 : List Cond := [Cond.methodLink RX1 35 yX1_writeRootBlock, Cond.instanceMethod yX1_writeRootBlock, Cond.selects RX1 yX1_writeRootBlock yX1_writeRootBlock, Cond.code yX1_writeRootBlock cX1_writeRootBlock 3 none, Cond.methodLink RX1 38 yX0_write, Cond.instanceMethod yX0_write, Cond.selects RX0 yX0_write yX0_write, Cond.code yX0_write cX0_write 5 none, Cond.fieldLink RX0 9 "PuzzleBook$Store" "changedPlaces" "[I", Cond.fieldLink RX0 15 "PuzzleBook$Store" "formerBytes" "[B", Cond.fieldLink RX0 35 "PuzzleBook$Store" "bytes" "[B", Cond.methodLink RX0 38 yX0_has, Cond.instanceMethod yX0_has, Cond.selects RX0 yX0_has yX0_has, Cond.code yX0_has cX0_has 3 (some .boolean), Cond.fieldLink RX0 32 "PuzzleBook$Store" "blocks" "I", Cond.methodLink RX1 79 yX1_blockOf, Cond.instanceMethod yX1_blockOf, Cond.selects RX1 yX1_blockOf yX1_blockOf, Cond.code yX1_blockOf cX1_blockOf 2 (some .int), Cond.methodLink RX1 137 yX0_writeSum, Cond.instanceMethod yX0_writeSum, Cond.selects RX0 yX0_writeSum yX0_writeSum, Cond.code yX0_writeSum cX0_writeSum 4 none]
def wsX1_drop_r3 : List Cond := [Cond.methodLink RX0 42 yX0_sumOf, Cond.instanceMethod yX0_sumOf, Cond.selects RX0 yX0_sumOf yX0_sumOf, Cond.code yX0_sumOf cX0_sumOf 5 (some .int), Cond.constant RX0 53 (-2048144789), Cond.methodLink RX0 50 yX0_read, Cond.instanceMethod yX0_read, Cond.selects RX0 yX0_read yX0_read, Cond.code yX0_read cX0_read 3 (some .int), Cond.methodLink RX0 46 yX0_write]
def wsX1_drop : List Cond := .code yX1_drop cX1_drop 2 (some .boolean) :: ((wsX1_drop_r1 ++ (wsX1_drop_r2 ++ wsX1_drop_r3)) ++ wsX10 ++ wsX00)
def wsX1_crash : List Cond := .code yX1_crash cX1_crash 3 (some .boolean) :: ([.fieldLink RX1 28 "PuzzleBook" "store" "LPuzzleBook$Store;", .fieldLink RX1 45 "PuzzleBook" "isOpen" "Z", .methodLink RX1 88 yX0_writtenBytes, .instanceMethod yX0_writtenBytes, .selects RX0 yX0_writtenBytes yX0_writtenBytes, .initialized RX0, .code yX0_writtenBytes cX0_writtenBytes 1 (some .int), .fieldLink RX0 19 "PuzzleBook$Store" "changed" "I", .methodLink RX1 91 yX0_undoAllBut, .instanceMethod yX0_undoAllBut, .selects RX0 yX0_undoAllBut yX0_undoAllBut, .code yX0_undoAllBut cX0_undoAllBut 4 none, .methodLink RX0 29 Lib.Math.max.name, .static Lib.Math.max.name, .initialized "java/lang/Math", .code Lib.Math.max.name Lib.Math.max.code 2 (some .int), .fieldLink RX0 9 "PuzzleBook$Store" "changedPlaces" "[I", .fieldLink RX0 35 "PuzzleBook$Store" "bytes" "[B", .fieldLink RX0 15 "PuzzleBook$Store" "formerBytes" "[B"] ++ wsX10 ++ wsX00)
def wsX1_readRootBlock_r1 : List Cond := [Cond.fieldLink RX1 28 "PuzzleBook" "store" "LPuzzleBook$Store;", Cond.methodLink RX1 117 yX0_read, Cond.instanceMethod yX0_read, Cond.selects RX0 yX0_read yX0_read, Cond.initialized RX0, Cond.code yX0_read cX0_read 3 (some .int), Cond.fieldLink RX0 35 "PuzzleBook$Store" "bytes" "[B", Cond.methodLink RX0 38 yX0_has, Cond.instanceMethod yX0_has, Cond.selects RX0 yX0_has yX0_has, Cond.code yX0_has cX0_has 3 (some .boolean), Cond.fieldLink RX0 32 "PuzzleBook$Store" "blocks" "I", Cond.methodLink RX1 104 yX0_hasRightSum, Cond.instanceMethod yX0_hasRightSum, Cond.selects RX0 yX0_hasRightSum yX0_hasRightSum, Cond.code yX0_hasRightSum cX0_hasRightSum 4 (some .boolean), Cond.methodLink RX0 42 yX0_sumOf, Cond.instanceMethod yX0_sumOf, Cond.selects RX0 yX0_sumOf yX0_sumOf, Cond.code yX0_sumOf cX0_sumOf 5 (some .int), Cond.constant RX0 53 (-2048144789), Cond.methodLink RX0 50 yX0_read, Cond.methodLink RX1 120 yX0_blockCount, Cond.instanceMethod yX0_blockCount]
def wsX1_readRootBlock_r2 : List Cond := [Cond.selects RX0 yX0_blockCount yX0_blockCount, Cond.code yX0_blockCount cX0_blockCount 1 (some .int), Cond.methodLink RX1 134 yX1_isTaken, Cond.instanceMethod yX1_isTaken, Cond.selects RX1 yX1_isTaken yX1_isTaken, Cond.initialized RX1, Cond.code yX1_isTaken cX1_isTaken 3 (some .boolean), Cond.fieldLink RX1 20 "PuzzleBook" "entryCount" "I", Cond.methodLink RX1 79 yX1_blockOf, Cond.instanceMethod yX1_blockOf, Cond.selects RX1 yX1_blockOf yX1_blockOf, Cond.code yX1_blockOf cX1_blockOf 2 (some .int), Cond.fieldLink RX1 17 "PuzzleBook" "entryBlocks" "[I", Cond.methodLink RX1 61 yX1_addEntryBlock, Cond.instanceMethod yX1_addEntryBlock, Cond.selects RX1 yX1_addEntryBlock yX1_addEntryBlock, Cond.code yX1_addEntryBlock cX1_addEntryBlock 2 none]
def wsX1_readRootBlock : List Cond := .code yX1_readRootBlock cX1_readRootBlock 5 (some .boolean) :: ((wsX1_readRootBlock_r1 ++ wsX1_readRootBlock_r2) ++ wsX10 ++ wsX00)
def wsX1_lesserBlock : List Cond := .code yX1_lesserBlock cX1_lesserBlock 2 (some .int) :: ([.methodLink RX1 123 Lib.Math.min.name, .static Lib.Math.min.name, .initialized "java/lang/Math", .code Lib.Math.min.name Lib.Math.min.code 2 (some .int)])
def wsX1_leastWrongEntryBlock_r1 : List Cond := [Cond.fieldLink RX1 20 "PuzzleBook" "entryCount" "I", Cond.fieldLink RX1 28 "PuzzleBook" "store" "LPuzzleBook$Store;", Cond.methodLink RX1 79 yX1_blockOf, Cond.instanceMethod yX1_blockOf, Cond.selects RX1 yX1_blockOf yX1_blockOf, Cond.initialized RX1, Cond.code yX1_blockOf cX1_blockOf 2 (some .int), Cond.fieldLink RX1 17 "PuzzleBook" "entryBlocks" "[I", Cond.methodLink RX1 82 yX1_lengthOf, Cond.instanceMethod yX1_lengthOf, Cond.selects RX1 yX1_lengthOf yX1_lengthOf, Cond.code yX1_lengthOf cX1_lengthOf 2 (some .int), Cond.methodLink RX1 117 yX0_read, Cond.instanceMethod yX0_read, Cond.selects RX0 yX0_read yX0_read, Cond.initialized RX0, Cond.code yX0_read cX0_read 3 (some .int), Cond.fieldLink RX0 35 "PuzzleBook$Store" "bytes" "[B", Cond.methodLink RX0 38 yX0_has, Cond.instanceMethod yX0_has, Cond.selects RX0 yX0_has yX0_has, Cond.code yX0_has cX0_has 3 (some .boolean), Cond.fieldLink RX0 32 "PuzzleBook$Store" "blocks" "I", Cond.methodLink RX1 104 yX0_hasRightSum]
def wsX1_leastWrongEntryBlock_r2 : List Cond := [Cond.instanceMethod yX0_hasRightSum, Cond.selects RX0 yX0_hasRightSum yX0_hasRightSum, Cond.code yX0_hasRightSum cX0_hasRightSum 4 (some .boolean), Cond.methodLink RX0 42 yX0_sumOf, Cond.instanceMethod yX0_sumOf, Cond.selects RX0 yX0_sumOf yX0_sumOf, Cond.code yX0_sumOf cX0_sumOf 5 (some .int), Cond.constant RX0 53 (-2048144789), Cond.methodLink RX0 50 yX0_read, Cond.methodLink RX1 107 yX1_lesserBlock, Cond.static yX1_lesserBlock, Cond.code yX1_lesserBlock cX1_lesserBlock 2 (some .int), Cond.methodLink RX1 123 Lib.Math.min.name, Cond.static Lib.Math.min.name, Cond.initialized "java/lang/Math", Cond.code Lib.Math.min.name Lib.Math.min.code 2 (some .int)]
def wsX1_leastWrongEntryBlock : List Cond := .code yX1_leastWrongEntryBlock cX1_leastWrongEntryBlock 5 (some .int) :: ((wsX1_leastWrongEntryBlock_r1 ++ wsX1_leastWrongEntryBlock_r2) ++ wsX10 ++ wsX00)
def wsX1_readFromStore_r1 : List Cond := [Cond.fieldLink RX1 20 "PuzzleBook" "entryCount" "I", Cond.fieldLink RX1 28 "PuzzleBook" "store" "LPuzzleBook$Store;", Cond.fieldLink RX1 32 "PuzzleBook" "turn" "I", Cond.methodLink RX1 117 yX0_read, Cond.instanceMethod yX0_read, Cond.selects RX0 yX0_read yX0_read, Cond.initialized RX0, Cond.code yX0_read cX0_read 3 (some .int), Cond.fieldLink RX0 35 "PuzzleBook$Store" "bytes" "[B", Cond.methodLink RX0 38 yX0_has, Cond.instanceMethod yX0_has, Cond.selects RX0 yX0_has yX0_has, Cond.code yX0_has cX0_has 3 (some .boolean), Cond.fieldLink RX0 32 "PuzzleBook$Store" "blocks" "I", Cond.methodLink RX1 140 yX1_readRootBlock, Cond.instanceMethod yX1_readRootBlock, Cond.selects RX1 yX1_readRootBlock yX1_readRootBlock, Cond.initialized RX1, Cond.code yX1_readRootBlock cX1_readRootBlock 5 (some .boolean), Cond.methodLink RX1 104 yX0_hasRightSum, Cond.instanceMethod yX0_hasRightSum, Cond.selects RX0 yX0_hasRightSum yX0_hasRightSum, Cond.code yX0_hasRightSum cX0_hasRightSum 4 (some .boolean), Cond.methodLink RX0 42 yX0_sumOf]
def wsX1_readFromStore_r2 : List Cond := [Cond.instanceMethod yX0_sumOf, Cond.selects RX0 yX0_sumOf yX0_sumOf, Cond.code yX0_sumOf cX0_sumOf 5 (some .int), Cond.constant RX0 53 (-2048144789), Cond.methodLink RX0 50 yX0_read, Cond.methodLink RX1 120 yX0_blockCount, Cond.instanceMethod yX0_blockCount, Cond.selects RX0 yX0_blockCount yX0_blockCount, Cond.code yX0_blockCount cX0_blockCount 1 (some .int), Cond.methodLink RX1 134 yX1_isTaken, Cond.instanceMethod yX1_isTaken, Cond.selects RX1 yX1_isTaken yX1_isTaken, Cond.code yX1_isTaken cX1_isTaken 3 (some .boolean), Cond.methodLink RX1 79 yX1_blockOf, Cond.instanceMethod yX1_blockOf, Cond.selects RX1 yX1_blockOf yX1_blockOf, Cond.code yX1_blockOf cX1_blockOf 2 (some .int), Cond.fieldLink RX1 17 "PuzzleBook" "entryBlocks" "[I", Cond.methodLink RX1 61 yX1_addEntryBlock, Cond.instanceMethod yX1_addEntryBlock, Cond.selects RX1 yX1_addEntryBlock yX1_addEntryBlock, Cond.code yX1_addEntryBlock cX1_addEntryBlock 2 none, Cond.methodLink RX1 143 yX1_leastWrongEntryBlock, Cond.instanceMethod yX1_leastWrongEntryBlock]
def wsX1_readFromStore_r3 : List Cond := [Cond.selects RX1 yX1_leastWrongEntryBlock yX1_leastWrongEntryBlock, Cond.code yX1_leastWrongEntryBlock cX1_leastWrongEntryBlock 5 (some .int), Cond.methodLink RX1 82 yX1_lengthOf, Cond.instanceMethod yX1_lengthOf, Cond.selects RX1 yX1_lengthOf yX1_lengthOf, Cond.code yX1_lengthOf cX1_lengthOf 2 (some .int), Cond.methodLink RX1 107 yX1_lesserBlock, Cond.static yX1_lesserBlock, Cond.code yX1_lesserBlock cX1_lesserBlock 2 (some .int), Cond.methodLink RX1 123 Lib.Math.min.name, Cond.static Lib.Math.min.name, Cond.initialized "java/lang/Math", Cond.code Lib.Math.min.name Lib.Math.min.code 2 (some .int)]
def wsX1_readFromStore : List Cond := .code yX1_readFromStore cX1_readFromStore 1 (some .int) :: ((wsX1_readFromStore_r1 ++ (wsX1_readFromStore_r2 ++ wsX1_readFromStore_r3)) ++ wsX10 ++ wsX00)
def wsX1_reopen_r1 : List Cond := [Cond.fieldLink RX1 28 "PuzzleBook" "store" "LPuzzleBook$Store;", Cond.fieldLink RX1 45 "PuzzleBook" "isOpen" "Z", Cond.fieldLink RX1 20 "PuzzleBook" "entryCount" "I", Cond.methodLink RX1 42 yX0_beginChange, Cond.instanceMethod yX0_beginChange, Cond.selects RX0 yX0_beginChange yX0_beginChange, Cond.initialized RX0, Cond.code yX0_beginChange cX0_beginChange 1 none, Cond.fieldLink RX0 19 "PuzzleBook$Store" "changed" "I", Cond.methodLink RX1 94 yX1_readFromStore, Cond.instanceMethod yX1_readFromStore, Cond.selects RX1 yX1_readFromStore yX1_readFromStore, Cond.initialized RX1, Cond.code yX1_readFromStore cX1_readFromStore 1 (some .int), Cond.fieldLink RX1 32 "PuzzleBook" "turn" "I", Cond.methodLink RX1 117 yX0_read, Cond.instanceMethod yX0_read, Cond.selects RX0 yX0_read yX0_read, Cond.code yX0_read cX0_read 3 (some .int), Cond.fieldLink RX0 35 "PuzzleBook$Store" "bytes" "[B", Cond.methodLink RX0 38 yX0_has, Cond.instanceMethod yX0_has, Cond.selects RX0 yX0_has yX0_has, Cond.code yX0_has cX0_has 3 (some .boolean)]
def wsX1_reopen_r2 : List Cond := [Cond.fieldLink RX0 32 "PuzzleBook$Store" "blocks" "I", Cond.methodLink RX1 140 yX1_readRootBlock, Cond.instanceMethod yX1_readRootBlock, Cond.selects RX1 yX1_readRootBlock yX1_readRootBlock, Cond.code yX1_readRootBlock cX1_readRootBlock 5 (some .boolean), Cond.methodLink RX1 104 yX0_hasRightSum, Cond.instanceMethod yX0_hasRightSum, Cond.selects RX0 yX0_hasRightSum yX0_hasRightSum, Cond.code yX0_hasRightSum cX0_hasRightSum 4 (some .boolean), Cond.methodLink RX0 42 yX0_sumOf, Cond.instanceMethod yX0_sumOf, Cond.selects RX0 yX0_sumOf yX0_sumOf, Cond.code yX0_sumOf cX0_sumOf 5 (some .int), Cond.constant RX0 53 (-2048144789), Cond.methodLink RX0 50 yX0_read, Cond.methodLink RX1 120 yX0_blockCount, Cond.instanceMethod yX0_blockCount, Cond.selects RX0 yX0_blockCount yX0_blockCount, Cond.code yX0_blockCount cX0_blockCount 1 (some .int), Cond.methodLink RX1 134 yX1_isTaken, Cond.instanceMethod yX1_isTaken, Cond.selects RX1 yX1_isTaken yX1_isTaken, Cond.code yX1_isTaken cX1_isTaken 3 (some .boolean), Cond.methodLink RX1 79 yX1_blockOf]
def wsX1_reopen_r3 : List Cond := [Cond.instanceMethod yX1_blockOf, Cond.selects RX1 yX1_blockOf yX1_blockOf, Cond.code yX1_blockOf cX1_blockOf 2 (some .int), Cond.fieldLink RX1 17 "PuzzleBook" "entryBlocks" "[I", Cond.methodLink RX1 61 yX1_addEntryBlock, Cond.instanceMethod yX1_addEntryBlock, Cond.selects RX1 yX1_addEntryBlock yX1_addEntryBlock, Cond.code yX1_addEntryBlock cX1_addEntryBlock 2 none, Cond.methodLink RX1 143 yX1_leastWrongEntryBlock, Cond.instanceMethod yX1_leastWrongEntryBlock, Cond.selects RX1 yX1_leastWrongEntryBlock yX1_leastWrongEntryBlock, Cond.code yX1_leastWrongEntryBlock cX1_leastWrongEntryBlock 5 (some .int), Cond.methodLink RX1 82 yX1_lengthOf, Cond.instanceMethod yX1_lengthOf, Cond.selects RX1 yX1_lengthOf yX1_lengthOf, Cond.code yX1_lengthOf cX1_lengthOf 2 (some .int), Cond.methodLink RX1 107 yX1_lesserBlock, Cond.static yX1_lesserBlock, Cond.code yX1_lesserBlock cX1_lesserBlock 2 (some .int), Cond.methodLink RX1 123 Lib.Math.min.name, Cond.static Lib.Math.min.name, Cond.initialized "java/lang/Math", Cond.code Lib.Math.min.name Lib.Math.min.code 2 (some .int)]
def wsX1_reopen : List Cond := .code yX1_reopen cX1_reopen 2 (some .int) :: ((wsX1_reopen_r1 ++ (wsX1_reopen_r2 ++ wsX1_reopen_r3)) ++ wsX10 ++ wsX00)
def wsX1_poke : List Cond := .code yX1_poke cX1_poke 4 (some .boolean) :: ([.fieldLink RX1 28 "PuzzleBook" "store" "LPuzzleBook$Store;", .methodLink RX1 97 yX0_has, .instanceMethod yX0_has, .selects RX0 yX0_has yX0_has, .initialized RX0, .code yX0_has cX0_has 3 (some .boolean), .fieldLink RX0 32 "PuzzleBook$Store" "blocks" "I", .methodLink RX1 101 yX0_alter, .instanceMethod yX0_alter, .selects RX0 yX0_alter yX0_alter, .code yX0_alter cX0_alter 5 none, .fieldLink RX0 35 "PuzzleBook$Store" "bytes" "[B", .methodLink RX0 38 yX0_has] ++ wsX10 ++ wsX00)
def wsX1_badAt_r1 : List Cond := [Cond.fieldLink RX1 45 "PuzzleBook" "isOpen" "Z", Cond.fieldLink RX1 28 "PuzzleBook" "store" "LPuzzleBook$Store;", Cond.fieldLink RX1 32 "PuzzleBook" "turn" "I", Cond.fieldLink RX1 20 "PuzzleBook" "entryCount" "I", Cond.methodLink RX1 104 yX0_hasRightSum, Cond.instanceMethod yX0_hasRightSum, Cond.selects RX0 yX0_hasRightSum yX0_hasRightSum, Cond.initialized RX0, Cond.code yX0_hasRightSum cX0_hasRightSum 4 (some .boolean), Cond.methodLink RX0 42 yX0_sumOf, Cond.instanceMethod yX0_sumOf, Cond.selects RX0 yX0_sumOf yX0_sumOf, Cond.code yX0_sumOf cX0_sumOf 5 (some .int), Cond.constant RX0 53 (-2048144789), Cond.methodLink RX0 50 yX0_read, Cond.instanceMethod yX0_read, Cond.selects RX0 yX0_read yX0_read, Cond.code yX0_read cX0_read 3 (some .int), Cond.fieldLink RX0 35 "PuzzleBook$Store" "bytes" "[B", Cond.methodLink RX0 38 yX0_has, Cond.instanceMethod yX0_has, Cond.selects RX0 yX0_has yX0_has, Cond.code yX0_has cX0_has 3 (some .boolean), Cond.fieldLink RX0 32 "PuzzleBook$Store" "blocks" "I"]
def wsX1_badAt_r2 : List Cond := [Cond.methodLink RX1 79 yX1_blockOf, Cond.instanceMethod yX1_blockOf, Cond.selects RX1 yX1_blockOf yX1_blockOf, Cond.initialized RX1, Cond.code yX1_blockOf cX1_blockOf 2 (some .int), Cond.fieldLink RX1 17 "PuzzleBook" "entryBlocks" "[I", Cond.methodLink RX1 107 yX1_lesserBlock, Cond.static yX1_lesserBlock, Cond.code yX1_lesserBlock cX1_lesserBlock 2 (some .int), Cond.methodLink RX1 123 Lib.Math.min.name, Cond.static Lib.Math.min.name, Cond.initialized "java/lang/Math", Cond.code Lib.Math.min.name Lib.Math.min.code 2 (some .int)]
def wsX1_badAt : List Cond := .code yX1_badAt cX1_badAt 4 (some .int) :: ((wsX1_badAt_r1 ++ wsX1_badAt_r2) ++ wsX10 ++ wsX00)
def wsX1_byteAt : List Cond := .code yX1_byteAt cX1_byteAt 3 (some .int) :: ([.fieldLink RX1 28 "PuzzleBook" "store" "LPuzzleBook$Store;", .classLink RX1 110 RJx00060, .instantiable RJx00060 6, .initialized RJx00060, .methodLink RX1 97 yX0_has, .instanceMethod yX0_has, .selects RX0 yX0_has yX0_has, .initialized RX0, .code yX0_has cX0_has 3 (some .boolean), .fieldLink RX0 32 "PuzzleBook$Store" "blocks" "I", .methodLink RX1 117 yX0_read, .instanceMethod yX0_read, .selects RX0 yX0_read yX0_read, .code yX0_read cX0_read 3 (some .int), .fieldLink RX0 35 "PuzzleBook$Store" "bytes" "[B", .methodLink RX0 38 yX0_has] ++ wsX10 ++ wsJx000600 ++ wsX00)
def wsX1_free : List Cond := .code yX1_free cX1_free 1 (some .int) :: ([.fieldLink RX1 45 "PuzzleBook" "isOpen" "Z", .fieldLink RX1 28 "PuzzleBook" "store" "LPuzzleBook$Store;", .fieldLink RX1 20 "PuzzleBook" "entryCount" "I", .methodLink RX1 120 yX0_blockCount, .instanceMethod yX0_blockCount, .selects RX0 yX0_blockCount yX0_blockCount, .initialized RX0, .code yX0_blockCount cX0_blockCount 1 (some .int), .fieldLink RX0 32 "PuzzleBook$Store" "blocks" "I"] ++ wsX10 ++ wsX00)
def wsX1_root : List Cond := .code yX1_root cX1_root 1 (some .int) :: ([.fieldLink RX1 45 "PuzzleBook" "isOpen" "Z", .fieldLink RX1 32 "PuzzleBook" "turn" "I"] ++ wsX10)
def wsX2_write : List Cond := .code yX2_write cX2_write 3 none :: ([.fieldLink RX2 19 "PuzzleBookModel" "where" "[I", .fieldLink RX2 43 "PuzzleBookModel" "written" "I", .fieldLink RX2 22 "PuzzleBookModel" "before" "[I", .fieldLink RX2 7 "PuzzleBookModel" "store" "[I"] ++ wsX20)
def wsX2_sumOf : List Cond := .code yX2_sumOf cX2_sumOf 4 (some .int) :: ([.fieldLink RX2 7 "PuzzleBookModel" "store" "[I", .constant RX2 49 (-2048144789)] ++ wsX20)
def wsX2_writeSum : List Cond := .code yX2_writeSum cX2_writeSum 4 none :: ([.methodLink RX2 50 yX2_sumOf, .instanceMethod yX2_sumOf, .selects RX2 yX2_sumOf yX2_sumOf, .initialized RX2, .code yX2_sumOf cX2_sumOf 4 (some .int), .fieldLink RX2 7 "PuzzleBookModel" "store" "[I", .constant RX2 49 (-2048144789), .methodLink RX2 40 yX2_write, .instanceMethod yX2_write, .selects RX2 yX2_write yX2_write, .code yX2_write cX2_write 3 none, .fieldLink RX2 19 "PuzzleBookModel" "where" "[I", .fieldLink RX2 43 "PuzzleBookModel" "written" "I", .fieldLink RX2 22 "PuzzleBookModel" "before" "[I"] ++ wsX20)
def wsX2_writeRoot : List Cond := .code yX2_writeRoot cX2_writeRoot 6 none :: ([.fieldLink RX2 54 "PuzzleBookModel" "entries" "I", .fieldLink RX2 13 "PuzzleBookModel" "block" "[I", .methodLink RX2 40 yX2_write, .instanceMethod yX2_write, .selects RX2 yX2_write yX2_write, .initialized RX2, .code yX2_write cX2_write 3 none, .fieldLink RX2 19 "PuzzleBookModel" "where" "[I", .fieldLink RX2 43 "PuzzleBookModel" "written" "I", .fieldLink RX2 22 "PuzzleBookModel" "before" "[I", .fieldLink RX2 7 "PuzzleBookModel" "store" "[I", .methodLink RX2 57 yX2_writeSum, .instanceMethod yX2_writeSum, .selects RX2 yX2_writeSum yX2_writeSum, .code yX2_writeSum cX2_writeSum 4 none, .methodLink RX2 50 yX2_sumOf, .instanceMethod yX2_sumOf, .selects RX2 yX2_sumOf yX2_sumOf, .code yX2_sumOf cX2_sumOf 4 (some .int), .constant RX2 49 (-2048144789)] ++ wsX20)
def wsX2_init_r1 : List Cond := [Cond.methodLink RX2 1 objectInit, Cond.instanceMethod objectInit, Cond.code objectInit ⟨#[0xb1]⟩ 1 none, Cond.arrayClass .int, Cond.fieldLink RX2 7 "PuzzleBookModel" "store" "[I", Cond.fieldLink RX2 13 "PuzzleBookModel" "block" "[I", Cond.fieldLink RX2 16 "PuzzleBookModel" "fed" "[I", Cond.fieldLink RX2 19 "PuzzleBookModel" "where" "[I", Cond.fieldLink RX2 22 "PuzzleBookModel" "before" "[I", Cond.fieldLink RX2 25 "PuzzleBookModel" "blocks" "I", Cond.fieldLink RX2 29 "PuzzleBookModel" "turn" "I", Cond.fieldLink RX2 32 "PuzzleBookModel" "open" "Z", Cond.fieldLink RX2 43 "PuzzleBookModel" "written" "I", Cond.methodLink RX2 36 yX2_writeRoot, Cond.instanceMethod yX2_writeRoot, Cond.selects RX2 yX2_writeRoot yX2_writeRoot, Cond.initialized RX2, Cond.code yX2_writeRoot cX2_writeRoot 6 none, Cond.fieldLink RX2 54 "PuzzleBookModel" "entries" "I", Cond.methodLink RX2 40 yX2_write, Cond.instanceMethod yX2_write, Cond.selects RX2 yX2_write yX2_write, Cond.code yX2_write cX2_write 3 none, Cond.methodLink RX2 57 yX2_writeSum]
def wsX2_init_r2 : List Cond := [Cond.instanceMethod yX2_writeSum, Cond.selects RX2 yX2_writeSum yX2_writeSum, Cond.code yX2_writeSum cX2_writeSum 4 none, Cond.methodLink RX2 50 yX2_sumOf, Cond.instanceMethod yX2_sumOf, Cond.selects RX2 yX2_sumOf yX2_sumOf, Cond.code yX2_sumOf cX2_sumOf 4 (some .int), Cond.constant RX2 49 (-2048144789)]
def wsX2_init : List Cond := .code yX2_init cX2_init 2 none :: ((wsX2_init_r1 ++ wsX2_init_r2) ++ wsX20)
def wsX2_thrown : List Cond := .code yX2_thrown cX2_thrown 1 (some .int) :: ([.fieldLink RX2 46 "PuzzleBookModel" "thrown" "I"] ++ wsX20)
def wsX2_isRight : List Cond := .code yX2_isRight cX2_isRight 4 (some .boolean) :: ([.fieldLink RX2 7 "PuzzleBookModel" "store" "[I", .methodLink RX2 50 yX2_sumOf, .instanceMethod yX2_sumOf, .selects RX2 yX2_sumOf yX2_sumOf, .initialized RX2, .code yX2_sumOf cX2_sumOf 4 (some .int), .constant RX2 49 (-2048144789)] ++ wsX20)
def wsX2_writeEntry : List Cond := .code yX2_writeEntry cX2_writeEntry 4 none :: ([.fieldLink RX2 61 "PuzzleBookModel" "fedLong" "I", .fieldLink RX2 16 "PuzzleBookModel" "fed" "[I", .methodLink RX2 40 yX2_write, .instanceMethod yX2_write, .selects RX2 yX2_write yX2_write, .initialized RX2, .code yX2_write cX2_write 3 none, .fieldLink RX2 19 "PuzzleBookModel" "where" "[I", .fieldLink RX2 43 "PuzzleBookModel" "written" "I", .fieldLink RX2 22 "PuzzleBookModel" "before" "[I", .fieldLink RX2 7 "PuzzleBookModel" "store" "[I", .methodLink RX2 57 yX2_writeSum, .instanceMethod yX2_writeSum, .selects RX2 yX2_writeSum yX2_writeSum, .code yX2_writeSum cX2_writeSum 4 none, .methodLink RX2 50 yX2_sumOf, .instanceMethod yX2_sumOf, .selects RX2 yX2_sumOf yX2_sumOf, .code yX2_sumOf cX2_sumOf 4 (some .int), .constant RX2 49 (-2048144789)] ++ wsX20)
def wsX2_turnTo : List Cond := .code yX2_turnTo cX2_turnTo 2 none :: ([.fieldLink RX2 29 "PuzzleBookModel" "turn" "I", .methodLink RX2 40 yX2_write, .instanceMethod yX2_write, .selects RX2 yX2_write yX2_write, .initialized RX2, .code yX2_write cX2_write 3 none, .fieldLink RX2 19 "PuzzleBookModel" "where" "[I", .fieldLink RX2 43 "PuzzleBookModel" "written" "I", .fieldLink RX2 22 "PuzzleBookModel" "before" "[I", .fieldLink RX2 7 "PuzzleBookModel" "store" "[I"] ++ wsX20)
def wsX2_isUsed : List Cond := .code yX2_isUsed cX2_isUsed 3 (some .boolean) :: ([.fieldLink RX2 54 "PuzzleBookModel" "entries" "I", .fieldLink RX2 13 "PuzzleBookModel" "block" "[I"] ++ wsX20)
def wsX2_leastFree : List Cond := .code yX2_leastFree cX2_leastFree 2 (some .int) :: ([.fieldLink RX2 25 "PuzzleBookModel" "blocks" "I", .methodLink RX2 64 yX2_isUsed, .instanceMethod yX2_isUsed, .selects RX2 yX2_isUsed yX2_isUsed, .initialized RX2, .code yX2_isUsed cX2_isUsed 3 (some .boolean), .fieldLink RX2 54 "PuzzleBookModel" "entries" "I", .fieldLink RX2 13 "PuzzleBookModel" "block" "[I"] ++ wsX20)
def wsX2_nameOf : List Cond := .code yX2_nameOf cX2_nameOf 2 (some .int) :: ([.fieldLink RX2 7 "PuzzleBookModel" "store" "[I", .fieldLink RX2 13 "PuzzleBookModel" "block" "[I"] ++ wsX20)
def wsX2_longOf : List Cond := .code yX2_longOf cX2_longOf 2 (some .int) :: ([.fieldLink RX2 7 "PuzzleBookModel" "store" "[I", .fieldLink RX2 13 "PuzzleBookModel" "block" "[I"] ++ wsX20)
def wsX2_hasFed : List Cond := .code yX2_hasFed cX2_hasFed 3 (some .boolean) :: ([.fieldLink RX2 61 "PuzzleBookModel" "fedLong" "I", .fieldLink RX2 7 "PuzzleBookModel" "store" "[I", .fieldLink RX2 13 "PuzzleBookModel" "block" "[I", .fieldLink RX2 16 "PuzzleBookModel" "fed" "[I", .methodLink RX2 68 yX2_longOf, .instanceMethod yX2_longOf, .selects RX2 yX2_longOf yX2_longOf, .initialized RX2, .code yX2_longOf cX2_longOf 2 (some .int)] ++ wsX20)
def wsX2_feed : List Cond := .code yX2_feed cX2_feed 2 (some .boolean) :: ([.fieldLink RX2 46 "PuzzleBookModel" "thrown" "I", .fieldLink RX2 61 "PuzzleBookModel" "fedLong" "I", .fieldLink RX2 16 "PuzzleBookModel" "fed" "[I"] ++ wsX20)
def wsX2_put_r1 : List Cond := [Cond.fieldLink RX2 46 "PuzzleBookModel" "thrown" "I", Cond.fieldLink RX2 32 "PuzzleBookModel" "open" "Z", Cond.constant RX2 71 (65535), Cond.fieldLink RX2 61 "PuzzleBookModel" "fedLong" "I", Cond.fieldLink RX2 54 "PuzzleBookModel" "entries" "I", Cond.fieldLink RX2 43 "PuzzleBookModel" "written" "I", Cond.fieldLink RX2 13 "PuzzleBookModel" "block" "[I", Cond.fieldLink RX2 29 "PuzzleBookModel" "turn" "I", Cond.methodLink RX2 72 yX2_hasFed, Cond.instanceMethod yX2_hasFed, Cond.selects RX2 yX2_hasFed yX2_hasFed, Cond.initialized RX2, Cond.code yX2_hasFed cX2_hasFed 3 (some .boolean), Cond.fieldLink RX2 7 "PuzzleBookModel" "store" "[I", Cond.fieldLink RX2 16 "PuzzleBookModel" "fed" "[I", Cond.methodLink RX2 68 yX2_longOf, Cond.instanceMethod yX2_longOf, Cond.selects RX2 yX2_longOf yX2_longOf, Cond.code yX2_longOf cX2_longOf 2 (some .int), Cond.methodLink RX2 75 yX2_leastFree, Cond.instanceMethod yX2_leastFree, Cond.selects RX2 yX2_leastFree yX2_leastFree, Cond.code yX2_leastFree cX2_leastFree 2 (some .int), Cond.fieldLink RX2 25 "PuzzleBookModel" "blocks" "I"]
def wsX2_put_r2 : List Cond := [Cond.methodLink RX2 64 yX2_isUsed, Cond.instanceMethod yX2_isUsed, Cond.selects RX2 yX2_isUsed yX2_isUsed, Cond.code yX2_isUsed cX2_isUsed 3 (some .boolean), Cond.methodLink RX2 79 yX2_writeEntry, Cond.instanceMethod yX2_writeEntry, Cond.selects RX2 yX2_writeEntry yX2_writeEntry, Cond.code yX2_writeEntry cX2_writeEntry 4 none, Cond.methodLink RX2 40 yX2_write, Cond.instanceMethod yX2_write, Cond.selects RX2 yX2_write yX2_write, Cond.code yX2_write cX2_write 3 none, Cond.fieldLink RX2 19 "PuzzleBookModel" "where" "[I", Cond.fieldLink RX2 22 "PuzzleBookModel" "before" "[I", Cond.methodLink RX2 57 yX2_writeSum, Cond.instanceMethod yX2_writeSum, Cond.selects RX2 yX2_writeSum yX2_writeSum, Cond.code yX2_writeSum cX2_writeSum 4 none, Cond.methodLink RX2 50 yX2_sumOf, Cond.instanceMethod yX2_sumOf, Cond.selects RX2 yX2_sumOf yX2_sumOf, Cond.code yX2_sumOf cX2_sumOf 4 (some .int), Cond.constant RX2 49 (-2048144789), Cond.methodLink RX2 36 yX2_writeRoot]
def wsX2_put_r3 : List Cond := [Cond.instanceMethod yX2_writeRoot, Cond.selects RX2 yX2_writeRoot yX2_writeRoot, Cond.code yX2_writeRoot cX2_writeRoot 6 none, Cond.methodLink RX2 82 yX2_turnTo, Cond.instanceMethod yX2_turnTo, Cond.selects RX2 yX2_turnTo yX2_turnTo, Cond.code yX2_turnTo cX2_turnTo 2 none]
def wsX2_put : List Cond := .code yX2_put cX2_put 3 (some .int) :: ((wsX2_put_r1 ++ (wsX2_put_r2 ++ wsX2_put_r3)) ++ wsX20)
def wsX2_drop_r1 : List Cond := [Cond.fieldLink RX2 46 "PuzzleBookModel" "thrown" "I", Cond.fieldLink RX2 32 "PuzzleBookModel" "open" "Z", Cond.fieldLink RX2 54 "PuzzleBookModel" "entries" "I", Cond.fieldLink RX2 43 "PuzzleBookModel" "written" "I", Cond.fieldLink RX2 29 "PuzzleBookModel" "turn" "I", Cond.fieldLink RX2 13 "PuzzleBookModel" "block" "[I", Cond.methodLink RX2 36 yX2_writeRoot, Cond.instanceMethod yX2_writeRoot, Cond.selects RX2 yX2_writeRoot yX2_writeRoot, Cond.initialized RX2, Cond.code yX2_writeRoot cX2_writeRoot 6 none, Cond.methodLink RX2 40 yX2_write, Cond.instanceMethod yX2_write, Cond.selects RX2 yX2_write yX2_write, Cond.code yX2_write cX2_write 3 none, Cond.fieldLink RX2 19 "PuzzleBookModel" "where" "[I", Cond.fieldLink RX2 22 "PuzzleBookModel" "before" "[I", Cond.fieldLink RX2 7 "PuzzleBookModel" "store" "[I", Cond.methodLink RX2 57 yX2_writeSum, Cond.instanceMethod yX2_writeSum, Cond.selects RX2 yX2_writeSum yX2_writeSum, Cond.code yX2_writeSum cX2_writeSum 4 none, Cond.methodLink RX2 50 yX2_sumOf, Cond.instanceMethod yX2_sumOf]
def wsX2_drop_r2 : List Cond := [Cond.selects RX2 yX2_sumOf yX2_sumOf, Cond.code yX2_sumOf cX2_sumOf 4 (some .int), Cond.constant RX2 49 (-2048144789), Cond.methodLink RX2 82 yX2_turnTo, Cond.instanceMethod yX2_turnTo, Cond.selects RX2 yX2_turnTo yX2_turnTo, Cond.code yX2_turnTo cX2_turnTo 2 none]
def wsX2_drop : List Cond := .code yX2_drop cX2_drop 3 (some .boolean) :: ((wsX2_drop_r1 ++ wsX2_drop_r2) ++ wsX20)
def wsX2_find : List Cond := .code yX2_find cX2_find 4 (some .int) :: ([.fieldLink RX2 46 "PuzzleBookModel" "thrown" "I", .fieldLink RX2 32 "PuzzleBookModel" "open" "Z", .fieldLink RX2 54 "PuzzleBookModel" "entries" "I", .fieldLink RX2 7 "PuzzleBookModel" "store" "[I", .fieldLink RX2 13 "PuzzleBookModel" "block" "[I", .methodLink RX2 85 yX2_nameOf, .instanceMethod yX2_nameOf, .selects RX2 yX2_nameOf yX2_nameOf, .initialized RX2, .code yX2_nameOf cX2_nameOf 2 (some .int), .methodLink RX2 68 yX2_longOf, .instanceMethod yX2_longOf, .selects RX2 yX2_longOf yX2_longOf, .code yX2_longOf cX2_longOf 2 (some .int)] ++ wsX20)
def wsX2_entry : List Cond := .code yX2_entry cX2_entry 3 (some .int) :: ([.fieldLink RX2 46 "PuzzleBookModel" "thrown" "I", .fieldLink RX2 32 "PuzzleBookModel" "open" "Z", .fieldLink RX2 54 "PuzzleBookModel" "entries" "I", .fieldLink RX2 13 "PuzzleBookModel" "block" "[I", .methodLink RX2 85 yX2_nameOf, .instanceMethod yX2_nameOf, .selects RX2 yX2_nameOf yX2_nameOf, .initialized RX2, .code yX2_nameOf cX2_nameOf 2 (some .int), .fieldLink RX2 7 "PuzzleBookModel" "store" "[I", .methodLink RX2 68 yX2_longOf, .instanceMethod yX2_longOf, .selects RX2 yX2_longOf yX2_longOf, .code yX2_longOf cX2_longOf 2 (some .int)] ++ wsX20)
def wsX2_crash : List Cond := .code yX2_crash cX2_crash 3 (some .boolean) :: ([.fieldLink RX2 46 "PuzzleBookModel" "thrown" "I", .fieldLink RX2 32 "PuzzleBookModel" "open" "Z", .fieldLink RX2 43 "PuzzleBookModel" "written" "I", .fieldLink RX2 7 "PuzzleBookModel" "store" "[I", .fieldLink RX2 19 "PuzzleBookModel" "where" "[I", .fieldLink RX2 22 "PuzzleBookModel" "before" "[I"] ++ wsX20)
def wsX2_rootIsRight : List Cond := .code yX2_rootIsRight cX2_rootIsRight 6 (some .boolean) :: ([.fieldLink RX2 7 "PuzzleBookModel" "store" "[I", .fieldLink RX2 25 "PuzzleBookModel" "blocks" "I", .methodLink RX2 88 yX2_isRight, .instanceMethod yX2_isRight, .selects RX2 yX2_isRight yX2_isRight, .initialized RX2, .code yX2_isRight cX2_isRight 4 (some .boolean), .methodLink RX2 50 yX2_sumOf, .instanceMethod yX2_sumOf, .selects RX2 yX2_sumOf yX2_sumOf, .code yX2_sumOf cX2_sumOf 4 (some .int), .constant RX2 49 (-2048144789)] ++ wsX20)
def wsX2_entryIsRight : List Cond := .code yX2_entryIsRight cX2_entryIsRight 3 (some .boolean) :: ([.fieldLink RX2 7 "PuzzleBookModel" "store" "[I", .methodLink RX2 88 yX2_isRight, .instanceMethod yX2_isRight, .selects RX2 yX2_isRight yX2_isRight, .initialized RX2, .code yX2_isRight cX2_isRight 4 (some .boolean), .methodLink RX2 50 yX2_sumOf, .instanceMethod yX2_sumOf, .selects RX2 yX2_sumOf yX2_sumOf, .code yX2_sumOf cX2_sumOf 4 (some .int), .constant RX2 49 (-2048144789)] ++ wsX20)
def wsX2_reopen_r1 : List Cond := [Cond.fieldLink RX2 46 "PuzzleBookModel" "thrown" "I", Cond.fieldLink RX2 32 "PuzzleBookModel" "open" "Z", Cond.fieldLink RX2 43 "PuzzleBookModel" "written" "I", Cond.fieldLink RX2 7 "PuzzleBookModel" "store" "[I", Cond.fieldLink RX2 29 "PuzzleBookModel" "turn" "I", Cond.fieldLink RX2 54 "PuzzleBookModel" "entries" "I", Cond.fieldLink RX2 13 "PuzzleBookModel" "block" "[I", Cond.methodLink RX2 91 yX2_rootIsRight, Cond.instanceMethod yX2_rootIsRight, Cond.selects RX2 yX2_rootIsRight yX2_rootIsRight, Cond.initialized RX2, Cond.code yX2_rootIsRight cX2_rootIsRight 6 (some .boolean), Cond.fieldLink RX2 25 "PuzzleBookModel" "blocks" "I", Cond.methodLink RX2 88 yX2_isRight, Cond.instanceMethod yX2_isRight, Cond.selects RX2 yX2_isRight yX2_isRight, Cond.code yX2_isRight cX2_isRight 4 (some .boolean), Cond.methodLink RX2 50 yX2_sumOf, Cond.instanceMethod yX2_sumOf, Cond.selects RX2 yX2_sumOf yX2_sumOf, Cond.code yX2_sumOf cX2_sumOf 4 (some .int), Cond.constant RX2 49 (-2048144789), Cond.methodLink RX2 94 yX2_entryIsRight, Cond.instanceMethod yX2_entryIsRight]
def wsX2_reopen_r2 : List Cond := [Cond.selects RX2 yX2_entryIsRight yX2_entryIsRight, Cond.code yX2_entryIsRight cX2_entryIsRight 3 (some .boolean)]
def wsX2_reopen : List Cond := .code yX2_reopen cX2_reopen 6 (some .int) :: ((wsX2_reopen_r1 ++ wsX2_reopen_r2) ++ wsX20)
def wsX2_isByte : List Cond := .code yX2_isByte cX2_isByte 3 (some .boolean) :: ([.fieldLink RX2 25 "PuzzleBookModel" "blocks" "I"] ++ wsX20)
def wsX2_poke : List Cond := .code yX2_poke cX2_poke 4 (some .boolean) :: ([.fieldLink RX2 46 "PuzzleBookModel" "thrown" "I", .fieldLink RX2 7 "PuzzleBookModel" "store" "[I", .methodLink RX2 97 yX2_isByte, .instanceMethod yX2_isByte, .selects RX2 yX2_isByte yX2_isByte, .initialized RX2, .code yX2_isByte cX2_isByte 3 (some .boolean), .fieldLink RX2 25 "PuzzleBookModel" "blocks" "I"] ++ wsX20)
def wsX2_badAt : List Cond := .code yX2_badAt cX2_badAt 2 (some .int) :: ([.fieldLink RX2 46 "PuzzleBookModel" "thrown" "I", .fieldLink RX2 32 "PuzzleBookModel" "open" "Z", .fieldLink RX2 29 "PuzzleBookModel" "turn" "I", .fieldLink RX2 25 "PuzzleBookModel" "blocks" "I", .methodLink RX2 88 yX2_isRight, .instanceMethod yX2_isRight, .selects RX2 yX2_isRight yX2_isRight, .initialized RX2, .code yX2_isRight cX2_isRight 4 (some .boolean), .fieldLink RX2 7 "PuzzleBookModel" "store" "[I", .methodLink RX2 50 yX2_sumOf, .instanceMethod yX2_sumOf, .selects RX2 yX2_sumOf yX2_sumOf, .code yX2_sumOf cX2_sumOf 4 (some .int), .constant RX2 49 (-2048144789), .methodLink RX2 64 yX2_isUsed, .instanceMethod yX2_isUsed, .selects RX2 yX2_isUsed yX2_isUsed, .code yX2_isUsed cX2_isUsed 3 (some .boolean), .fieldLink RX2 54 "PuzzleBookModel" "entries" "I", .fieldLink RX2 13 "PuzzleBookModel" "block" "[I"] ++ wsX20)
def wsX2_byteAt : List Cond := .code yX2_byteAt cX2_byteAt 3 (some .int) :: ([.fieldLink RX2 46 "PuzzleBookModel" "thrown" "I", .fieldLink RX2 7 "PuzzleBookModel" "store" "[I", .methodLink RX2 97 yX2_isByte, .instanceMethod yX2_isByte, .selects RX2 yX2_isByte yX2_isByte, .initialized RX2, .code yX2_isByte cX2_isByte 3 (some .boolean), .fieldLink RX2 25 "PuzzleBookModel" "blocks" "I"] ++ wsX20)
def wsX2_free : List Cond := .code yX2_free cX2_free 1 (some .int) :: ([.fieldLink RX2 46 "PuzzleBookModel" "thrown" "I", .fieldLink RX2 32 "PuzzleBookModel" "open" "Z", .fieldLink RX2 25 "PuzzleBookModel" "blocks" "I", .fieldLink RX2 54 "PuzzleBookModel" "entries" "I"] ++ wsX20)
def wsX2_root : List Cond := .code yX2_root cX2_root 1 (some .int) :: ([.fieldLink RX2 46 "PuzzleBookModel" "thrown" "I", .fieldLink RX2 32 "PuzzleBookModel" "open" "Z", .fieldLink RX2 29 "PuzzleBookModel" "turn" "I"] ++ wsX20)
def wsJx00060_init_a7421 : List Cond := .code yJx00060_init_a7421 cJx00060_init_a7421 2 none :: ([])
def wsJ9_max_7cf53 : List Cond := .code yJ9_max_7cf53 cJ9_max_7cf53 2 (some .int) :: ([])
def wsJ9_min_7cf53 : List Cond := .code yJ9_min_7cf53 cJ9_min_7cf53 2 (some .int) :: ([])
def wsL_cell : List Cond := .code yL_cell cL_cell 2 (some .int) :: ([])
def wsL_byteAt : List Cond := .codeWith yL_byteAt cL_byteAt 5 (some .int) [(0, 10, 13, 13)] :: ([.methodLink RL 7 yX1_byteAt, .instanceMethod yX1_byteAt, .selects RX1 yX1_byteAt yX1_byteAt, .initialized RX1, .code yX1_byteAt cX1_byteAt 3 (some .int), .fieldLink RX1 28 "PuzzleBook" "store" "LPuzzleBook$Store;", .classLink RX1 110 RJx00060, .instantiable RJx00060 6, .initialized RJx00060, .methodLink RX1 97 yX0_has, .instanceMethod yX0_has, .selects RX0 yX0_has yX0_has, .initialized RX0, .code yX0_has cX0_has 3 (some .boolean), .fieldLink RX0 32 "PuzzleBook$Store" "blocks" "I", .methodLink RX1 117 yX0_read, .instanceMethod yX0_read, .selects RX0 yX0_read yX0_read, .code yX0_read cX0_read 3 (some .int), .fieldLink RX0 35 "PuzzleBook$Store" "bytes" "[B", .methodLink RX0 38 yX0_has] ++ wsX10 ++ wsJx000600 ++ wsX00)
def wsL_law_r1 : List Cond := [Cond.classLink RL 8 RX1, Cond.instantiable RX1 7, Cond.initialized RX1, Cond.classLink RL 24 RX2, Cond.instantiable RX2 12, Cond.initialized RX2, Cond.arrayClass .long, Cond.methodLink RL 15 yL_cell, Cond.static yL_cell, Cond.initialized RL, Cond.code yL_cell cL_cell 2 (some .int), Cond.methodLink RL 21 yX1_init, Cond.instanceMethod yX1_init, Cond.code yX1_init cX1_init 2 none, Cond.methodLink RX1 3 objectInit, Cond.instanceMethod objectInit, Cond.code objectInit ⟨#[0xb1]⟩ 1 none, Cond.arrayClass .int, Cond.fieldLink RX1 9 "PuzzleBook" "fedBytes" "[I", Cond.fieldLink RX1 13 "PuzzleBook" "fedCount" "I", Cond.fieldLink RX1 17 "PuzzleBook" "entryBlocks" "[I", Cond.fieldLink RX1 20 "PuzzleBook" "entryCount" "I", Cond.classLink RX1 23 RX0, Cond.instantiable RX0 5]
def wsL_law_r2 : List Cond := [Cond.initialized RX0, Cond.fieldLink RX1 28 "PuzzleBook" "store" "LPuzzleBook$Store;", Cond.fieldLink RX1 32 "PuzzleBook" "turn" "I", Cond.fieldLink RX1 45 "PuzzleBook" "isOpen" "Z", Cond.methodLink RX1 25 yX0_init, Cond.instanceMethod yX0_init, Cond.code yX0_init cX0_init 2 none, Cond.methodLink RX0 3 objectInit, Cond.fieldLink RX0 9 "PuzzleBook$Store" "changedPlaces" "[I", Cond.arrayClass .byte, Cond.fieldLink RX0 15 "PuzzleBook$Store" "formerBytes" "[B", Cond.fieldLink RX0 19 "PuzzleBook$Store" "changed" "I", Cond.methodLink RX0 23 Lib.Math.min.name, Cond.static Lib.Math.min.name, Cond.initialized "java/lang/Math", Cond.code Lib.Math.min.name Lib.Math.min.code 2 (some .int), Cond.methodLink RX0 29 Lib.Math.max.name, Cond.static Lib.Math.max.name, Cond.code Lib.Math.max.name Lib.Math.max.code 2 (some .int), Cond.fieldLink RX0 32 "PuzzleBook$Store" "blocks" "I", Cond.fieldLink RX0 35 "PuzzleBook$Store" "bytes" "[B", Cond.methodLink RX1 35 yX1_writeRootBlock, Cond.instanceMethod yX1_writeRootBlock, Cond.selects RX1 yX1_writeRootBlock yX1_writeRootBlock]
def wsL_law_r3 : List Cond := [Cond.code yX1_writeRootBlock cX1_writeRootBlock 3 none, Cond.methodLink RX1 38 yX0_write, Cond.instanceMethod yX0_write, Cond.selects RX0 yX0_write yX0_write, Cond.code yX0_write cX0_write 5 none, Cond.methodLink RX0 38 yX0_has, Cond.instanceMethod yX0_has, Cond.selects RX0 yX0_has yX0_has, Cond.code yX0_has cX0_has 3 (some .boolean), Cond.methodLink RX1 79 yX1_blockOf, Cond.instanceMethod yX1_blockOf, Cond.selects RX1 yX1_blockOf yX1_blockOf, Cond.code yX1_blockOf cX1_blockOf 2 (some .int), Cond.methodLink RX1 137 yX0_writeSum, Cond.instanceMethod yX0_writeSum, Cond.selects RX0 yX0_writeSum yX0_writeSum, Cond.code yX0_writeSum cX0_writeSum 4 none, Cond.methodLink RX0 42 yX0_sumOf, Cond.instanceMethod yX0_sumOf, Cond.selects RX0 yX0_sumOf yX0_sumOf, Cond.code yX0_sumOf cX0_sumOf 5 (some .int), Cond.constant RX0 53 (-2048144789), Cond.methodLink RX0 50 yX0_read, Cond.instanceMethod yX0_read]
def wsL_law_r4 : List Cond := [Cond.selects RX0 yX0_read yX0_read, Cond.code yX0_read cX0_read 3 (some .int), Cond.methodLink RX0 46 yX0_write, Cond.methodLink RX1 42 yX0_beginChange, Cond.instanceMethod yX0_beginChange, Cond.selects RX0 yX0_beginChange yX0_beginChange, Cond.code yX0_beginChange cX0_beginChange 1 none, Cond.methodLink RL 26 yX2_init, Cond.instanceMethod yX2_init, Cond.code yX2_init cX2_init 2 none, Cond.methodLink RX2 1 objectInit, Cond.fieldLink RX2 7 "PuzzleBookModel" "store" "[I", Cond.fieldLink RX2 13 "PuzzleBookModel" "block" "[I", Cond.fieldLink RX2 16 "PuzzleBookModel" "fed" "[I", Cond.fieldLink RX2 19 "PuzzleBookModel" "where" "[I", Cond.fieldLink RX2 22 "PuzzleBookModel" "before" "[I", Cond.fieldLink RX2 25 "PuzzleBookModel" "blocks" "I", Cond.fieldLink RX2 29 "PuzzleBookModel" "turn" "I", Cond.fieldLink RX2 32 "PuzzleBookModel" "open" "Z", Cond.fieldLink RX2 43 "PuzzleBookModel" "written" "I", Cond.methodLink RX2 36 yX2_writeRoot, Cond.instanceMethod yX2_writeRoot, Cond.selects RX2 yX2_writeRoot yX2_writeRoot, Cond.code yX2_writeRoot cX2_writeRoot 6 none]
def wsL_law_r5 : List Cond := [Cond.fieldLink RX2 54 "PuzzleBookModel" "entries" "I", Cond.methodLink RX2 40 yX2_write, Cond.instanceMethod yX2_write, Cond.selects RX2 yX2_write yX2_write, Cond.code yX2_write cX2_write 3 none, Cond.methodLink RX2 57 yX2_writeSum, Cond.instanceMethod yX2_writeSum, Cond.selects RX2 yX2_writeSum yX2_writeSum, Cond.code yX2_writeSum cX2_writeSum 4 none, Cond.methodLink RX2 50 yX2_sumOf, Cond.instanceMethod yX2_sumOf, Cond.selects RX2 yX2_sumOf yX2_sumOf, Cond.code yX2_sumOf cX2_sumOf 4 (some .int), Cond.constant RX2 49 (-2048144789), Cond.methodLink RL 27 yX1_feed, Cond.instanceMethod yX1_feed, Cond.selects RX1 yX1_feed yX1_feed, Cond.code yX1_feed cX1_feed 2 (some .boolean), Cond.methodLink RL 31 yX2_feed, Cond.instanceMethod yX2_feed, Cond.selects RX2 yX2_feed yX2_feed, Cond.code yX2_feed cX2_feed 2 (some .boolean), Cond.fieldLink RX2 46 "PuzzleBookModel" "thrown" "I", Cond.fieldLink RX2 61 "PuzzleBookModel" "fedLong" "I"]
def wsL_law_r6 : List Cond := [Cond.methodLink RL 32 yX1_put, Cond.instanceMethod yX1_put, Cond.selects RX1 yX1_put yX1_put, Cond.code yX1_put cX1_put 4 (some .int), Cond.constant RX1 49 (65535), Cond.methodLink RX1 50 yX1_firstEntryWithFedRow, Cond.instanceMethod yX1_firstEntryWithFedRow, Cond.selects RX1 yX1_firstEntryWithFedRow yX1_firstEntryWithFedRow, Cond.code yX1_firstEntryWithFedRow cX1_firstEntryWithFedRow 2 (some .int), Cond.methodLink RX1 128 yX1_hasFedRow, Cond.instanceMethod yX1_hasFedRow, Cond.selects RX1 yX1_hasFedRow yX1_hasFedRow, Cond.code yX1_hasFedRow cX1_hasFedRow 3 (some .boolean), Cond.methodLink RX1 82 yX1_lengthOf, Cond.instanceMethod yX1_lengthOf, Cond.selects RX1 yX1_lengthOf yX1_lengthOf, Cond.code yX1_lengthOf cX1_lengthOf 2 (some .int), Cond.methodLink RX1 117 yX0_read, Cond.methodLink RX1 71 yX1_rowByte, Cond.instanceMethod yX1_rowByte, Cond.selects RX1 yX1_rowByte yX1_rowByte, Cond.code yX1_rowByte cX1_rowByte 4 (some .int), Cond.methodLink RX1 123 Lib.Math.min.name, Cond.methodLink RX1 131 yX1_fedByte]
def wsL_law_r7 : List Cond := [Cond.instanceMethod yX1_fedByte, Cond.selects RX1 yX1_fedByte yX1_fedByte, Cond.code yX1_fedByte cX1_fedByte 2 (some .int), Cond.methodLink RX1 54 yX1_leastFreeBlock, Cond.instanceMethod yX1_leastFreeBlock, Cond.selects RX1 yX1_leastFreeBlock yX1_leastFreeBlock, Cond.code yX1_leastFreeBlock cX1_leastFreeBlock 2 (some .int), Cond.methodLink RX1 120 yX0_blockCount, Cond.instanceMethod yX0_blockCount, Cond.selects RX0 yX0_blockCount yX0_blockCount, Cond.code yX0_blockCount cX0_blockCount 1 (some .int), Cond.methodLink RX1 134 yX1_isTaken, Cond.instanceMethod yX1_isTaken, Cond.selects RX1 yX1_isTaken yX1_isTaken, Cond.code yX1_isTaken cX1_isTaken 3 (some .boolean), Cond.methodLink RX1 57 yX1_writeEntryBlock, Cond.instanceMethod yX1_writeEntryBlock, Cond.selects RX1 yX1_writeEntryBlock yX1_writeEntryBlock, Cond.code yX1_writeEntryBlock cX1_writeEntryBlock 4 none, Cond.methodLink RX1 61 yX1_addEntryBlock, Cond.instanceMethod yX1_addEntryBlock, Cond.selects RX1 yX1_addEntryBlock yX1_addEntryBlock, Cond.code yX1_addEntryBlock cX1_addEntryBlock 2 none, Cond.methodLink RX1 64 yX1_writeOtherRootAndTurn]
def wsL_law_r8 : List Cond := [Cond.instanceMethod yX1_writeOtherRootAndTurn, Cond.selects RX1 yX1_writeOtherRootAndTurn yX1_writeOtherRootAndTurn, Cond.code yX1_writeOtherRootAndTurn cX1_writeOtherRootAndTurn 2 none, Cond.methodLink RL 36 yX2_put, Cond.instanceMethod yX2_put, Cond.selects RX2 yX2_put yX2_put, Cond.code yX2_put cX2_put 3 (some .int), Cond.constant RX2 71 (65535), Cond.methodLink RX2 72 yX2_hasFed, Cond.instanceMethod yX2_hasFed, Cond.selects RX2 yX2_hasFed yX2_hasFed, Cond.code yX2_hasFed cX2_hasFed 3 (some .boolean), Cond.methodLink RX2 68 yX2_longOf, Cond.instanceMethod yX2_longOf, Cond.selects RX2 yX2_longOf yX2_longOf, Cond.code yX2_longOf cX2_longOf 2 (some .int), Cond.methodLink RX2 75 yX2_leastFree, Cond.instanceMethod yX2_leastFree, Cond.selects RX2 yX2_leastFree yX2_leastFree, Cond.code yX2_leastFree cX2_leastFree 2 (some .int), Cond.methodLink RX2 64 yX2_isUsed, Cond.instanceMethod yX2_isUsed, Cond.selects RX2 yX2_isUsed yX2_isUsed, Cond.code yX2_isUsed cX2_isUsed 3 (some .boolean)]
def wsL_law_r9 : List Cond := [Cond.methodLink RX2 79 yX2_writeEntry, Cond.instanceMethod yX2_writeEntry, Cond.selects RX2 yX2_writeEntry yX2_writeEntry, Cond.code yX2_writeEntry cX2_writeEntry 4 none, Cond.methodLink RX2 82 yX2_turnTo, Cond.instanceMethod yX2_turnTo, Cond.selects RX2 yX2_turnTo yX2_turnTo, Cond.code yX2_turnTo cX2_turnTo 2 none, Cond.methodLink RL 37 yX1_find, Cond.instanceMethod yX1_find, Cond.selects RX1 yX1_find yX1_find, Cond.code yX1_find cX1_find 4 (some .int), Cond.methodLink RX1 67 yX1_nameOf, Cond.instanceMethod yX1_nameOf, Cond.selects RX1 yX1_nameOf yX1_nameOf, Cond.code yX1_nameOf cX1_nameOf 3 (some .int), Cond.methodLink RL 40 yX2_find, Cond.instanceMethod yX2_find, Cond.selects RX2 yX2_find yX2_find, Cond.code yX2_find cX2_find 4 (some .int), Cond.methodLink RX2 85 yX2_nameOf, Cond.instanceMethod yX2_nameOf, Cond.selects RX2 yX2_nameOf yX2_nameOf, Cond.code yX2_nameOf cX2_nameOf 2 (some .int)]
def wsL_law_r10 : List Cond := [Cond.methodLink RL 41 yX1_entry, Cond.instanceMethod yX1_entry, Cond.selects RX1 yX1_entry yX1_entry, Cond.code yX1_entry cX1_entry 3 (some .int), Cond.methodLink RX1 75 yX1_isEntry, Cond.instanceMethod yX1_isEntry, Cond.selects RX1 yX1_isEntry yX1_isEntry, Cond.code yX1_isEntry cX1_isEntry 2 (some .boolean), Cond.methodLink RL 44 yX2_entry, Cond.instanceMethod yX2_entry, Cond.selects RX2 yX2_entry yX2_entry, Cond.code yX2_entry cX2_entry 3 (some .int), Cond.methodLink RL 45 yX1_drop, Cond.instanceMethod yX1_drop, Cond.selects RX1 yX1_drop yX1_drop, Cond.code yX1_drop cX1_drop 2 (some .boolean), Cond.methodLink RX1 85 yX1_removeEntryBlock, Cond.instanceMethod yX1_removeEntryBlock, Cond.selects RX1 yX1_removeEntryBlock yX1_removeEntryBlock, Cond.code yX1_removeEntryBlock cX1_removeEntryBlock 3 none, Cond.methodLink RL 48 yX2_drop, Cond.instanceMethod yX2_drop, Cond.selects RX2 yX2_drop yX2_drop, Cond.code yX2_drop cX2_drop 3 (some .boolean)]
def wsL_law_r11 : List Cond := [Cond.methodLink RL 49 yX1_crash, Cond.instanceMethod yX1_crash, Cond.selects RX1 yX1_crash yX1_crash, Cond.code yX1_crash cX1_crash 3 (some .boolean), Cond.methodLink RX1 88 yX0_writtenBytes, Cond.instanceMethod yX0_writtenBytes, Cond.selects RX0 yX0_writtenBytes yX0_writtenBytes, Cond.code yX0_writtenBytes cX0_writtenBytes 1 (some .int), Cond.methodLink RX1 91 yX0_undoAllBut, Cond.instanceMethod yX0_undoAllBut, Cond.selects RX0 yX0_undoAllBut yX0_undoAllBut, Cond.code yX0_undoAllBut cX0_undoAllBut 4 none, Cond.methodLink RL 52 yX2_crash, Cond.instanceMethod yX2_crash, Cond.selects RX2 yX2_crash yX2_crash, Cond.code yX2_crash cX2_crash 3 (some .boolean), Cond.methodLink RL 53 yX1_reopen, Cond.instanceMethod yX1_reopen, Cond.selects RX1 yX1_reopen yX1_reopen, Cond.code yX1_reopen cX1_reopen 2 (some .int), Cond.methodLink RX1 94 yX1_readFromStore, Cond.instanceMethod yX1_readFromStore, Cond.selects RX1 yX1_readFromStore yX1_readFromStore, Cond.code yX1_readFromStore cX1_readFromStore 1 (some .int)]
def wsL_law_r12 : List Cond := [Cond.methodLink RX1 140 yX1_readRootBlock, Cond.instanceMethod yX1_readRootBlock, Cond.selects RX1 yX1_readRootBlock yX1_readRootBlock, Cond.code yX1_readRootBlock cX1_readRootBlock 5 (some .boolean), Cond.methodLink RX1 104 yX0_hasRightSum, Cond.instanceMethod yX0_hasRightSum, Cond.selects RX0 yX0_hasRightSum yX0_hasRightSum, Cond.code yX0_hasRightSum cX0_hasRightSum 4 (some .boolean), Cond.methodLink RX1 143 yX1_leastWrongEntryBlock, Cond.instanceMethod yX1_leastWrongEntryBlock, Cond.selects RX1 yX1_leastWrongEntryBlock yX1_leastWrongEntryBlock, Cond.code yX1_leastWrongEntryBlock cX1_leastWrongEntryBlock 5 (some .int), Cond.methodLink RX1 107 yX1_lesserBlock, Cond.static yX1_lesserBlock, Cond.code yX1_lesserBlock cX1_lesserBlock 2 (some .int), Cond.methodLink RL 57 yX2_reopen, Cond.instanceMethod yX2_reopen, Cond.selects RX2 yX2_reopen yX2_reopen, Cond.code yX2_reopen cX2_reopen 6 (some .int), Cond.methodLink RX2 91 yX2_rootIsRight, Cond.instanceMethod yX2_rootIsRight, Cond.selects RX2 yX2_rootIsRight yX2_rootIsRight, Cond.code yX2_rootIsRight cX2_rootIsRight 6 (some .boolean), Cond.methodLink RX2 88 yX2_isRight]
def wsL_law_r13 : List Cond := [Cond.instanceMethod yX2_isRight, Cond.selects RX2 yX2_isRight yX2_isRight, Cond.code yX2_isRight cX2_isRight 4 (some .boolean), Cond.methodLink RX2 94 yX2_entryIsRight, Cond.instanceMethod yX2_entryIsRight, Cond.selects RX2 yX2_entryIsRight yX2_entryIsRight, Cond.code yX2_entryIsRight cX2_entryIsRight 3 (some .boolean), Cond.methodLink RL 58 yX1_poke, Cond.instanceMethod yX1_poke, Cond.selects RX1 yX1_poke yX1_poke, Cond.code yX1_poke cX1_poke 4 (some .boolean), Cond.methodLink RX1 97 yX0_has, Cond.methodLink RX1 101 yX0_alter, Cond.instanceMethod yX0_alter, Cond.selects RX0 yX0_alter yX0_alter, Cond.code yX0_alter cX0_alter 5 none, Cond.methodLink RL 62 yX2_poke, Cond.instanceMethod yX2_poke, Cond.selects RX2 yX2_poke yX2_poke, Cond.code yX2_poke cX2_poke 4 (some .boolean), Cond.methodLink RX2 97 yX2_isByte, Cond.instanceMethod yX2_isByte, Cond.selects RX2 yX2_isByte yX2_isByte, Cond.code yX2_isByte cX2_isByte 3 (some .boolean)]
def wsL_law_r14 : List Cond := [Cond.methodLink RL 63 yX1_badAt, Cond.instanceMethod yX1_badAt, Cond.selects RX1 yX1_badAt yX1_badAt, Cond.code yX1_badAt cX1_badAt 4 (some .int), Cond.methodLink RL 66 yX2_badAt, Cond.instanceMethod yX2_badAt, Cond.selects RX2 yX2_badAt yX2_badAt, Cond.code yX2_badAt cX2_badAt 2 (some .int), Cond.methodLink RL 67 yL_byteAt, Cond.static yL_byteAt, Cond.codeWith yL_byteAt cL_byteAt 5 (some .int) [(0, 10, 13, 13)], Cond.methodLink RL 7 yX1_byteAt, Cond.instanceMethod yX1_byteAt, Cond.selects RX1 yX1_byteAt yX1_byteAt, Cond.code yX1_byteAt cX1_byteAt 3 (some .int), Cond.classLink RX1 110 RJx00060, Cond.instantiable RJx00060 6, Cond.initialized RJx00060, Cond.methodLink RL 70 yX2_byteAt, Cond.instanceMethod yX2_byteAt, Cond.selects RX2 yX2_byteAt yX2_byteAt, Cond.code yX2_byteAt cX2_byteAt 3 (some .int), Cond.methodLink RL 71 yX2_thrown, Cond.instanceMethod yX2_thrown]
def wsL_law_r15 : List Cond := [Cond.selects RX2 yX2_thrown yX2_thrown, Cond.code yX2_thrown cX2_thrown 1 (some .int), Cond.methodLink RL 74 yX1_free, Cond.instanceMethod yX1_free, Cond.selects RX1 yX1_free yX1_free, Cond.code yX1_free cX1_free 1 (some .int), Cond.methodLink RL 77 yX2_free, Cond.instanceMethod yX2_free, Cond.selects RX2 yX2_free yX2_free, Cond.code yX2_free cX2_free 1 (some .int), Cond.methodLink RL 78 yX1_root, Cond.instanceMethod yX1_root, Cond.selects RX1 yX1_root yX1_root, Cond.code yX1_root cX1_root 1 (some .int), Cond.methodLink RL 81 yX2_root, Cond.instanceMethod yX2_root, Cond.selects RX2 yX2_root yX2_root, Cond.code yX2_root cX2_root 1 (some .int)]
def wsL_law : List Cond := (wsL_law_r1 ++ (wsL_law_r2 ++ (wsL_law_r3 ++ (wsL_law_r4 ++ (wsL_law_r5 ++ (wsL_law_r6 ++ (wsL_law_r7 ++ (wsL_law_r8 ++ (wsL_law_r9 ++ (wsL_law_r10 ++ (wsL_law_r11 ++ (wsL_law_r12 ++ (wsL_law_r13 ++ (wsL_law_r14 ++ wsL_law_r15)))))))))))))) ++ wsX10 ++ wsX20 ++ wsX00 ++ wsJx000600 ++ ([] : List Cond)
set_option maxRecDepth 20000 in
theorem wsL_law_in : ∀ w ∈ wsL_law, w ∈ lw_tbl := fun w h => (goodIn_p wsL_law [276, 49, 52, 57, 61, 64, 86, 90, 94, 98, 102, 106, 110, 116, 359, 364, 368, 372, 376, 142, 422, 146, 151, 155, 159, 164, 169, 173, 177, 181, 185, 189, 193, 426, 431, 435, 439, 443, 447, 451, 197, 201, 459, 463, 205, 209, 467, 213, 217, 455, 221, 225, 229, 471, 233, 237, 241, 245, 249, 252, 475, 479, 483, 487, 256, 261, 491, 495, 265, 499, 284, 503, 418, 269, 507, 273, 511] (by decide +kernel) (by decide +kernel) w h).1
theorem inlX0 : ∀ w ∈ wsX00, w ∈ wsL_law := fun _ h => List.mem_append_left _ (List.mem_append_left _ (List.mem_append_right _ h))
theorem inX0 : ∀ w ∈ wsX00, w ∈ lw_tbl := fun w h => wsL_law_in w (inlX0 w h)
theorem inlX1 : ∀ w ∈ wsX10, w ∈ wsL_law := fun _ h => List.mem_append_left _ (List.mem_append_left _ (List.mem_append_left _ (List.mem_append_left _ (List.mem_append_right _ h))))
theorem inX1 : ∀ w ∈ wsX10, w ∈ lw_tbl := fun w h => wsL_law_in w (inlX1 w h)
theorem inlX2 : ∀ w ∈ wsX20, w ∈ wsL_law := fun _ h => List.mem_append_left _ (List.mem_append_left _ (List.mem_append_left _ (List.mem_append_right _ h)))
theorem inX2 : ∀ w ∈ wsX20, w ∈ lw_tbl := fun w h => wsL_law_in w (inlX2 w h)
theorem inlJx00060 : ∀ w ∈ wsJx000600, w ∈ wsL_law := fun _ h => List.mem_append_left _ (List.mem_append_right _ h)
theorem inJx00060 : ∀ w ∈ wsJx000600, w ∈ lw_tbl := fun w h => wsL_law_in w (inlJx00060 w h)
theorem inJ9 : ∀ w ∈ wsJ90, w ∈ lw_tbl := by decide +kernel
theorem inJ0 : ∀ w ∈ wsJ00, w ∈ lw_tbl := by decide +kernel
theorem dX0_init_0 : decode cX0_init 0 = .ok (.aload_n 0, 1) := by decide +kernel
theorem dX0_init_1 : decode cX0_init 1 = .ok (.invokespecial 3, 3) := by decide +kernel
theorem dX0_init_4 : decode cX0_init 4 = .ok (.aload_n 0, 1) := by decide +kernel
theorem dX0_init_5 : decode cX0_init 5 = .ok (.sipush 129, 3) := by decide +kernel
theorem dX0_init_8 : decode cX0_init 8 = .ok (.newarray .int, 2) := by decide +kernel
theorem dX0_init_10 : decode cX0_init 10 = .ok (.putfield 9, 3) := by decide +kernel
theorem dX0_init_13 : decode cX0_init 13 = .ok (.aload_n 0, 1) := by decide +kernel
theorem dX0_init_14 : decode cX0_init 14 = .ok (.sipush 129, 3) := by decide +kernel
theorem dX0_init_17 : decode cX0_init 17 = .ok (.newarray .byte, 2) := by decide +kernel
theorem dX0_init_19 : decode cX0_init 19 = .ok (.putfield 15, 3) := by decide +kernel
theorem dX0_init_22 : decode cX0_init 22 = .ok (.aload_n 0, 1) := by decide +kernel
theorem dX0_init_23 : decode cX0_init 23 = .ok (.iconst 0, 1) := by decide +kernel
theorem dX0_init_24 : decode cX0_init 24 = .ok (.putfield 19, 3) := by decide +kernel
theorem dX0_init_27 : decode cX0_init 27 = .ok (.aload_n 0, 1) := by decide +kernel
theorem dX0_init_28 : decode cX0_init 28 = .ok (.iconst 4, 1) := by decide +kernel
theorem dX0_init_29 : decode cX0_init 29 = .ok (.bipush 64, 2) := by decide +kernel
theorem dX0_init_31 : decode cX0_init 31 = .ok (.iload_n 1, 1) := by decide +kernel
theorem dX0_init_32 : decode cX0_init 32 = .ok (.invokestatic 23, 3) := by decide +kernel
theorem dX0_init_35 : decode cX0_init 35 = .ok (.invokestatic 29, 3) := by decide +kernel
theorem dX0_init_38 : decode cX0_init 38 = .ok (.putfield 32, 3) := by decide +kernel
theorem dX0_init_41 : decode cX0_init 41 = .ok (.aload_n 0, 1) := by decide +kernel
theorem dX0_init_42 : decode cX0_init 42 = .ok (.aload_n 0, 1) := by decide +kernel
theorem dX0_init_43 : decode cX0_init 43 = .ok (.getfield 32, 3) := by decide +kernel
theorem dX0_init_46 : decode cX0_init 46 = .ok (.bipush 64, 2) := by decide +kernel
theorem dX0_init_48 : decode cX0_init 48 = .ok (.imul, 1) := by decide +kernel
theorem dX0_init_49 : decode cX0_init 49 = .ok (.newarray .byte, 2) := by decide +kernel
theorem dX0_init_51 : decode cX0_init 51 = .ok (.putfield 35, 3) := by decide +kernel
theorem dX0_init_54 : decode cX0_init 54 = .ok (.return_, 1) := by decide +kernel
theorem dX0_blockCount_0 : decode cX0_blockCount 0 = .ok (.aload_n 0, 1) := by decide +kernel
theorem dX0_blockCount_1 : decode cX0_blockCount 1 = .ok (.getfield 32, 3) := by decide +kernel
theorem dX0_blockCount_4 : decode cX0_blockCount 4 = .ok (.ireturn, 1) := by decide +kernel
theorem dX0_has_0 : decode cX0_has 0 = .ok (.iload_n 1, 1) := by decide +kernel
theorem dX0_has_1 : decode cX0_has 1 = .ok (.ifCond .lt 25, 3) := by decide +kernel
theorem dX0_has_4 : decode cX0_has 4 = .ok (.iload_n 1, 1) := by decide +kernel
theorem dX0_has_5 : decode cX0_has 5 = .ok (.aload_n 0, 1) := by decide +kernel
theorem dX0_has_6 : decode cX0_has 6 = .ok (.getfield 32, 3) := by decide +kernel
theorem dX0_has_9 : decode cX0_has 9 = .ok (.if_icmp .ge 17, 3) := by decide +kernel
theorem dX0_has_12 : decode cX0_has 12 = .ok (.iload_n 2, 1) := by decide +kernel
theorem dX0_has_13 : decode cX0_has 13 = .ok (.ifCond .lt 13, 3) := by decide +kernel
theorem dX0_has_16 : decode cX0_has 16 = .ok (.iload_n 2, 1) := by decide +kernel
theorem dX0_has_17 : decode cX0_has 17 = .ok (.bipush 64, 2) := by decide +kernel
theorem dX0_has_19 : decode cX0_has 19 = .ok (.if_icmp .ge 7, 3) := by decide +kernel
theorem dX0_has_22 : decode cX0_has 22 = .ok (.iconst 1, 1) := by decide +kernel
theorem dX0_has_23 : decode cX0_has 23 = .ok (.goto 4, 3) := by decide +kernel
theorem dX0_has_26 : decode cX0_has 26 = .ok (.iconst 0, 1) := by decide +kernel
theorem dX0_has_27 : decode cX0_has 27 = .ok (.ireturn, 1) := by decide +kernel
set_option maxRecDepth 20000 in
theorem ggX0_read_X0_has : GoodIn wsX0_read wsX0_has := goodIn_r _ [6, 7, 8, 9, 10, 11, 12] (by decide +kernel) (by decide +kernel)
set_option maxRecDepth 20000 in
theorem gX0_read_X0_has : GoodIn wsX0_read (wsV RX0 38 RX0 yX0_has wsX0_has) := goodIn_app (goodIn_of _ (by decide +kernel)) ggX0_read_X0_has
theorem dX0_read_0 : decode cX0_read 0 = .ok (.aload_n 0, 1) := by decide +kernel
theorem dX0_read_1 : decode cX0_read 1 = .ok (.iload_n 1, 1) := by decide +kernel
theorem dX0_read_2 : decode cX0_read 2 = .ok (.iload_n 2, 1) := by decide +kernel
theorem dX0_read_3 : decode cX0_read 3 = .ok (.invokevirtual 38, 3) := by decide +kernel
theorem dX0_read_6 : decode cX0_read 6 = .ok (.ifCond .eq 21, 3) := by decide +kernel
theorem dX0_read_9 : decode cX0_read 9 = .ok (.aload_n 0, 1) := by decide +kernel
theorem dX0_read_10 : decode cX0_read 10 = .ok (.getfield 35, 3) := by decide +kernel
theorem dX0_read_13 : decode cX0_read 13 = .ok (.iload_n 1, 1) := by decide +kernel
theorem dX0_read_14 : decode cX0_read 14 = .ok (.bipush 64, 2) := by decide +kernel
theorem dX0_read_16 : decode cX0_read 16 = .ok (.imul, 1) := by decide +kernel
theorem dX0_read_17 : decode cX0_read 17 = .ok (.iload_n 2, 1) := by decide +kernel
theorem dX0_read_18 : decode cX0_read 18 = .ok (.iadd, 1) := by decide +kernel
theorem dX0_read_19 : decode cX0_read 19 = .ok (.baload, 1) := by decide +kernel
theorem dX0_read_20 : decode cX0_read 20 = .ok (.sipush 255, 3) := by decide +kernel
theorem dX0_read_23 : decode cX0_read 23 = .ok (.iand, 1) := by decide +kernel
theorem dX0_read_24 : decode cX0_read 24 = .ok (.goto 4, 3) := by decide +kernel
theorem dX0_read_27 : decode cX0_read 27 = .ok (.iconst 0, 1) := by decide +kernel
theorem dX0_read_28 : decode cX0_read 28 = .ok (.ireturn, 1) := by decide +kernel
set_option maxRecDepth 20000 in
theorem ggX0_alter_X0_has : GoodIn wsX0_alter wsX0_has := goodIn_r _ [6, 7, 8, 9, 10, 11, 12] (by decide +kernel) (by decide +kernel)
set_option maxRecDepth 20000 in
theorem gX0_alter_X0_has : GoodIn wsX0_alter (wsV RX0 38 RX0 yX0_has wsX0_has) := goodIn_app (goodIn_of _ (by decide +kernel)) ggX0_alter_X0_has
theorem dX0_alter_0 : decode cX0_alter 0 = .ok (.aload_n 0, 1) := by decide +kernel
theorem dX0_alter_1 : decode cX0_alter 1 = .ok (.iload_n 1, 1) := by decide +kernel
theorem dX0_alter_2 : decode cX0_alter 2 = .ok (.iload_n 2, 1) := by decide +kernel
theorem dX0_alter_3 : decode cX0_alter 3 = .ok (.invokevirtual 38, 3) := by decide +kernel
theorem dX0_alter_6 : decode cX0_alter 6 = .ok (.ifCond .eq 28, 3) := by decide +kernel
theorem dX0_alter_9 : decode cX0_alter 9 = .ok (.iload_n 1, 1) := by decide +kernel
theorem dX0_alter_10 : decode cX0_alter 10 = .ok (.bipush 64, 2) := by decide +kernel
theorem dX0_alter_12 : decode cX0_alter 12 = .ok (.imul, 1) := by decide +kernel
theorem dX0_alter_13 : decode cX0_alter 13 = .ok (.iload_n 2, 1) := by decide +kernel
theorem dX0_alter_14 : decode cX0_alter 14 = .ok (.iadd, 1) := by decide +kernel
theorem dX0_alter_15 : decode cX0_alter 15 = .ok (.istore 4, 2) := by decide +kernel
theorem dX0_alter_17 : decode cX0_alter 17 = .ok (.aload_n 0, 1) := by decide +kernel
theorem dX0_alter_18 : decode cX0_alter 18 = .ok (.getfield 35, 3) := by decide +kernel
theorem dX0_alter_21 : decode cX0_alter 21 = .ok (.iload 4, 2) := by decide +kernel
theorem dX0_alter_23 : decode cX0_alter 23 = .ok (.aload_n 0, 1) := by decide +kernel
theorem dX0_alter_24 : decode cX0_alter 24 = .ok (.getfield 35, 3) := by decide +kernel
theorem dX0_alter_27 : decode cX0_alter 27 = .ok (.iload 4, 2) := by decide +kernel
theorem dX0_alter_29 : decode cX0_alter 29 = .ok (.baload, 1) := by decide +kernel
theorem dX0_alter_30 : decode cX0_alter 30 = .ok (.iload_n 3, 1) := by decide +kernel
theorem dX0_alter_31 : decode cX0_alter 31 = .ok (.ixor, 1) := by decide +kernel
theorem dX0_alter_32 : decode cX0_alter 32 = .ok (.i2b, 1) := by decide +kernel
theorem dX0_alter_33 : decode cX0_alter 33 = .ok (.bastore, 1) := by decide +kernel
theorem dX0_alter_34 : decode cX0_alter 34 = .ok (.return_, 1) := by decide +kernel
theorem dX0_beginChange_0 : decode cX0_beginChange 0 = .ok (.aload_n 0, 1) := by decide +kernel
theorem dX0_beginChange_1 : decode cX0_beginChange 1 = .ok (.iconst 0, 1) := by decide +kernel
theorem dX0_beginChange_2 : decode cX0_beginChange 2 = .ok (.putfield 19, 3) := by decide +kernel
theorem dX0_beginChange_5 : decode cX0_beginChange 5 = .ok (.return_, 1) := by decide +kernel
theorem dX0_writtenBytes_0 : decode cX0_writtenBytes 0 = .ok (.aload_n 0, 1) := by decide +kernel
theorem dX0_writtenBytes_1 : decode cX0_writtenBytes 1 = .ok (.getfield 19, 3) := by decide +kernel
theorem dX0_writtenBytes_4 : decode cX0_writtenBytes 4 = .ok (.ireturn, 1) := by decide +kernel
set_option maxRecDepth 20000 in
theorem ggX0_write_X0_has : GoodIn wsX0_write wsX0_has := goodIn_r _ [9, 10, 11, 12, 13, 14, 15] (by decide +kernel) (by decide +kernel)
set_option maxRecDepth 20000 in
theorem gX0_write_X0_has : GoodIn wsX0_write (wsV RX0 38 RX0 yX0_has wsX0_has) := goodIn_app (goodIn_of _ (by decide +kernel)) ggX0_write_X0_has
theorem dX0_write_0 : decode cX0_write 0 = .ok (.aload_n 0, 1) := by decide +kernel
theorem dX0_write_1 : decode cX0_write 1 = .ok (.iload_n 1, 1) := by decide +kernel
theorem dX0_write_2 : decode cX0_write 2 = .ok (.iload_n 2, 1) := by decide +kernel
theorem dX0_write_3 : decode cX0_write 3 = .ok (.invokevirtual 38, 3) := by decide +kernel
theorem dX0_write_6 : decode cX0_write 6 = .ok (.ifCond .eq 20, 3) := by decide +kernel
theorem dX0_write_9 : decode cX0_write 9 = .ok (.aload_n 0, 1) := by decide +kernel
theorem dX0_write_10 : decode cX0_write 10 = .ok (.getfield 19, 3) := by decide +kernel
theorem dX0_write_13 : decode cX0_write 13 = .ok (.ifCond .lt 13, 3) := by decide +kernel
theorem dX0_write_16 : decode cX0_write 16 = .ok (.aload_n 0, 1) := by decide +kernel
theorem dX0_write_17 : decode cX0_write 17 = .ok (.getfield 19, 3) := by decide +kernel
theorem dX0_write_20 : decode cX0_write 20 = .ok (.sipush 129, 3) := by decide +kernel
theorem dX0_write_23 : decode cX0_write 23 = .ok (.if_icmp .lt 4, 3) := by decide +kernel
theorem dX0_write_26 : decode cX0_write 26 = .ok (.return_, 1) := by decide +kernel
theorem dX0_write_27 : decode cX0_write 27 = .ok (.iload_n 1, 1) := by decide +kernel
theorem dX0_write_28 : decode cX0_write 28 = .ok (.bipush 64, 2) := by decide +kernel
theorem dX0_write_30 : decode cX0_write 30 = .ok (.imul, 1) := by decide +kernel
theorem dX0_write_31 : decode cX0_write 31 = .ok (.iload_n 2, 1) := by decide +kernel
theorem dX0_write_32 : decode cX0_write 32 = .ok (.iadd, 1) := by decide +kernel
theorem dX0_write_33 : decode cX0_write 33 = .ok (.istore 4, 2) := by decide +kernel
theorem dX0_write_35 : decode cX0_write 35 = .ok (.aload_n 0, 1) := by decide +kernel
theorem dX0_write_36 : decode cX0_write 36 = .ok (.getfield 9, 3) := by decide +kernel
theorem dX0_write_39 : decode cX0_write 39 = .ok (.aload_n 0, 1) := by decide +kernel
theorem dX0_write_40 : decode cX0_write 40 = .ok (.getfield 19, 3) := by decide +kernel
theorem dX0_write_43 : decode cX0_write 43 = .ok (.iload 4, 2) := by decide +kernel
theorem dX0_write_45 : decode cX0_write 45 = .ok (.iastore, 1) := by decide +kernel
theorem dX0_write_46 : decode cX0_write 46 = .ok (.aload_n 0, 1) := by decide +kernel
theorem dX0_write_47 : decode cX0_write 47 = .ok (.getfield 15, 3) := by decide +kernel
theorem dX0_write_50 : decode cX0_write 50 = .ok (.aload_n 0, 1) := by decide +kernel
theorem dX0_write_51 : decode cX0_write 51 = .ok (.getfield 19, 3) := by decide +kernel
theorem dX0_write_54 : decode cX0_write 54 = .ok (.aload_n 0, 1) := by decide +kernel
theorem dX0_write_55 : decode cX0_write 55 = .ok (.getfield 35, 3) := by decide +kernel
theorem dX0_write_58 : decode cX0_write 58 = .ok (.iload 4, 2) := by decide +kernel
theorem dX0_write_60 : decode cX0_write 60 = .ok (.baload, 1) := by decide +kernel
theorem dX0_write_61 : decode cX0_write 61 = .ok (.bastore, 1) := by decide +kernel
theorem dX0_write_62 : decode cX0_write 62 = .ok (.aload_n 0, 1) := by decide +kernel
theorem dX0_write_63 : decode cX0_write 63 = .ok (.dup, 1) := by decide +kernel
theorem dX0_write_64 : decode cX0_write 64 = .ok (.getfield 19, 3) := by decide +kernel
theorem dX0_write_67 : decode cX0_write 67 = .ok (.iconst 1, 1) := by decide +kernel
theorem dX0_write_68 : decode cX0_write 68 = .ok (.iadd, 1) := by decide +kernel
theorem dX0_write_69 : decode cX0_write 69 = .ok (.putfield 19, 3) := by decide +kernel
theorem dX0_write_72 : decode cX0_write 72 = .ok (.aload_n 0, 1) := by decide +kernel
theorem dX0_write_73 : decode cX0_write 73 = .ok (.getfield 35, 3) := by decide +kernel
theorem dX0_write_76 : decode cX0_write 76 = .ok (.iload 4, 2) := by decide +kernel
theorem dX0_write_78 : decode cX0_write 78 = .ok (.iload_n 3, 1) := by decide +kernel
theorem dX0_write_79 : decode cX0_write 79 = .ok (.i2b, 1) := by decide +kernel
theorem dX0_write_80 : decode cX0_write 80 = .ok (.bastore, 1) := by decide +kernel
theorem dX0_write_81 : decode cX0_write 81 = .ok (.return_, 1) := by decide +kernel
theorem dX0_undoAllBut_0 : decode cX0_undoAllBut 0 = .ok (.iconst 0, 1) := by decide +kernel
theorem dX0_undoAllBut_1 : decode cX0_undoAllBut 1 = .ok (.iload_n 1, 1) := by decide +kernel
theorem dX0_undoAllBut_2 : decode cX0_undoAllBut 2 = .ok (.invokestatic 29, 3) := by decide +kernel
theorem dX0_undoAllBut_5 : decode cX0_undoAllBut 5 = .ok (.istore_n 2, 1) := by decide +kernel
theorem dX0_undoAllBut_6 : decode cX0_undoAllBut 6 = .ok (.iload_n 2, 1) := by decide +kernel
theorem dX0_undoAllBut_7 : decode cX0_undoAllBut 7 = .ok (.aload_n 0, 1) := by decide +kernel
theorem dX0_undoAllBut_8 : decode cX0_undoAllBut 8 = .ok (.getfield 19, 3) := by decide +kernel
theorem dX0_undoAllBut_11 : decode cX0_undoAllBut 11 = .ok (.if_icmp .ge 48, 3) := by decide +kernel
theorem dX0_undoAllBut_14 : decode cX0_undoAllBut 14 = .ok (.iload_n 2, 1) := by decide +kernel
theorem dX0_undoAllBut_15 : decode cX0_undoAllBut 15 = .ok (.sipush 129, 3) := by decide +kernel
theorem dX0_undoAllBut_18 : decode cX0_undoAllBut 18 = .ok (.if_icmp .ge 41, 3) := by decide +kernel
theorem dX0_undoAllBut_21 : decode cX0_undoAllBut 21 = .ok (.aload_n 0, 1) := by decide +kernel
theorem dX0_undoAllBut_22 : decode cX0_undoAllBut 22 = .ok (.getfield 9, 3) := by decide +kernel
theorem dX0_undoAllBut_25 : decode cX0_undoAllBut 25 = .ok (.iload_n 2, 1) := by decide +kernel
theorem dX0_undoAllBut_26 : decode cX0_undoAllBut 26 = .ok (.iaload, 1) := by decide +kernel
theorem dX0_undoAllBut_27 : decode cX0_undoAllBut 27 = .ok (.istore_n 3, 1) := by decide +kernel
theorem dX0_undoAllBut_28 : decode cX0_undoAllBut 28 = .ok (.iload_n 3, 1) := by decide +kernel
theorem dX0_undoAllBut_29 : decode cX0_undoAllBut 29 = .ok (.ifCond .lt 24, 3) := by decide +kernel
theorem dX0_undoAllBut_32 : decode cX0_undoAllBut 32 = .ok (.iload_n 3, 1) := by decide +kernel
theorem dX0_undoAllBut_33 : decode cX0_undoAllBut 33 = .ok (.aload_n 0, 1) := by decide +kernel
theorem dX0_undoAllBut_34 : decode cX0_undoAllBut 34 = .ok (.getfield 35, 3) := by decide +kernel
theorem dX0_undoAllBut_37 : decode cX0_undoAllBut 37 = .ok (.arraylength, 1) := by decide +kernel
theorem dX0_undoAllBut_38 : decode cX0_undoAllBut 38 = .ok (.if_icmp .ge 15, 3) := by decide +kernel
theorem dX0_undoAllBut_41 : decode cX0_undoAllBut 41 = .ok (.aload_n 0, 1) := by decide +kernel
theorem dX0_undoAllBut_42 : decode cX0_undoAllBut 42 = .ok (.getfield 35, 3) := by decide +kernel
theorem dX0_undoAllBut_45 : decode cX0_undoAllBut 45 = .ok (.iload_n 3, 1) := by decide +kernel
theorem dX0_undoAllBut_46 : decode cX0_undoAllBut 46 = .ok (.aload_n 0, 1) := by decide +kernel
theorem dX0_undoAllBut_47 : decode cX0_undoAllBut 47 = .ok (.getfield 15, 3) := by decide +kernel
theorem dX0_undoAllBut_50 : decode cX0_undoAllBut 50 = .ok (.iload_n 2, 1) := by decide +kernel
theorem dX0_undoAllBut_51 : decode cX0_undoAllBut 51 = .ok (.baload, 1) := by decide +kernel
theorem dX0_undoAllBut_52 : decode cX0_undoAllBut 52 = .ok (.bastore, 1) := by decide +kernel
theorem dX0_undoAllBut_53 : decode cX0_undoAllBut 53 = .ok (.iinc 2 1, 3) := by decide +kernel
theorem dX0_undoAllBut_56 : decode cX0_undoAllBut 56 = .ok (.goto (-50), 3) := by decide +kernel
theorem dX0_undoAllBut_59 : decode cX0_undoAllBut 59 = .ok (.aload_n 0, 1) := by decide +kernel
theorem dX0_undoAllBut_60 : decode cX0_undoAllBut 60 = .ok (.iconst 0, 1) := by decide +kernel
theorem dX0_undoAllBut_61 : decode cX0_undoAllBut 61 = .ok (.putfield 19, 3) := by decide +kernel
theorem dX0_undoAllBut_64 : decode cX0_undoAllBut 64 = .ok (.return_, 1) := by decide +kernel
set_option maxRecDepth 20000 in
theorem ggX0_writeSum_X0_sumOf : GoodIn wsX0_writeSum wsX0_sumOf := goodIn_r _ [5, 6, 7, 8, 9, 4, 10, 11, 12, 13, 14, 15, 16, 24, 25, 26, 27, 28] (by decide +kernel) (by decide +kernel)
set_option maxRecDepth 20000 in
theorem gX0_writeSum_X0_sumOf : GoodIn wsX0_writeSum (wsV RX0 42 RX0 yX0_sumOf wsX0_sumOf) := goodIn_app (goodIn_of _ (by decide +kernel)) ggX0_writeSum_X0_sumOf
set_option maxRecDepth 20000 in
theorem ggX0_writeSum_X0_write : GoodIn wsX0_writeSum wsX0_write := goodIn_r _ [20, 21, 22, 23, 11, 12, 13, 14, 4, 15, 16, 24, 25, 26, 27, 28] (by decide +kernel) (by decide +kernel)
set_option maxRecDepth 20000 in
theorem gX0_writeSum_X0_write : GoodIn wsX0_writeSum (wsV RX0 46 RX0 yX0_write wsX0_write) := goodIn_app (goodIn_of _ (by decide +kernel)) ggX0_writeSum_X0_write
theorem dX0_writeSum_0 : decode cX0_writeSum 0 = .ok (.aload_n 0, 1) := by decide +kernel
theorem dX0_writeSum_1 : decode cX0_writeSum 1 = .ok (.iload_n 1, 1) := by decide +kernel
theorem dX0_writeSum_2 : decode cX0_writeSum 2 = .ok (.invokevirtual 42, 3) := by decide +kernel
theorem dX0_writeSum_5 : decode cX0_writeSum 5 = .ok (.istore_n 2, 1) := by decide +kernel
theorem dX0_writeSum_6 : decode cX0_writeSum 6 = .ok (.bipush 60, 2) := by decide +kernel
theorem dX0_writeSum_8 : decode cX0_writeSum 8 = .ok (.istore_n 3, 1) := by decide +kernel
theorem dX0_writeSum_9 : decode cX0_writeSum 9 = .ok (.iload_n 3, 1) := by decide +kernel
theorem dX0_writeSum_10 : decode cX0_writeSum 10 = .ok (.bipush 64, 2) := by decide +kernel
theorem dX0_writeSum_12 : decode cX0_writeSum 12 = .ok (.if_icmp .ge 24, 3) := by decide +kernel
theorem dX0_writeSum_15 : decode cX0_writeSum 15 = .ok (.aload_n 0, 1) := by decide +kernel
theorem dX0_writeSum_16 : decode cX0_writeSum 16 = .ok (.iload_n 1, 1) := by decide +kernel
theorem dX0_writeSum_17 : decode cX0_writeSum 17 = .ok (.iload_n 3, 1) := by decide +kernel
theorem dX0_writeSum_18 : decode cX0_writeSum 18 = .ok (.iload_n 2, 1) := by decide +kernel
theorem dX0_writeSum_19 : decode cX0_writeSum 19 = .ok (.bipush 8, 2) := by decide +kernel
theorem dX0_writeSum_21 : decode cX0_writeSum 21 = .ok (.iload_n 3, 1) := by decide +kernel
theorem dX0_writeSum_22 : decode cX0_writeSum 22 = .ok (.bipush 60, 2) := by decide +kernel
theorem dX0_writeSum_24 : decode cX0_writeSum 24 = .ok (.isub, 1) := by decide +kernel
theorem dX0_writeSum_25 : decode cX0_writeSum 25 = .ok (.imul, 1) := by decide +kernel
theorem dX0_writeSum_26 : decode cX0_writeSum 26 = .ok (.iushr, 1) := by decide +kernel
theorem dX0_writeSum_27 : decode cX0_writeSum 27 = .ok (.invokevirtual 46, 3) := by decide +kernel
theorem dX0_writeSum_30 : decode cX0_writeSum 30 = .ok (.iinc 3 1, 3) := by decide +kernel
theorem dX0_writeSum_33 : decode cX0_writeSum 33 = .ok (.goto (-24), 3) := by decide +kernel
theorem dX0_writeSum_36 : decode cX0_writeSum 36 = .ok (.return_, 1) := by decide +kernel
set_option maxRecDepth 20000 in
theorem ggX0_hasRightSum_X0_sumOf : GoodIn wsX0_hasRightSum wsX0_sumOf := goodIn_r _ [5, 6, 7, 8, 9, 4, 10, 11, 12, 13, 14, 15, 16, 17, 18, 19, 20, 21] (by decide +kernel) (by decide +kernel)
set_option maxRecDepth 20000 in
theorem gX0_hasRightSum_X0_sumOf : GoodIn wsX0_hasRightSum (wsV RX0 42 RX0 yX0_sumOf wsX0_sumOf) := goodIn_app (goodIn_of _ (by decide +kernel)) ggX0_hasRightSum_X0_sumOf
set_option maxRecDepth 20000 in
theorem ggX0_hasRightSum_X0_read : GoodIn wsX0_hasRightSum wsX0_read := goodIn_r _ [10, 11, 12, 13, 14, 4, 15, 16, 17, 18, 19, 20, 21] (by decide +kernel) (by decide +kernel)
set_option maxRecDepth 20000 in
theorem gX0_hasRightSum_X0_read : GoodIn wsX0_hasRightSum (wsV RX0 50 RX0 yX0_read wsX0_read) := goodIn_app (goodIn_of _ (by decide +kernel)) ggX0_hasRightSum_X0_read
theorem dX0_hasRightSum_0 : decode cX0_hasRightSum 0 = .ok (.aload_n 0, 1) := by decide +kernel
theorem dX0_hasRightSum_1 : decode cX0_hasRightSum 1 = .ok (.iload_n 1, 1) := by decide +kernel
theorem dX0_hasRightSum_2 : decode cX0_hasRightSum 2 = .ok (.invokevirtual 42, 3) := by decide +kernel
theorem dX0_hasRightSum_5 : decode cX0_hasRightSum 5 = .ok (.istore_n 2, 1) := by decide +kernel
theorem dX0_hasRightSum_6 : decode cX0_hasRightSum 6 = .ok (.bipush 60, 2) := by decide +kernel
theorem dX0_hasRightSum_8 : decode cX0_hasRightSum 8 = .ok (.istore_n 3, 1) := by decide +kernel
theorem dX0_hasRightSum_9 : decode cX0_hasRightSum 9 = .ok (.iload_n 3, 1) := by decide +kernel
theorem dX0_hasRightSum_10 : decode cX0_hasRightSum 10 = .ok (.bipush 64, 2) := by decide +kernel
theorem dX0_hasRightSum_12 : decode cX0_hasRightSum 12 = .ok (.if_icmp .ge 33, 3) := by decide +kernel
theorem dX0_hasRightSum_15 : decode cX0_hasRightSum 15 = .ok (.aload_n 0, 1) := by decide +kernel
theorem dX0_hasRightSum_16 : decode cX0_hasRightSum 16 = .ok (.iload_n 1, 1) := by decide +kernel
theorem dX0_hasRightSum_17 : decode cX0_hasRightSum 17 = .ok (.iload_n 3, 1) := by decide +kernel
theorem dX0_hasRightSum_18 : decode cX0_hasRightSum 18 = .ok (.invokevirtual 50, 3) := by decide +kernel
theorem dX0_hasRightSum_21 : decode cX0_hasRightSum 21 = .ok (.iload_n 2, 1) := by decide +kernel
theorem dX0_hasRightSum_22 : decode cX0_hasRightSum 22 = .ok (.bipush 8, 2) := by decide +kernel
theorem dX0_hasRightSum_24 : decode cX0_hasRightSum 24 = .ok (.iload_n 3, 1) := by decide +kernel
theorem dX0_hasRightSum_25 : decode cX0_hasRightSum 25 = .ok (.bipush 60, 2) := by decide +kernel
theorem dX0_hasRightSum_27 : decode cX0_hasRightSum 27 = .ok (.isub, 1) := by decide +kernel
theorem dX0_hasRightSum_28 : decode cX0_hasRightSum 28 = .ok (.imul, 1) := by decide +kernel
theorem dX0_hasRightSum_29 : decode cX0_hasRightSum 29 = .ok (.iushr, 1) := by decide +kernel
theorem dX0_hasRightSum_30 : decode cX0_hasRightSum 30 = .ok (.sipush 255, 3) := by decide +kernel
theorem dX0_hasRightSum_33 : decode cX0_hasRightSum 33 = .ok (.iand, 1) := by decide +kernel
theorem dX0_hasRightSum_34 : decode cX0_hasRightSum 34 = .ok (.if_icmp .eq 5, 3) := by decide +kernel
theorem dX0_hasRightSum_37 : decode cX0_hasRightSum 37 = .ok (.iconst 0, 1) := by decide +kernel
theorem dX0_hasRightSum_38 : decode cX0_hasRightSum 38 = .ok (.ireturn, 1) := by decide +kernel
theorem dX0_hasRightSum_39 : decode cX0_hasRightSum 39 = .ok (.iinc 3 1, 3) := by decide +kernel
theorem dX0_hasRightSum_42 : decode cX0_hasRightSum 42 = .ok (.goto (-33), 3) := by decide +kernel
theorem dX0_hasRightSum_45 : decode cX0_hasRightSum 45 = .ok (.iconst 1, 1) := by decide +kernel
theorem dX0_hasRightSum_46 : decode cX0_hasRightSum 46 = .ok (.ireturn, 1) := by decide +kernel
set_option maxRecDepth 20000 in
theorem ggX0_sumOf_X0_read : GoodIn wsX0_sumOf wsX0_read := goodIn_r _ [6, 7, 8, 9, 10, 5, 11, 12, 13, 14, 15, 16, 17] (by decide +kernel) (by decide +kernel)
set_option maxRecDepth 20000 in
theorem gX0_sumOf_X0_read : GoodIn wsX0_sumOf (wsV RX0 50 RX0 yX0_read wsX0_read) := goodIn_app (goodIn_of _ (by decide +kernel)) ggX0_sumOf_X0_read
theorem dX0_sumOf_0 : decode cX0_sumOf 0 = .ok (.iconst 1, 1) := by decide +kernel
theorem dX0_sumOf_1 : decode cX0_sumOf 1 = .ok (.istore_n 2, 1) := by decide +kernel
theorem dX0_sumOf_2 : decode cX0_sumOf 2 = .ok (.iconst 0, 1) := by decide +kernel
theorem dX0_sumOf_3 : decode cX0_sumOf 3 = .ok (.istore_n 3, 1) := by decide +kernel
theorem dX0_sumOf_4 : decode cX0_sumOf 4 = .ok (.iload_n 3, 1) := by decide +kernel
theorem dX0_sumOf_5 : decode cX0_sumOf 5 = .ok (.bipush 60, 2) := by decide +kernel
theorem dX0_sumOf_7 : decode cX0_sumOf 7 = .ok (.if_icmp .ge 34, 3) := by decide +kernel
theorem dX0_sumOf_10 : decode cX0_sumOf 10 = .ok (.iload_n 2, 1) := by decide +kernel
theorem dX0_sumOf_11 : decode cX0_sumOf 11 = .ok (.aload_n 0, 1) := by decide +kernel
theorem dX0_sumOf_12 : decode cX0_sumOf 12 = .ok (.iload_n 1, 1) := by decide +kernel
theorem dX0_sumOf_13 : decode cX0_sumOf 13 = .ok (.iload_n 3, 1) := by decide +kernel
theorem dX0_sumOf_14 : decode cX0_sumOf 14 = .ok (.invokevirtual 50, 3) := by decide +kernel
theorem dX0_sumOf_17 : decode cX0_sumOf 17 = .ok (.ixor, 1) := by decide +kernel
theorem dX0_sumOf_18 : decode cX0_sumOf 18 = .ok (.istore 4, 2) := by decide +kernel
theorem dX0_sumOf_20 : decode cX0_sumOf 20 = .ok (.iload 4, 2) := by decide +kernel
theorem dX0_sumOf_22 : decode cX0_sumOf 22 = .ok (.bipush 17, 2) := by decide +kernel
theorem dX0_sumOf_24 : decode cX0_sumOf 24 = .ok (.ishl, 1) := by decide +kernel
theorem dX0_sumOf_25 : decode cX0_sumOf 25 = .ok (.iload 4, 2) := by decide +kernel
theorem dX0_sumOf_27 : decode cX0_sumOf 27 = .ok (.bipush 15, 2) := by decide +kernel
theorem dX0_sumOf_29 : decode cX0_sumOf 29 = .ok (.iushr, 1) := by decide +kernel
theorem dX0_sumOf_30 : decode cX0_sumOf 30 = .ok (.ior, 1) := by decide +kernel
theorem dX0_sumOf_31 : decode cX0_sumOf 31 = .ok (.ldc 53, 2) := by decide +kernel
theorem dX0_sumOf_33 : decode cX0_sumOf 33 = .ok (.imul, 1) := by decide +kernel
theorem dX0_sumOf_34 : decode cX0_sumOf 34 = .ok (.istore_n 2, 1) := by decide +kernel
theorem dX0_sumOf_35 : decode cX0_sumOf 35 = .ok (.iinc 3 1, 3) := by decide +kernel
theorem dX0_sumOf_38 : decode cX0_sumOf 38 = .ok (.goto (-34), 3) := by decide +kernel
theorem dX0_sumOf_41 : decode cX0_sumOf 41 = .ok (.iload_n 2, 1) := by decide +kernel
theorem dX0_sumOf_42 : decode cX0_sumOf 42 = .ok (.ireturn, 1) := by decide +kernel
set_option maxRecDepth 20000 in
theorem ggX1_init_X0_init : GoodIn wsX1_init wsX0_init := goodIn_r _ [17, 18, 2, 3, 4, 19, 20, 21, 22, 23, 24, 25, 26, 27, 28, 29, 30, 31, 74, 75, 76, 77, 78] (by decide +kernel) (by decide +kernel)
set_option maxRecDepth 20000 in
theorem gX1_init_X0_init : GoodIn wsX1_init (wsX0_init) := ggX1_init_X0_init
set_option maxRecDepth 20000 in
theorem ggX1_init_X1_writeRootBlock : GoodIn wsX1_init wsX1_writeRootBlock := goodIn_r _ [36, 12, 8, 37, 38, 39, 11, 40, 22, 19, 21, 31, 41, 42, 43, 44, 30, 45, 46, 47, 35, 48, 7, 49, 50, 51, 52, 53, 54, 55, 56, 57, 58, 59, 60, 61, 62, 67, 68, 69, 70, 71, 72, 73, 74, 75, 76, 77, 78] (by decide +kernel) (by decide +kernel)
set_option maxRecDepth 20000 in
theorem gX1_init_X1_writeRootBlock : GoodIn wsX1_init (wsV RX1 35 RX1 yX1_writeRootBlock wsX1_writeRootBlock) := goodIn_app (goodIn_of _ (by decide +kernel)) ggX1_init_X1_writeRootBlock
set_option maxRecDepth 20000 in
theorem ggX1_init_X0_write : GoodIn wsX1_init wsX0_write := goodIn_r _ [40, 22, 19, 21, 31, 41, 42, 43, 11, 44, 30, 74, 75, 76, 77, 78] (by decide +kernel) (by decide +kernel)
set_option maxRecDepth 20000 in
theorem gX1_init_X0_write : GoodIn wsX1_init (wsV RX1 38 RX0 yX0_write wsX0_write) := goodIn_app (goodIn_of _ (by decide +kernel)) ggX1_init_X0_write
set_option maxRecDepth 20000 in
theorem ggX1_init_X0_beginChange : GoodIn wsX1_init wsX0_beginChange := goodIn_r _ [66, 22, 74, 75, 76, 77, 78] (by decide +kernel) (by decide +kernel)
set_option maxRecDepth 20000 in
theorem gX1_init_X0_beginChange : GoodIn wsX1_init (wsV RX1 42 RX0 yX0_beginChange wsX0_beginChange) := goodIn_app (goodIn_of _ (by decide +kernel)) ggX1_init_X0_beginChange
theorem dX1_init_0 : decode cX1_init 0 = .ok (.aload_n 0, 1) := by decide +kernel
theorem dX1_init_1 : decode cX1_init 1 = .ok (.invokespecial 3, 3) := by decide +kernel
theorem dX1_init_4 : decode cX1_init 4 = .ok (.aload_n 0, 1) := by decide +kernel
theorem dX1_init_5 : decode cX1_init 5 = .ok (.bipush 48, 2) := by decide +kernel
theorem dX1_init_7 : decode cX1_init 7 = .ok (.newarray .int, 2) := by decide +kernel
theorem dX1_init_9 : decode cX1_init 9 = .ok (.putfield 9, 3) := by decide +kernel
theorem dX1_init_12 : decode cX1_init 12 = .ok (.aload_n 0, 1) := by decide +kernel
theorem dX1_init_13 : decode cX1_init 13 = .ok (.iconst 0, 1) := by decide +kernel
theorem dX1_init_14 : decode cX1_init 14 = .ok (.putfield 13, 3) := by decide +kernel
theorem dX1_init_17 : decode cX1_init 17 = .ok (.aload_n 0, 1) := by decide +kernel
theorem dX1_init_18 : decode cX1_init 18 = .ok (.bipush 40, 2) := by decide +kernel
theorem dX1_init_20 : decode cX1_init 20 = .ok (.newarray .int, 2) := by decide +kernel
theorem dX1_init_22 : decode cX1_init 22 = .ok (.putfield 17, 3) := by decide +kernel
theorem dX1_init_25 : decode cX1_init 25 = .ok (.aload_n 0, 1) := by decide +kernel
theorem dX1_init_26 : decode cX1_init 26 = .ok (.iconst 0, 1) := by decide +kernel
theorem dX1_init_27 : decode cX1_init 27 = .ok (.putfield 20, 3) := by decide +kernel
theorem dX1_init_30 : decode cX1_init 30 = .ok (.aload_n 0, 1) := by decide +kernel
theorem dX1_init_31 : decode cX1_init 31 = .ok (.new 23, 3) := by decide +kernel
theorem dX1_init_34 : decode cX1_init 34 = .ok (.dup, 1) := by decide +kernel
theorem dX1_init_35 : decode cX1_init 35 = .ok (.iload_n 1, 1) := by decide +kernel
theorem dX1_init_36 : decode cX1_init 36 = .ok (.invokespecial 25, 3) := by decide +kernel
theorem dX1_init_39 : decode cX1_init 39 = .ok (.putfield 28, 3) := by decide +kernel
theorem dX1_init_42 : decode cX1_init 42 = .ok (.aload_n 0, 1) := by decide +kernel
theorem dX1_init_43 : decode cX1_init 43 = .ok (.iconst 1, 1) := by decide +kernel
theorem dX1_init_44 : decode cX1_init 44 = .ok (.putfield 32, 3) := by decide +kernel
theorem dX1_init_47 : decode cX1_init 47 = .ok (.aload_n 0, 1) := by decide +kernel
theorem dX1_init_48 : decode cX1_init 48 = .ok (.iconst 1, 1) := by decide +kernel
theorem dX1_init_49 : decode cX1_init 49 = .ok (.invokevirtual 35, 3) := by decide +kernel
theorem dX1_init_52 : decode cX1_init 52 = .ok (.aload_n 0, 1) := by decide +kernel
theorem dX1_init_53 : decode cX1_init 53 = .ok (.getfield 28, 3) := by decide +kernel
theorem dX1_init_56 : decode cX1_init 56 = .ok (.iconst 0, 1) := by decide +kernel
theorem dX1_init_57 : decode cX1_init 57 = .ok (.iconst 0, 1) := by decide +kernel
theorem dX1_init_58 : decode cX1_init 58 = .ok (.iconst 1, 1) := by decide +kernel
theorem dX1_init_59 : decode cX1_init 59 = .ok (.invokevirtual 38, 3) := by decide +kernel
theorem dX1_init_62 : decode cX1_init 62 = .ok (.aload_n 0, 1) := by decide +kernel
theorem dX1_init_63 : decode cX1_init 63 = .ok (.getfield 28, 3) := by decide +kernel
theorem dX1_init_66 : decode cX1_init 66 = .ok (.invokevirtual 42, 3) := by decide +kernel
theorem dX1_init_69 : decode cX1_init 69 = .ok (.aload_n 0, 1) := by decide +kernel
theorem dX1_init_70 : decode cX1_init 70 = .ok (.iconst 1, 1) := by decide +kernel
theorem dX1_init_71 : decode cX1_init 71 = .ok (.putfield 45, 3) := by decide +kernel
theorem dX1_init_74 : decode cX1_init 74 = .ok (.return_, 1) := by decide +kernel
theorem dX1_feed_0 : decode cX1_feed 0 = .ok (.iload_n 1, 1) := by decide +kernel
theorem dX1_feed_1 : decode cX1_feed 1 = .ok (.ifCond .lt 29, 3) := by decide +kernel
theorem dX1_feed_4 : decode cX1_feed 4 = .ok (.iload_n 1, 1) := by decide +kernel
theorem dX1_feed_5 : decode cX1_feed 5 = .ok (.sipush 255, 3) := by decide +kernel
theorem dX1_feed_8 : decode cX1_feed 8 = .ok (.if_icmp .gt 22, 3) := by decide +kernel
theorem dX1_feed_11 : decode cX1_feed 11 = .ok (.aload_n 0, 1) := by decide +kernel
theorem dX1_feed_12 : decode cX1_feed 12 = .ok (.getfield 13, 3) := by decide +kernel
theorem dX1_feed_15 : decode cX1_feed 15 = .ok (.ifCond .lt 15, 3) := by decide +kernel
theorem dX1_feed_18 : decode cX1_feed 18 = .ok (.aload_n 0, 1) := by decide +kernel
theorem dX1_feed_19 : decode cX1_feed 19 = .ok (.getfield 13, 3) := by decide +kernel
theorem dX1_feed_22 : decode cX1_feed 22 = .ok (.aload_n 0, 1) := by decide +kernel
theorem dX1_feed_23 : decode cX1_feed 23 = .ok (.getfield 9, 3) := by decide +kernel
theorem dX1_feed_26 : decode cX1_feed 26 = .ok (.arraylength, 1) := by decide +kernel
theorem dX1_feed_27 : decode cX1_feed 27 = .ok (.if_icmp .lt 5, 3) := by decide +kernel
theorem dX1_feed_30 : decode cX1_feed 30 = .ok (.iconst 0, 1) := by decide +kernel
theorem dX1_feed_31 : decode cX1_feed 31 = .ok (.ireturn, 1) := by decide +kernel
theorem dX1_feed_32 : decode cX1_feed 32 = .ok (.aload_n 0, 1) := by decide +kernel
theorem dX1_feed_33 : decode cX1_feed 33 = .ok (.getfield 9, 3) := by decide +kernel
theorem dX1_feed_36 : decode cX1_feed 36 = .ok (.aload_n 0, 1) := by decide +kernel
theorem dX1_feed_37 : decode cX1_feed 37 = .ok (.getfield 13, 3) := by decide +kernel
theorem dX1_feed_40 : decode cX1_feed 40 = .ok (.iload_n 1, 1) := by decide +kernel
theorem dX1_feed_41 : decode cX1_feed 41 = .ok (.iastore, 1) := by decide +kernel
theorem dX1_feed_42 : decode cX1_feed 42 = .ok (.aload_n 0, 1) := by decide +kernel
theorem dX1_feed_43 : decode cX1_feed 43 = .ok (.dup, 1) := by decide +kernel
theorem dX1_feed_44 : decode cX1_feed 44 = .ok (.getfield 13, 3) := by decide +kernel
theorem dX1_feed_47 : decode cX1_feed 47 = .ok (.iconst 1, 1) := by decide +kernel
theorem dX1_feed_48 : decode cX1_feed 48 = .ok (.iadd, 1) := by decide +kernel
theorem dX1_feed_49 : decode cX1_feed 49 = .ok (.putfield 13, 3) := by decide +kernel
theorem dX1_feed_52 : decode cX1_feed 52 = .ok (.iconst 1, 1) := by decide +kernel
theorem dX1_feed_53 : decode cX1_feed 53 = .ok (.ireturn, 1) := by decide +kernel
set_option maxRecDepth 20000 in
theorem ggX1_put_X1_firstEntryWithFedRow : GoodIn wsX1_put wsX1_firstEntryWithFedRow := goodIn_r _ [10, 4, 11, 12, 13, 9, 14, 3, 15, 16, 17, 18, 5, 19, 20, 21, 22, 23, 24, 25, 26, 27, 28, 29, 30, 31, 32, 33, 34, 35, 36, 37, 38, 39, 40, 41, 42, 43, 44, 45, 46, 47, 99, 100, 101, 102, 103, 104, 105, 106, 107, 108, 109, 110] (by decide +kernel) (by decide +kernel)
set_option maxRecDepth 20000 in
theorem gX1_put_X1_firstEntryWithFedRow : GoodIn wsX1_put (wsV RX1 50 RX1 yX1_firstEntryWithFedRow wsX1_firstEntryWithFedRow) := goodIn_app (goodIn_of _ (by decide +kernel)) ggX1_put_X1_firstEntryWithFedRow
set_option maxRecDepth 20000 in
theorem ggX1_put_X1_leastFreeBlock : GoodIn wsX1_put wsX1_leastFreeBlock := goodIn_r _ [51, 5, 52, 53, 54, 27, 55, 34, 56, 57, 58, 9, 59, 4, 19, 20, 21, 22, 23, 99, 100, 101, 102, 103, 104, 105, 106, 107, 108, 109, 110] (by decide +kernel) (by decide +kernel)
set_option maxRecDepth 20000 in
theorem gX1_put_X1_leastFreeBlock : GoodIn wsX1_put (wsV RX1 54 RX1 yX1_leastFreeBlock wsX1_leastFreeBlock) := goodIn_app (goodIn_of _ (by decide +kernel)) ggX1_put_X1_leastFreeBlock
set_option maxRecDepth 20000 in
theorem ggX1_put_X0_beginChange : GoodIn wsX1_put wsX0_beginChange := goodIn_r _ [63, 64, 106, 107, 108, 109, 110] (by decide +kernel) (by decide +kernel)
set_option maxRecDepth 20000 in
theorem gX1_put_X0_beginChange : GoodIn wsX1_put (wsV RX1 42 RX0 yX0_beginChange wsX0_beginChange) := goodIn_app (goodIn_of _ (by decide +kernel)) ggX1_put_X0_beginChange
set_option maxRecDepth 20000 in
theorem ggX1_put_X1_writeEntryBlock : GoodIn wsX1_put wsX1_writeEntryBlock := goodIn_r _ [68, 5, 3, 69, 70, 71, 27, 72, 64, 73, 74, 29, 30, 31, 32, 33, 34, 43, 44, 45, 9, 46, 47, 75, 76, 77, 78, 79, 80, 81, 82, 83, 84, 25, 26, 28, 85, 99, 100, 101, 102, 103, 104, 105, 106, 107, 108, 109, 110] (by decide +kernel) (by decide +kernel)
set_option maxRecDepth 20000 in
theorem gX1_put_X1_writeEntryBlock : GoodIn wsX1_put (wsV RX1 57 RX1 yX1_writeEntryBlock wsX1_writeEntryBlock) := goodIn_app (goodIn_of _ (by decide +kernel)) ggX1_put_X1_writeEntryBlock
set_option maxRecDepth 20000 in
theorem ggX1_put_X1_addEntryBlock : GoodIn wsX1_put wsX1_addEntryBlock := goodIn_r _ [89, 4, 23, 99, 100, 101, 102, 103, 104, 105] (by decide +kernel) (by decide +kernel)
set_option maxRecDepth 20000 in
theorem gX1_put_X1_addEntryBlock : GoodIn wsX1_put (wsV RX1 61 RX1 yX1_addEntryBlock wsX1_addEntryBlock) := goodIn_app (goodIn_of _ (by decide +kernel)) ggX1_put_X1_addEntryBlock
set_option maxRecDepth 20000 in
theorem ggX1_put_X1_writeOtherRootAndTurn : GoodIn wsX1_put wsX1_writeOtherRootAndTurn := goodIn_r _ [93, 94, 5, 95, 96, 97, 9, 98, 4, 69, 70, 71, 27, 72, 64, 73, 74, 29, 30, 31, 32, 33, 34, 19, 20, 21, 22, 23, 75, 76, 77, 78, 79, 80, 81, 82, 83, 84, 25, 26, 28, 85, 99, 100, 101, 102, 103, 104, 105, 106, 107, 108, 109, 110] (by decide +kernel) (by decide +kernel)
set_option maxRecDepth 20000 in
theorem gX1_put_X1_writeOtherRootAndTurn : GoodIn wsX1_put (wsV RX1 64 RX1 yX1_writeOtherRootAndTurn wsX1_writeOtherRootAndTurn) := goodIn_app (goodIn_of _ (by decide +kernel)) ggX1_put_X1_writeOtherRootAndTurn
theorem dX1_put_0 : decode cX1_put 0 = .ok (.aload_n 0, 1) := by decide +kernel
theorem dX1_put_1 : decode cX1_put 1 = .ok (.getfield 45, 3) := by decide +kernel
theorem dX1_put_4 : decode cX1_put 4 = .ok (.ifCond .eq 20, 3) := by decide +kernel
theorem dX1_put_7 : decode cX1_put 7 = .ok (.iload_n 1, 1) := by decide +kernel
theorem dX1_put_8 : decode cX1_put 8 = .ok (.ifCond .lt 16, 3) := by decide +kernel
theorem dX1_put_11 : decode cX1_put 11 = .ok (.iload_n 1, 1) := by decide +kernel
theorem dX1_put_12 : decode cX1_put 12 = .ok (.ldc 49, 2) := by decide +kernel
theorem dX1_put_14 : decode cX1_put 14 = .ok (.if_icmp .gt 10, 3) := by decide +kernel
theorem dX1_put_17 : decode cX1_put 17 = .ok (.aload_n 0, 1) := by decide +kernel
theorem dX1_put_18 : decode cX1_put 18 = .ok (.getfield 13, 3) := by decide +kernel
theorem dX1_put_21 : decode cX1_put 21 = .ok (.ifCond .ne 5, 3) := by decide +kernel
theorem dX1_put_24 : decode cX1_put 24 = .ok (.iconst (-1), 1) := by decide +kernel
theorem dX1_put_25 : decode cX1_put 25 = .ok (.ireturn, 1) := by decide +kernel
theorem dX1_put_26 : decode cX1_put 26 = .ok (.aload_n 0, 1) := by decide +kernel
theorem dX1_put_27 : decode cX1_put 27 = .ok (.invokevirtual 50, 3) := by decide +kernel
theorem dX1_put_30 : decode cX1_put 30 = .ok (.istore_n 2, 1) := by decide +kernel
theorem dX1_put_31 : decode cX1_put 31 = .ok (.iload_n 2, 1) := by decide +kernel
theorem dX1_put_32 : decode cX1_put 32 = .ok (.iconst (-1), 1) := by decide +kernel
theorem dX1_put_33 : decode cX1_put 33 = .ok (.if_icmp .eq 10, 3) := by decide +kernel
theorem dX1_put_36 : decode cX1_put 36 = .ok (.aload_n 0, 1) := by decide +kernel
theorem dX1_put_37 : decode cX1_put 37 = .ok (.iconst 0, 1) := by decide +kernel
theorem dX1_put_38 : decode cX1_put 38 = .ok (.putfield 13, 3) := by decide +kernel
theorem dX1_put_41 : decode cX1_put 41 = .ok (.iload_n 2, 1) := by decide +kernel
theorem dX1_put_42 : decode cX1_put 42 = .ok (.ireturn, 1) := by decide +kernel
theorem dX1_put_43 : decode cX1_put 43 = .ok (.aload_n 0, 1) := by decide +kernel
theorem dX1_put_44 : decode cX1_put 44 = .ok (.invokevirtual 54, 3) := by decide +kernel
theorem dX1_put_47 : decode cX1_put 47 = .ok (.istore_n 3, 1) := by decide +kernel
theorem dX1_put_48 : decode cX1_put 48 = .ok (.iload_n 3, 1) := by decide +kernel
theorem dX1_put_49 : decode cX1_put 49 = .ok (.iconst (-1), 1) := by decide +kernel
theorem dX1_put_50 : decode cX1_put 50 = .ok (.if_icmp .eq 12, 3) := by decide +kernel
theorem dX1_put_53 : decode cX1_put 53 = .ok (.aload_n 0, 1) := by decide +kernel
theorem dX1_put_54 : decode cX1_put 54 = .ok (.getfield 20, 3) := by decide +kernel
theorem dX1_put_57 : decode cX1_put 57 = .ok (.bipush 40, 2) := by decide +kernel
theorem dX1_put_59 : decode cX1_put 59 = .ok (.if_icmp .lt 5, 3) := by decide +kernel
theorem dX1_put_62 : decode cX1_put 62 = .ok (.iconst (-1), 1) := by decide +kernel
theorem dX1_put_63 : decode cX1_put 63 = .ok (.ireturn, 1) := by decide +kernel
theorem dX1_put_64 : decode cX1_put 64 = .ok (.aload_n 0, 1) := by decide +kernel
theorem dX1_put_65 : decode cX1_put 65 = .ok (.getfield 28, 3) := by decide +kernel
theorem dX1_put_68 : decode cX1_put 68 = .ok (.invokevirtual 42, 3) := by decide +kernel
theorem dX1_put_71 : decode cX1_put 71 = .ok (.aload_n 0, 1) := by decide +kernel
theorem dX1_put_72 : decode cX1_put 72 = .ok (.iload_n 3, 1) := by decide +kernel
theorem dX1_put_73 : decode cX1_put 73 = .ok (.iload_n 1, 1) := by decide +kernel
theorem dX1_put_74 : decode cX1_put 74 = .ok (.invokevirtual 57, 3) := by decide +kernel
theorem dX1_put_77 : decode cX1_put 77 = .ok (.aload_n 0, 1) := by decide +kernel
theorem dX1_put_78 : decode cX1_put 78 = .ok (.iload_n 3, 1) := by decide +kernel
theorem dX1_put_79 : decode cX1_put 79 = .ok (.invokevirtual 61, 3) := by decide +kernel
theorem dX1_put_82 : decode cX1_put 82 = .ok (.aload_n 0, 1) := by decide +kernel
theorem dX1_put_83 : decode cX1_put 83 = .ok (.invokevirtual 64, 3) := by decide +kernel
theorem dX1_put_86 : decode cX1_put 86 = .ok (.aload_n 0, 1) := by decide +kernel
theorem dX1_put_87 : decode cX1_put 87 = .ok (.iconst 0, 1) := by decide +kernel
theorem dX1_put_88 : decode cX1_put 88 = .ok (.putfield 13, 3) := by decide +kernel
theorem dX1_put_91 : decode cX1_put 91 = .ok (.aload_n 0, 1) := by decide +kernel
theorem dX1_put_92 : decode cX1_put 92 = .ok (.getfield 20, 3) := by decide +kernel
theorem dX1_put_95 : decode cX1_put 95 = .ok (.iconst 1, 1) := by decide +kernel
theorem dX1_put_96 : decode cX1_put 96 = .ok (.isub, 1) := by decide +kernel
theorem dX1_put_97 : decode cX1_put 97 = .ok (.ireturn, 1) := by decide +kernel
set_option maxRecDepth 20000 in
theorem ggX1_find_X1_nameOf : GoodIn wsX1_find wsX1_nameOf := goodIn_r _ [7, 8, 9, 10, 11, 6, 12, 2, 13, 14, 15, 16, 17, 18, 19, 20, 21, 22, 23, 24, 37, 38, 39, 40, 41, 42, 43, 44, 45, 46, 47, 48] (by decide +kernel) (by decide +kernel)
set_option maxRecDepth 20000 in
theorem gX1_find_X1_nameOf : GoodIn wsX1_find (wsV RX1 67 RX1 yX1_nameOf wsX1_nameOf) := goodIn_app (goodIn_of _ (by decide +kernel)) ggX1_find_X1_nameOf
set_option maxRecDepth 20000 in
theorem ggX1_find_X1_rowByte : GoodIn wsX1_find wsX1_rowByte := goodIn_r _ [28, 29, 30, 31, 32, 8, 33, 34, 35, 6, 36, 9, 10, 11, 12, 2, 13, 14, 15, 16, 17, 18, 19, 20, 21, 22, 23, 24, 37, 38, 39, 40, 41, 42, 43, 44, 45, 46, 47, 48] (by decide +kernel) (by decide +kernel)
set_option maxRecDepth 20000 in
theorem gX1_find_X1_rowByte : GoodIn wsX1_find (wsV RX1 71 RX1 yX1_rowByte wsX1_rowByte) := goodIn_app (goodIn_of _ (by decide +kernel)) ggX1_find_X1_rowByte
theorem dX1_find_0 : decode cX1_find 0 = .ok (.aload_n 0, 1) := by decide +kernel
theorem dX1_find_1 : decode cX1_find 1 = .ok (.getfield 45, 3) := by decide +kernel
theorem dX1_find_4 : decode cX1_find 4 = .ok (.ifCond .ne 5, 3) := by decide +kernel
theorem dX1_find_7 : decode cX1_find 7 = .ok (.iconst (-1), 1) := by decide +kernel
theorem dX1_find_8 : decode cX1_find 8 = .ok (.ireturn, 1) := by decide +kernel
theorem dX1_find_9 : decode cX1_find 9 = .ok (.aload_n 0, 1) := by decide +kernel
theorem dX1_find_10 : decode cX1_find 10 = .ok (.getfield 20, 3) := by decide +kernel
theorem dX1_find_13 : decode cX1_find 13 = .ok (.iconst 1, 1) := by decide +kernel
theorem dX1_find_14 : decode cX1_find 14 = .ok (.isub, 1) := by decide +kernel
theorem dX1_find_15 : decode cX1_find 15 = .ok (.istore_n 3, 1) := by decide +kernel
theorem dX1_find_16 : decode cX1_find 16 = .ok (.iload_n 3, 1) := by decide +kernel
theorem dX1_find_17 : decode cX1_find 17 = .ok (.ifCond .lt 25, 3) := by decide +kernel
theorem dX1_find_20 : decode cX1_find 20 = .ok (.aload_n 0, 1) := by decide +kernel
theorem dX1_find_21 : decode cX1_find 21 = .ok (.iload_n 3, 1) := by decide +kernel
theorem dX1_find_22 : decode cX1_find 22 = .ok (.invokevirtual 67, 3) := by decide +kernel
theorem dX1_find_25 : decode cX1_find 25 = .ok (.iload_n 1, 1) := by decide +kernel
theorem dX1_find_26 : decode cX1_find 26 = .ok (.if_icmp .ne 10, 3) := by decide +kernel
theorem dX1_find_29 : decode cX1_find 29 = .ok (.aload_n 0, 1) := by decide +kernel
theorem dX1_find_30 : decode cX1_find 30 = .ok (.iload_n 3, 1) := by decide +kernel
theorem dX1_find_31 : decode cX1_find 31 = .ok (.iload_n 2, 1) := by decide +kernel
theorem dX1_find_32 : decode cX1_find 32 = .ok (.invokevirtual 71, 3) := by decide +kernel
theorem dX1_find_35 : decode cX1_find 35 = .ok (.ireturn, 1) := by decide +kernel
theorem dX1_find_36 : decode cX1_find 36 = .ok (.iinc 3 (-1), 3) := by decide +kernel
theorem dX1_find_39 : decode cX1_find 39 = .ok (.goto (-23), 3) := by decide +kernel
theorem dX1_find_42 : decode cX1_find 42 = .ok (.iconst (-1), 1) := by decide +kernel
theorem dX1_find_43 : decode cX1_find 43 = .ok (.ireturn, 1) := by decide +kernel
set_option maxRecDepth 20000 in
theorem ggX1_entry_X1_isEntry : GoodIn wsX1_entry wsX1_isEntry := goodIn_r _ [5, 6, 7, 33, 34, 35, 36, 37, 38, 39] (by decide +kernel) (by decide +kernel)
set_option maxRecDepth 20000 in
theorem gX1_entry_X1_isEntry : GoodIn wsX1_entry (wsV RX1 75 RX1 yX1_isEntry wsX1_isEntry) := goodIn_app (goodIn_of _ (by decide +kernel)) ggX1_entry_X1_isEntry
set_option maxRecDepth 20000 in
theorem ggX1_entry_X1_nameOf : GoodIn wsX1_entry wsX1_nameOf := goodIn_r _ [11, 12, 13, 14, 15, 4, 16, 7, 17, 18, 19, 20, 21, 22, 23, 24, 25, 26, 27, 28, 33, 34, 35, 36, 37, 38, 39, 40, 41, 42, 43, 44] (by decide +kernel) (by decide +kernel)
set_option maxRecDepth 20000 in
theorem gX1_entry_X1_nameOf : GoodIn wsX1_entry (wsV RX1 67 RX1 yX1_nameOf wsX1_nameOf) := goodIn_app (goodIn_of _ (by decide +kernel)) ggX1_entry_X1_nameOf
set_option maxRecDepth 20000 in
theorem ggX1_entry_X1_blockOf : GoodIn wsX1_entry wsX1_blockOf := goodIn_r _ [16, 7, 17, 33, 34, 35, 36, 37, 38, 39] (by decide +kernel) (by decide +kernel)
set_option maxRecDepth 20000 in
theorem gX1_entry_X1_blockOf : GoodIn wsX1_entry (wsV RX1 79 RX1 yX1_blockOf wsX1_blockOf) := goodIn_app (goodIn_of _ (by decide +kernel)) ggX1_entry_X1_blockOf
set_option maxRecDepth 20000 in
theorem ggX1_entry_X1_lengthOf : GoodIn wsX1_entry wsX1_lengthOf := goodIn_r _ [32, 12, 13, 14, 15, 4, 16, 7, 17, 18, 19, 20, 21, 22, 23, 24, 25, 26, 27, 28, 33, 34, 35, 36, 37, 38, 39, 40, 41, 42, 43, 44] (by decide +kernel) (by decide +kernel)
set_option maxRecDepth 20000 in
theorem gX1_entry_X1_lengthOf : GoodIn wsX1_entry (wsV RX1 82 RX1 yX1_lengthOf wsX1_lengthOf) := goodIn_app (goodIn_of _ (by decide +kernel)) ggX1_entry_X1_lengthOf
theorem dX1_entry_0 : decode cX1_entry 0 = .ok (.aload_n 0, 1) := by decide +kernel
theorem dX1_entry_1 : decode cX1_entry 1 = .ok (.iload_n 1, 1) := by decide +kernel
theorem dX1_entry_2 : decode cX1_entry 2 = .ok (.invokevirtual 75, 3) := by decide +kernel
theorem dX1_entry_5 : decode cX1_entry 5 = .ok (.ifCond .ne 5, 3) := by decide +kernel
theorem dX1_entry_8 : decode cX1_entry 8 = .ok (.iconst (-1), 1) := by decide +kernel
theorem dX1_entry_9 : decode cX1_entry 9 = .ok (.ireturn, 1) := by decide +kernel
theorem dX1_entry_10 : decode cX1_entry 10 = .ok (.iload_n 2, 1) := by decide +kernel
theorem dX1_entry_11 : decode cX1_entry 11 = .ok (.tableswitch 43 0 2 #[25, 31, 37], 25) := by decide +kernel
theorem dX1_entry_36 : decode cX1_entry 36 = .ok (.aload_n 0, 1) := by decide +kernel
theorem dX1_entry_37 : decode cX1_entry 37 = .ok (.iload_n 1, 1) := by decide +kernel
theorem dX1_entry_38 : decode cX1_entry 38 = .ok (.invokevirtual 67, 3) := by decide +kernel
theorem dX1_entry_41 : decode cX1_entry 41 = .ok (.ireturn, 1) := by decide +kernel
theorem dX1_entry_42 : decode cX1_entry 42 = .ok (.aload_n 0, 1) := by decide +kernel
theorem dX1_entry_43 : decode cX1_entry 43 = .ok (.iload_n 1, 1) := by decide +kernel
theorem dX1_entry_44 : decode cX1_entry 44 = .ok (.invokevirtual 79, 3) := by decide +kernel
theorem dX1_entry_47 : decode cX1_entry 47 = .ok (.ireturn, 1) := by decide +kernel
theorem dX1_entry_48 : decode cX1_entry 48 = .ok (.aload_n 0, 1) := by decide +kernel
theorem dX1_entry_49 : decode cX1_entry 49 = .ok (.iload_n 1, 1) := by decide +kernel
theorem dX1_entry_50 : decode cX1_entry 50 = .ok (.invokevirtual 82, 3) := by decide +kernel
theorem dX1_entry_53 : decode cX1_entry 53 = .ok (.ireturn, 1) := by decide +kernel
theorem dX1_entry_54 : decode cX1_entry 54 = .ok (.iconst (-1), 1) := by decide +kernel
theorem dX1_entry_55 : decode cX1_entry 55 = .ok (.ireturn, 1) := by decide +kernel
set_option maxRecDepth 20000 in
theorem ggX1_drop_X1_isEntry : GoodIn wsX1_drop wsX1_isEntry := goodIn_r _ [6, 7, 8, 59, 60, 61, 62, 63, 64, 65] (by decide +kernel) (by decide +kernel)
set_option maxRecDepth 20000 in
theorem gX1_drop_X1_isEntry : GoodIn wsX1_drop (wsV RX1 75 RX1 yX1_isEntry wsX1_isEntry) := goodIn_app (goodIn_of _ (by decide +kernel)) ggX1_drop_X1_isEntry
set_option maxRecDepth 20000 in
theorem ggX1_drop_X0_beginChange : GoodIn wsX1_drop wsX0_beginChange := goodIn_r _ [13, 14, 66, 67, 68, 69, 70] (by decide +kernel) (by decide +kernel)
set_option maxRecDepth 20000 in
theorem gX1_drop_X0_beginChange : GoodIn wsX1_drop (wsV RX1 42 RX0 yX0_beginChange wsX0_beginChange) := goodIn_app (goodIn_of _ (by decide +kernel)) ggX1_drop_X0_beginChange
set_option maxRecDepth 20000 in
theorem ggX1_drop_X1_removeEntryBlock : GoodIn wsX1_drop wsX1_removeEntryBlock := goodIn_r _ [18, 8, 19, 59, 60, 61, 62, 63, 64, 65] (by decide +kernel) (by decide +kernel)
set_option maxRecDepth 20000 in
theorem gX1_drop_X1_removeEntryBlock : GoodIn wsX1_drop (wsV RX1 85 RX1 yX1_removeEntryBlock wsX1_removeEntryBlock) := goodIn_app (goodIn_of _ (by decide +kernel)) ggX1_drop_X1_removeEntryBlock
set_option maxRecDepth 20000 in
theorem ggX1_drop_X1_writeOtherRootAndTurn : GoodIn wsX1_drop wsX1_writeOtherRootAndTurn := goodIn_r _ [23, 24, 1, 25, 26, 27, 5, 28, 8, 29, 30, 31, 12, 32, 14, 33, 34, 35, 36, 37, 38, 39, 40, 41, 42, 43, 44, 19, 45, 46, 47, 48, 49, 50, 51, 52, 53, 54, 55, 56, 57, 58, 59, 60, 61, 62, 63, 64, 65, 66, 67, 68, 69, 70] (by decide +kernel) (by decide +kernel)
set_option maxRecDepth 20000 in
theorem gX1_drop_X1_writeOtherRootAndTurn : GoodIn wsX1_drop (wsV RX1 64 RX1 yX1_writeOtherRootAndTurn wsX1_writeOtherRootAndTurn) := goodIn_app (goodIn_of _ (by decide +kernel)) ggX1_drop_X1_writeOtherRootAndTurn
theorem dX1_drop_0 : decode cX1_drop 0 = .ok (.aload_n 0, 1) := by decide +kernel
theorem dX1_drop_1 : decode cX1_drop 1 = .ok (.iload_n 1, 1) := by decide +kernel
theorem dX1_drop_2 : decode cX1_drop 2 = .ok (.invokevirtual 75, 3) := by decide +kernel
theorem dX1_drop_5 : decode cX1_drop 5 = .ok (.ifCond .ne 5, 3) := by decide +kernel
theorem dX1_drop_8 : decode cX1_drop 8 = .ok (.iconst 0, 1) := by decide +kernel
theorem dX1_drop_9 : decode cX1_drop 9 = .ok (.ireturn, 1) := by decide +kernel
theorem dX1_drop_10 : decode cX1_drop 10 = .ok (.aload_n 0, 1) := by decide +kernel
theorem dX1_drop_11 : decode cX1_drop 11 = .ok (.getfield 28, 3) := by decide +kernel
theorem dX1_drop_14 : decode cX1_drop 14 = .ok (.invokevirtual 42, 3) := by decide +kernel
theorem dX1_drop_17 : decode cX1_drop 17 = .ok (.aload_n 0, 1) := by decide +kernel
theorem dX1_drop_18 : decode cX1_drop 18 = .ok (.iload_n 1, 1) := by decide +kernel
theorem dX1_drop_19 : decode cX1_drop 19 = .ok (.invokevirtual 85, 3) := by decide +kernel
theorem dX1_drop_22 : decode cX1_drop 22 = .ok (.aload_n 0, 1) := by decide +kernel
theorem dX1_drop_23 : decode cX1_drop 23 = .ok (.invokevirtual 64, 3) := by decide +kernel
theorem dX1_drop_26 : decode cX1_drop 26 = .ok (.iconst 1, 1) := by decide +kernel
theorem dX1_drop_27 : decode cX1_drop 27 = .ok (.ireturn, 1) := by decide +kernel
set_option maxRecDepth 20000 in
theorem ggX1_crash_X0_writtenBytes : GoodIn wsX1_crash wsX0_writtenBytes := goodIn_r _ [7, 8, 27, 28, 29, 30, 31] (by decide +kernel) (by decide +kernel)
set_option maxRecDepth 20000 in
theorem gX1_crash_X0_writtenBytes : GoodIn wsX1_crash (wsV RX1 88 RX0 yX0_writtenBytes wsX0_writtenBytes) := goodIn_app (goodIn_of _ (by decide +kernel)) ggX1_crash_X0_writtenBytes
set_option maxRecDepth 20000 in
theorem ggX1_crash_X0_undoAllBut : GoodIn wsX1_crash wsX0_undoAllBut := goodIn_r _ [12, 13, 14, 15, 16, 8, 17, 18, 19, 27, 28, 29, 30, 31] (by decide +kernel) (by decide +kernel)
set_option maxRecDepth 20000 in
theorem gX1_crash_X0_undoAllBut : GoodIn wsX1_crash (wsV RX1 91 RX0 yX0_undoAllBut wsX0_undoAllBut) := goodIn_app (goodIn_of _ (by decide +kernel)) ggX1_crash_X0_undoAllBut
theorem dX1_crash_0 : decode cX1_crash 0 = .ok (.aload_n 0, 1) := by decide +kernel
theorem dX1_crash_1 : decode cX1_crash 1 = .ok (.getfield 28, 3) := by decide +kernel
theorem dX1_crash_4 : decode cX1_crash 4 = .ok (.invokevirtual 88, 3) := by decide +kernel
theorem dX1_crash_7 : decode cX1_crash 7 = .ok (.istore_n 2, 1) := by decide +kernel
theorem dX1_crash_8 : decode cX1_crash 8 = .ok (.aload_n 0, 1) := by decide +kernel
theorem dX1_crash_9 : decode cX1_crash 9 = .ok (.getfield 45, 3) := by decide +kernel
theorem dX1_crash_12 : decode cX1_crash 12 = .ok (.ifCond .eq 16, 3) := by decide +kernel
theorem dX1_crash_15 : decode cX1_crash 15 = .ok (.iload_n 2, 1) := by decide +kernel
theorem dX1_crash_16 : decode cX1_crash 16 = .ok (.ifCond .eq 12, 3) := by decide +kernel
theorem dX1_crash_19 : decode cX1_crash 19 = .ok (.iload_n 1, 1) := by decide +kernel
theorem dX1_crash_20 : decode cX1_crash 20 = .ok (.ifCond .lt 8, 3) := by decide +kernel
theorem dX1_crash_23 : decode cX1_crash 23 = .ok (.iload_n 1, 1) := by decide +kernel
theorem dX1_crash_24 : decode cX1_crash 24 = .ok (.iload_n 2, 1) := by decide +kernel
theorem dX1_crash_25 : decode cX1_crash 25 = .ok (.if_icmp .le 5, 3) := by decide +kernel
theorem dX1_crash_28 : decode cX1_crash 28 = .ok (.iconst 0, 1) := by decide +kernel
theorem dX1_crash_29 : decode cX1_crash 29 = .ok (.ireturn, 1) := by decide +kernel
theorem dX1_crash_30 : decode cX1_crash 30 = .ok (.aload_n 0, 1) := by decide +kernel
theorem dX1_crash_31 : decode cX1_crash 31 = .ok (.getfield 28, 3) := by decide +kernel
theorem dX1_crash_34 : decode cX1_crash 34 = .ok (.iload_n 1, 1) := by decide +kernel
theorem dX1_crash_35 : decode cX1_crash 35 = .ok (.invokevirtual 91, 3) := by decide +kernel
theorem dX1_crash_38 : decode cX1_crash 38 = .ok (.aload_n 0, 1) := by decide +kernel
theorem dX1_crash_39 : decode cX1_crash 39 = .ok (.iconst 0, 1) := by decide +kernel
theorem dX1_crash_40 : decode cX1_crash 40 = .ok (.putfield 45, 3) := by decide +kernel
theorem dX1_crash_43 : decode cX1_crash 43 = .ok (.iconst 1, 1) := by decide +kernel
theorem dX1_crash_44 : decode cX1_crash 44 = .ok (.ireturn, 1) := by decide +kernel
set_option maxRecDepth 20000 in
theorem ggX1_reopen_X0_beginChange : GoodIn wsX1_reopen wsX0_beginChange := goodIn_r _ [8, 9, 79, 80, 81, 82, 83] (by decide +kernel) (by decide +kernel)
set_option maxRecDepth 20000 in
theorem gX1_reopen_X0_beginChange : GoodIn wsX1_reopen (wsV RX1 42 RX0 yX0_beginChange wsX0_beginChange) := goodIn_app (goodIn_of _ (by decide +kernel)) ggX1_reopen_X0_beginChange
set_option maxRecDepth 20000 in
theorem ggX1_reopen_X1_readFromStore : GoodIn wsX1_reopen wsX1_readFromStore := goodIn_r _ [14, 3, 1, 15, 16, 17, 18, 7, 19, 20, 21, 22, 23, 24, 25, 26, 27, 28, 13, 29, 30, 31, 32, 33, 34, 35, 36, 37, 38, 39, 40, 41, 42, 43, 44, 45, 46, 47, 48, 49, 50, 51, 52, 53, 54, 55, 56, 57, 58, 59, 60, 61, 62, 63, 64, 65, 66, 67, 68, 69, 70, 71, 72, 73, 74, 75, 76, 77, 78, 79, 80, 81, 82, 83] (by decide +kernel) (by decide +kernel)
set_option maxRecDepth 20000 in
theorem gX1_reopen_X1_readFromStore : GoodIn wsX1_reopen (wsV RX1 94 RX1 yX1_readFromStore wsX1_readFromStore) := goodIn_app (goodIn_of _ (by decide +kernel)) ggX1_reopen_X1_readFromStore
theorem dX1_reopen_0 : decode cX1_reopen 0 = .ok (.aload_n 0, 1) := by decide +kernel
theorem dX1_reopen_1 : decode cX1_reopen 1 = .ok (.getfield 28, 3) := by decide +kernel
theorem dX1_reopen_4 : decode cX1_reopen 4 = .ok (.invokevirtual 42, 3) := by decide +kernel
theorem dX1_reopen_7 : decode cX1_reopen 7 = .ok (.aload_n 0, 1) := by decide +kernel
theorem dX1_reopen_8 : decode cX1_reopen 8 = .ok (.invokevirtual 94, 3) := by decide +kernel
theorem dX1_reopen_11 : decode cX1_reopen 11 = .ok (.istore_n 1, 1) := by decide +kernel
theorem dX1_reopen_12 : decode cX1_reopen 12 = .ok (.aload_n 0, 1) := by decide +kernel
theorem dX1_reopen_13 : decode cX1_reopen 13 = .ok (.iload_n 1, 1) := by decide +kernel
theorem dX1_reopen_14 : decode cX1_reopen 14 = .ok (.iconst (-1), 1) := by decide +kernel
theorem dX1_reopen_15 : decode cX1_reopen 15 = .ok (.if_icmp .ne 7, 3) := by decide +kernel
theorem dX1_reopen_18 : decode cX1_reopen 18 = .ok (.iconst 1, 1) := by decide +kernel
theorem dX1_reopen_19 : decode cX1_reopen 19 = .ok (.goto 4, 3) := by decide +kernel
theorem dX1_reopen_22 : decode cX1_reopen 22 = .ok (.iconst 0, 1) := by decide +kernel
theorem dX1_reopen_23 : decode cX1_reopen 23 = .ok (.putfield 45, 3) := by decide +kernel
theorem dX1_reopen_26 : decode cX1_reopen 26 = .ok (.aload_n 0, 1) := by decide +kernel
theorem dX1_reopen_27 : decode cX1_reopen 27 = .ok (.getfield 45, 3) := by decide +kernel
theorem dX1_reopen_30 : decode cX1_reopen 30 = .ok (.ifCond .eq 10, 3) := by decide +kernel
theorem dX1_reopen_33 : decode cX1_reopen 33 = .ok (.aload_n 0, 1) := by decide +kernel
theorem dX1_reopen_34 : decode cX1_reopen 34 = .ok (.getfield 20, 3) := by decide +kernel
theorem dX1_reopen_37 : decode cX1_reopen 37 = .ok (.goto 6, 3) := by decide +kernel
theorem dX1_reopen_40 : decode cX1_reopen 40 = .ok (.iconst (-1), 1) := by decide +kernel
theorem dX1_reopen_41 : decode cX1_reopen 41 = .ok (.iload_n 1, 1) := by decide +kernel
theorem dX1_reopen_42 : decode cX1_reopen 42 = .ok (.isub, 1) := by decide +kernel
theorem dX1_reopen_43 : decode cX1_reopen 43 = .ok (.ireturn, 1) := by decide +kernel
set_option maxRecDepth 20000 in
theorem ggX1_poke_X0_has : GoodIn wsX1_poke wsX0_has := goodIn_r _ [6, 7, 21, 22, 23, 24, 25] (by decide +kernel) (by decide +kernel)
set_option maxRecDepth 20000 in
theorem gX1_poke_X0_has : GoodIn wsX1_poke (wsV RX1 97 RX0 yX0_has wsX0_has) := goodIn_app (goodIn_of _ (by decide +kernel)) ggX1_poke_X0_has
set_option maxRecDepth 20000 in
theorem ggX1_poke_X0_alter : GoodIn wsX1_poke wsX0_alter := goodIn_r _ [11, 12, 13, 3, 4, 5, 6, 7, 21, 22, 23, 24, 25] (by decide +kernel) (by decide +kernel)
set_option maxRecDepth 20000 in
theorem gX1_poke_X0_alter : GoodIn wsX1_poke (wsV RX1 101 RX0 yX0_alter wsX0_alter) := goodIn_app (goodIn_of _ (by decide +kernel)) ggX1_poke_X0_alter
theorem dX1_poke_0 : decode cX1_poke 0 = .ok (.aload_n 0, 1) := by decide +kernel
theorem dX1_poke_1 : decode cX1_poke 1 = .ok (.getfield 28, 3) := by decide +kernel
theorem dX1_poke_4 : decode cX1_poke 4 = .ok (.iload_n 1, 1) := by decide +kernel
theorem dX1_poke_5 : decode cX1_poke 5 = .ok (.iload_n 2, 1) := by decide +kernel
theorem dX1_poke_6 : decode cX1_poke 6 = .ok (.invokevirtual 97, 3) := by decide +kernel
theorem dX1_poke_9 : decode cX1_poke 9 = .ok (.ifCond .eq 15, 3) := by decide +kernel
theorem dX1_poke_12 : decode cX1_poke 12 = .ok (.iload_n 3, 1) := by decide +kernel
theorem dX1_poke_13 : decode cX1_poke 13 = .ok (.iconst 1, 1) := by decide +kernel
theorem dX1_poke_14 : decode cX1_poke 14 = .ok (.if_icmp .lt 10, 3) := by decide +kernel
theorem dX1_poke_17 : decode cX1_poke 17 = .ok (.iload_n 3, 1) := by decide +kernel
theorem dX1_poke_18 : decode cX1_poke 18 = .ok (.sipush 255, 3) := by decide +kernel
theorem dX1_poke_21 : decode cX1_poke 21 = .ok (.if_icmp .le 5, 3) := by decide +kernel
theorem dX1_poke_24 : decode cX1_poke 24 = .ok (.iconst 0, 1) := by decide +kernel
theorem dX1_poke_25 : decode cX1_poke 25 = .ok (.ireturn, 1) := by decide +kernel
theorem dX1_poke_26 : decode cX1_poke 26 = .ok (.aload_n 0, 1) := by decide +kernel
theorem dX1_poke_27 : decode cX1_poke 27 = .ok (.getfield 28, 3) := by decide +kernel
theorem dX1_poke_30 : decode cX1_poke 30 = .ok (.iload_n 1, 1) := by decide +kernel
theorem dX1_poke_31 : decode cX1_poke 31 = .ok (.iload_n 2, 1) := by decide +kernel
theorem dX1_poke_32 : decode cX1_poke 32 = .ok (.iload_n 3, 1) := by decide +kernel
theorem dX1_poke_33 : decode cX1_poke 33 = .ok (.invokevirtual 101, 3) := by decide +kernel
theorem dX1_poke_36 : decode cX1_poke 36 = .ok (.iconst 1, 1) := by decide +kernel
theorem dX1_poke_37 : decode cX1_poke 37 = .ok (.ireturn, 1) := by decide +kernel
set_option maxRecDepth 20000 in
theorem ggX1_badAt_X0_hasRightSum : GoodIn wsX1_badAt wsX0_hasRightSum := goodIn_r _ [9, 10, 11, 12, 8, 13, 14, 15, 16, 17, 18, 19, 20, 21, 22, 23, 24, 45, 46, 47, 48, 49] (by decide +kernel) (by decide +kernel)
set_option maxRecDepth 20000 in
theorem gX1_badAt_X0_hasRightSum : GoodIn wsX1_badAt (wsV RX1 104 RX0 yX0_hasRightSum wsX0_hasRightSum) := goodIn_app (goodIn_of _ (by decide +kernel)) ggX1_badAt_X0_hasRightSum
set_option maxRecDepth 20000 in
theorem ggX1_badAt_X1_blockOf : GoodIn wsX1_badAt wsX1_blockOf := goodIn_r _ [29, 4, 30, 38, 39, 40, 41, 42, 43, 44] (by decide +kernel) (by decide +kernel)
set_option maxRecDepth 20000 in
theorem gX1_badAt_X1_blockOf : GoodIn wsX1_badAt (wsV RX1 79 RX1 yX1_blockOf wsX1_blockOf) := goodIn_app (goodIn_of _ (by decide +kernel)) ggX1_badAt_X1_blockOf
set_option maxRecDepth 20000 in
theorem ggX1_badAt_X1_lesserBlock : GoodIn wsX1_badAt wsX1_lesserBlock := goodIn_r _ [33, 34, 35, 36, 37] (by decide +kernel) (by decide +kernel)
set_option maxRecDepth 20000 in
theorem gX1_badAt_X1_lesserBlock : GoodIn wsX1_badAt (va_wsS RX1 107 yX1_lesserBlock wsX1_lesserBlock) := goodIn_app (goodIn_of _ (by decide +kernel)) ggX1_badAt_X1_lesserBlock
theorem dX1_badAt_0 : decode cX1_badAt 0 = .ok (.aload_n 0, 1) := by decide +kernel
theorem dX1_badAt_1 : decode cX1_badAt 1 = .ok (.getfield 45, 3) := by decide +kernel
theorem dX1_badAt_4 : decode cX1_badAt 4 = .ok (.ifCond .ne 5, 3) := by decide +kernel
theorem dX1_badAt_7 : decode cX1_badAt 7 = .ok (.iconst (-1), 1) := by decide +kernel
theorem dX1_badAt_8 : decode cX1_badAt 8 = .ok (.ireturn, 1) := by decide +kernel
theorem dX1_badAt_9 : decode cX1_badAt 9 = .ok (.aload_n 0, 1) := by decide +kernel
theorem dX1_badAt_10 : decode cX1_badAt 10 = .ok (.getfield 28, 3) := by decide +kernel
theorem dX1_badAt_13 : decode cX1_badAt 13 = .ok (.aload_n 0, 1) := by decide +kernel
theorem dX1_badAt_14 : decode cX1_badAt 14 = .ok (.getfield 32, 3) := by decide +kernel
theorem dX1_badAt_17 : decode cX1_badAt 17 = .ok (.invokevirtual 104, 3) := by decide +kernel
theorem dX1_badAt_20 : decode cX1_badAt 20 = .ok (.ifCond .ne 8, 3) := by decide +kernel
theorem dX1_badAt_23 : decode cX1_badAt 23 = .ok (.aload_n 0, 1) := by decide +kernel
theorem dX1_badAt_24 : decode cX1_badAt 24 = .ok (.getfield 32, 3) := by decide +kernel
theorem dX1_badAt_27 : decode cX1_badAt 27 = .ok (.ireturn, 1) := by decide +kernel
theorem dX1_badAt_28 : decode cX1_badAt 28 = .ok (.iconst (-1), 1) := by decide +kernel
theorem dX1_badAt_29 : decode cX1_badAt 29 = .ok (.istore_n 1, 1) := by decide +kernel
theorem dX1_badAt_30 : decode cX1_badAt 30 = .ok (.iconst 0, 1) := by decide +kernel
theorem dX1_badAt_31 : decode cX1_badAt 31 = .ok (.istore_n 2, 1) := by decide +kernel
theorem dX1_badAt_32 : decode cX1_badAt 32 = .ok (.iload_n 2, 1) := by decide +kernel
theorem dX1_badAt_33 : decode cX1_badAt 33 = .ok (.aload_n 0, 1) := by decide +kernel
theorem dX1_badAt_34 : decode cX1_badAt 34 = .ok (.getfield 20, 3) := by decide +kernel
theorem dX1_badAt_37 : decode cX1_badAt 37 = .ok (.if_icmp .ge 32, 3) := by decide +kernel
theorem dX1_badAt_40 : decode cX1_badAt 40 = .ok (.aload_n 0, 1) := by decide +kernel
theorem dX1_badAt_41 : decode cX1_badAt 41 = .ok (.iload_n 2, 1) := by decide +kernel
theorem dX1_badAt_42 : decode cX1_badAt 42 = .ok (.invokevirtual 79, 3) := by decide +kernel
theorem dX1_badAt_45 : decode cX1_badAt 45 = .ok (.istore_n 3, 1) := by decide +kernel
theorem dX1_badAt_46 : decode cX1_badAt 46 = .ok (.aload_n 0, 1) := by decide +kernel
theorem dX1_badAt_47 : decode cX1_badAt 47 = .ok (.getfield 28, 3) := by decide +kernel
theorem dX1_badAt_50 : decode cX1_badAt 50 = .ok (.iload_n 3, 1) := by decide +kernel
theorem dX1_badAt_51 : decode cX1_badAt 51 = .ok (.invokevirtual 104, 3) := by decide +kernel
theorem dX1_badAt_54 : decode cX1_badAt 54 = .ok (.ifCond .ne 9, 3) := by decide +kernel
theorem dX1_badAt_57 : decode cX1_badAt 57 = .ok (.iload_n 1, 1) := by decide +kernel
theorem dX1_badAt_58 : decode cX1_badAt 58 = .ok (.iload_n 3, 1) := by decide +kernel
theorem dX1_badAt_59 : decode cX1_badAt 59 = .ok (.invokestatic 107, 3) := by decide +kernel
theorem dX1_badAt_62 : decode cX1_badAt 62 = .ok (.istore_n 1, 1) := by decide +kernel
theorem dX1_badAt_63 : decode cX1_badAt 63 = .ok (.iinc 2 1, 3) := by decide +kernel
theorem dX1_badAt_66 : decode cX1_badAt 66 = .ok (.goto (-34), 3) := by decide +kernel
theorem dX1_badAt_69 : decode cX1_badAt 69 = .ok (.iload_n 1, 1) := by decide +kernel
theorem dX1_badAt_70 : decode cX1_badAt 70 = .ok (.ireturn, 1) := by decide +kernel
set_option maxRecDepth 20000 in
theorem ggX1_byteAt_X0_has : GoodIn wsX1_byteAt wsX0_has := goodIn_r _ [9, 10, 30, 31, 32, 33, 34] (by decide +kernel) (by decide +kernel)
set_option maxRecDepth 20000 in
theorem gX1_byteAt_X0_has : GoodIn wsX1_byteAt (wsV RX1 97 RX0 yX0_has wsX0_has) := goodIn_app (goodIn_of _ (by decide +kernel)) ggX1_byteAt_X0_has
set_option maxRecDepth 20000 in
theorem ggX1_byteAt_X0_read : GoodIn wsX1_byteAt wsX0_read := goodIn_r _ [14, 15, 16, 6, 7, 8, 9, 10, 30, 31, 32, 33, 34] (by decide +kernel) (by decide +kernel)
set_option maxRecDepth 20000 in
theorem gX1_byteAt_X0_read : GoodIn wsX1_byteAt (wsV RX1 117 RX0 yX0_read wsX0_read) := goodIn_app (goodIn_of _ (by decide +kernel)) ggX1_byteAt_X0_read
theorem dX1_byteAt_0 : decode cX1_byteAt 0 = .ok (.aload_n 0, 1) := by decide +kernel
theorem dX1_byteAt_1 : decode cX1_byteAt 1 = .ok (.getfield 28, 3) := by decide +kernel
theorem dX1_byteAt_4 : decode cX1_byteAt 4 = .ok (.iload_n 1, 1) := by decide +kernel
theorem dX1_byteAt_5 : decode cX1_byteAt 5 = .ok (.iload_n 2, 1) := by decide +kernel
theorem dX1_byteAt_6 : decode cX1_byteAt 6 = .ok (.invokevirtual 97, 3) := by decide +kernel
theorem dX1_byteAt_9 : decode cX1_byteAt 9 = .ok (.ifCond .ne 13, 3) := by decide +kernel
theorem dX1_byteAt_12 : decode cX1_byteAt 12 = .ok (.new 110, 3) := by decide +kernel
theorem dX1_byteAt_15 : decode cX1_byteAt 15 = .ok (.dup, 1) := by decide +kernel
theorem dX1_byteAt_16 : decode cX1_byteAt 16 = .ok (.ldc 112, 2) := by decide +kernel
theorem dX1_byteAt_18 : decode cX1_byteAt 18 = .ok (.invokespecial 114, 3) := by decide +kernel
theorem dX1_byteAt_21 : decode cX1_byteAt 21 = .ok (.athrow, 1) := by decide +kernel
theorem dX1_byteAt_22 : decode cX1_byteAt 22 = .ok (.aload_n 0, 1) := by decide +kernel
theorem dX1_byteAt_23 : decode cX1_byteAt 23 = .ok (.getfield 28, 3) := by decide +kernel
theorem dX1_byteAt_26 : decode cX1_byteAt 26 = .ok (.iload_n 1, 1) := by decide +kernel
theorem dX1_byteAt_27 : decode cX1_byteAt 27 = .ok (.iload_n 2, 1) := by decide +kernel
theorem dX1_byteAt_28 : decode cX1_byteAt 28 = .ok (.invokevirtual 117, 3) := by decide +kernel
theorem dX1_byteAt_31 : decode cX1_byteAt 31 = .ok (.ireturn, 1) := by decide +kernel
set_option maxRecDepth 20000 in
theorem ggX1_free_X0_blockCount : GoodIn wsX1_free wsX0_blockCount := goodIn_r _ [8, 9, 17, 18, 19, 20, 21] (by decide +kernel) (by decide +kernel)
set_option maxRecDepth 20000 in
theorem gX1_free_X0_blockCount : GoodIn wsX1_free (wsV RX1 120 RX0 yX0_blockCount wsX0_blockCount) := goodIn_app (goodIn_of _ (by decide +kernel)) ggX1_free_X0_blockCount
theorem dX1_free_0 : decode cX1_free 0 = .ok (.aload_n 0, 1) := by decide +kernel
theorem dX1_free_1 : decode cX1_free 1 = .ok (.getfield 45, 3) := by decide +kernel
theorem dX1_free_4 : decode cX1_free 4 = .ok (.ifCond .eq 20, 3) := by decide +kernel
theorem dX1_free_7 : decode cX1_free 7 = .ok (.aload_n 0, 1) := by decide +kernel
theorem dX1_free_8 : decode cX1_free 8 = .ok (.getfield 28, 3) := by decide +kernel
theorem dX1_free_11 : decode cX1_free 11 = .ok (.invokevirtual 120, 3) := by decide +kernel
theorem dX1_free_14 : decode cX1_free 14 = .ok (.iconst 3, 1) := by decide +kernel
theorem dX1_free_15 : decode cX1_free 15 = .ok (.isub, 1) := by decide +kernel
theorem dX1_free_16 : decode cX1_free 16 = .ok (.aload_n 0, 1) := by decide +kernel
theorem dX1_free_17 : decode cX1_free 17 = .ok (.getfield 20, 3) := by decide +kernel
theorem dX1_free_20 : decode cX1_free 20 = .ok (.isub, 1) := by decide +kernel
theorem dX1_free_21 : decode cX1_free 21 = .ok (.goto 4, 3) := by decide +kernel
theorem dX1_free_24 : decode cX1_free 24 = .ok (.iconst (-1), 1) := by decide +kernel
theorem dX1_free_25 : decode cX1_free 25 = .ok (.ireturn, 1) := by decide +kernel
theorem dX1_root_0 : decode cX1_root 0 = .ok (.aload_n 0, 1) := by decide +kernel
theorem dX1_root_1 : decode cX1_root 1 = .ok (.getfield 45, 3) := by decide +kernel
theorem dX1_root_4 : decode cX1_root 4 = .ok (.ifCond .eq 10, 3) := by decide +kernel
theorem dX1_root_7 : decode cX1_root 7 = .ok (.aload_n 0, 1) := by decide +kernel
theorem dX1_root_8 : decode cX1_root 8 = .ok (.getfield 32, 3) := by decide +kernel
theorem dX1_root_11 : decode cX1_root 11 = .ok (.goto 4, 3) := by decide +kernel
theorem dX1_root_14 : decode cX1_root 14 = .ok (.iconst (-1), 1) := by decide +kernel
theorem dX1_root_15 : decode cX1_root 15 = .ok (.ireturn, 1) := by decide +kernel
theorem dX1_isEntry_0 : decode cX1_isEntry 0 = .ok (.aload_n 0, 1) := by decide +kernel
theorem dX1_isEntry_1 : decode cX1_isEntry 1 = .ok (.getfield 45, 3) := by decide +kernel
theorem dX1_isEntry_4 : decode cX1_isEntry 4 = .ok (.ifCond .eq 19, 3) := by decide +kernel
theorem dX1_isEntry_7 : decode cX1_isEntry 7 = .ok (.iload_n 1, 1) := by decide +kernel
theorem dX1_isEntry_8 : decode cX1_isEntry 8 = .ok (.ifCond .lt 15, 3) := by decide +kernel
theorem dX1_isEntry_11 : decode cX1_isEntry 11 = .ok (.iload_n 1, 1) := by decide +kernel
theorem dX1_isEntry_12 : decode cX1_isEntry 12 = .ok (.aload_n 0, 1) := by decide +kernel
theorem dX1_isEntry_13 : decode cX1_isEntry 13 = .ok (.getfield 20, 3) := by decide +kernel
theorem dX1_isEntry_16 : decode cX1_isEntry 16 = .ok (.if_icmp .ge 7, 3) := by decide +kernel
theorem dX1_isEntry_19 : decode cX1_isEntry 19 = .ok (.iconst 1, 1) := by decide +kernel
theorem dX1_isEntry_20 : decode cX1_isEntry 20 = .ok (.goto 4, 3) := by decide +kernel
theorem dX1_isEntry_23 : decode cX1_isEntry 23 = .ok (.iconst 0, 1) := by decide +kernel
theorem dX1_isEntry_24 : decode cX1_isEntry 24 = .ok (.ireturn, 1) := by decide +kernel
theorem dX1_blockOf_0 : decode cX1_blockOf 0 = .ok (.iload_n 1, 1) := by decide +kernel
theorem dX1_blockOf_1 : decode cX1_blockOf 1 = .ok (.ifCond .lt 29, 3) := by decide +kernel
theorem dX1_blockOf_4 : decode cX1_blockOf 4 = .ok (.iload_n 1, 1) := by decide +kernel
theorem dX1_blockOf_5 : decode cX1_blockOf 5 = .ok (.aload_n 0, 1) := by decide +kernel
theorem dX1_blockOf_6 : decode cX1_blockOf 6 = .ok (.getfield 20, 3) := by decide +kernel
theorem dX1_blockOf_9 : decode cX1_blockOf 9 = .ok (.if_icmp .ge 21, 3) := by decide +kernel
theorem dX1_blockOf_12 : decode cX1_blockOf 12 = .ok (.iload_n 1, 1) := by decide +kernel
theorem dX1_blockOf_13 : decode cX1_blockOf 13 = .ok (.aload_n 0, 1) := by decide +kernel
theorem dX1_blockOf_14 : decode cX1_blockOf 14 = .ok (.getfield 17, 3) := by decide +kernel
theorem dX1_blockOf_17 : decode cX1_blockOf 17 = .ok (.arraylength, 1) := by decide +kernel
theorem dX1_blockOf_18 : decode cX1_blockOf 18 = .ok (.if_icmp .ge 12, 3) := by decide +kernel
theorem dX1_blockOf_21 : decode cX1_blockOf 21 = .ok (.aload_n 0, 1) := by decide +kernel
theorem dX1_blockOf_22 : decode cX1_blockOf 22 = .ok (.getfield 17, 3) := by decide +kernel
theorem dX1_blockOf_25 : decode cX1_blockOf 25 = .ok (.iload_n 1, 1) := by decide +kernel
theorem dX1_blockOf_26 : decode cX1_blockOf 26 = .ok (.iaload, 1) := by decide +kernel
theorem dX1_blockOf_27 : decode cX1_blockOf 27 = .ok (.goto 4, 3) := by decide +kernel
theorem dX1_blockOf_30 : decode cX1_blockOf 30 = .ok (.iconst 0, 1) := by decide +kernel
theorem dX1_blockOf_31 : decode cX1_blockOf 31 = .ok (.ireturn, 1) := by decide +kernel
set_option maxRecDepth 20000 in
theorem ggX1_nameOf_X1_blockOf : GoodIn wsX1_nameOf wsX1_blockOf := goodIn_r _ [6, 7, 8, 20, 21, 22, 23, 24, 25, 26] (by decide +kernel) (by decide +kernel)
set_option maxRecDepth 20000 in
theorem gX1_nameOf_X1_blockOf : GoodIn wsX1_nameOf (wsV RX1 79 RX1 yX1_blockOf wsX1_blockOf) := goodIn_app (goodIn_of _ (by decide +kernel)) ggX1_nameOf_X1_blockOf
set_option maxRecDepth 20000 in
theorem ggX1_nameOf_X0_read : GoodIn wsX1_nameOf wsX0_read := goodIn_r _ [13, 14, 15, 16, 17, 12, 18, 19, 27, 28, 29, 30, 31] (by decide +kernel) (by decide +kernel)
set_option maxRecDepth 20000 in
theorem gX1_nameOf_X0_read : GoodIn wsX1_nameOf (wsV RX1 117 RX0 yX0_read wsX0_read) := goodIn_app (goodIn_of _ (by decide +kernel)) ggX1_nameOf_X0_read
theorem dX1_nameOf_0 : decode cX1_nameOf 0 = .ok (.aload_n 0, 1) := by decide +kernel
theorem dX1_nameOf_1 : decode cX1_nameOf 1 = .ok (.iload_n 1, 1) := by decide +kernel
theorem dX1_nameOf_2 : decode cX1_nameOf 2 = .ok (.invokevirtual 79, 3) := by decide +kernel
theorem dX1_nameOf_5 : decode cX1_nameOf 5 = .ok (.istore_n 2, 1) := by decide +kernel
theorem dX1_nameOf_6 : decode cX1_nameOf 6 = .ok (.aload_n 0, 1) := by decide +kernel
theorem dX1_nameOf_7 : decode cX1_nameOf 7 = .ok (.getfield 28, 3) := by decide +kernel
theorem dX1_nameOf_10 : decode cX1_nameOf 10 = .ok (.iload_n 2, 1) := by decide +kernel
theorem dX1_nameOf_11 : decode cX1_nameOf 11 = .ok (.iconst 0, 1) := by decide +kernel
theorem dX1_nameOf_12 : decode cX1_nameOf 12 = .ok (.invokevirtual 117, 3) := by decide +kernel
theorem dX1_nameOf_15 : decode cX1_nameOf 15 = .ok (.aload_n 0, 1) := by decide +kernel
theorem dX1_nameOf_16 : decode cX1_nameOf 16 = .ok (.getfield 28, 3) := by decide +kernel
theorem dX1_nameOf_19 : decode cX1_nameOf 19 = .ok (.iload_n 2, 1) := by decide +kernel
theorem dX1_nameOf_20 : decode cX1_nameOf 20 = .ok (.iconst 1, 1) := by decide +kernel
theorem dX1_nameOf_21 : decode cX1_nameOf 21 = .ok (.invokevirtual 117, 3) := by decide +kernel
theorem dX1_nameOf_24 : decode cX1_nameOf 24 = .ok (.bipush 8, 2) := by decide +kernel
theorem dX1_nameOf_26 : decode cX1_nameOf 26 = .ok (.ishl, 1) := by decide +kernel
theorem dX1_nameOf_27 : decode cX1_nameOf 27 = .ok (.ior, 1) := by decide +kernel
theorem dX1_nameOf_28 : decode cX1_nameOf 28 = .ok (.ireturn, 1) := by decide +kernel
set_option maxRecDepth 20000 in
theorem ggX1_lengthOf_X1_blockOf : GoodIn wsX1_lengthOf wsX1_blockOf := goodIn_r _ [6, 7, 8, 20, 21, 22, 23, 24, 25, 26] (by decide +kernel) (by decide +kernel)
set_option maxRecDepth 20000 in
theorem gX1_lengthOf_X1_blockOf : GoodIn wsX1_lengthOf (wsV RX1 79 RX1 yX1_blockOf wsX1_blockOf) := goodIn_app (goodIn_of _ (by decide +kernel)) ggX1_lengthOf_X1_blockOf
set_option maxRecDepth 20000 in
theorem ggX1_lengthOf_X0_read : GoodIn wsX1_lengthOf wsX0_read := goodIn_r _ [13, 14, 15, 16, 17, 12, 18, 19, 27, 28, 29, 30, 31] (by decide +kernel) (by decide +kernel)
set_option maxRecDepth 20000 in
theorem gX1_lengthOf_X0_read : GoodIn wsX1_lengthOf (wsV RX1 117 RX0 yX0_read wsX0_read) := goodIn_app (goodIn_of _ (by decide +kernel)) ggX1_lengthOf_X0_read
theorem dX1_lengthOf_0 : decode cX1_lengthOf 0 = .ok (.aload_n 0, 1) := by decide +kernel
theorem dX1_lengthOf_1 : decode cX1_lengthOf 1 = .ok (.getfield 28, 3) := by decide +kernel
theorem dX1_lengthOf_4 : decode cX1_lengthOf 4 = .ok (.aload_n 0, 1) := by decide +kernel
theorem dX1_lengthOf_5 : decode cX1_lengthOf 5 = .ok (.iload_n 1, 1) := by decide +kernel
theorem dX1_lengthOf_6 : decode cX1_lengthOf 6 = .ok (.invokevirtual 79, 3) := by decide +kernel
theorem dX1_lengthOf_9 : decode cX1_lengthOf 9 = .ok (.iconst 2, 1) := by decide +kernel
theorem dX1_lengthOf_10 : decode cX1_lengthOf 10 = .ok (.invokevirtual 117, 3) := by decide +kernel
theorem dX1_lengthOf_13 : decode cX1_lengthOf 13 = .ok (.ireturn, 1) := by decide +kernel
set_option maxRecDepth 20000 in
theorem ggX1_rowByte_X1_lengthOf : GoodIn wsX1_rowByte wsX1_lengthOf := goodIn_r _ [10, 5, 11, 12, 13, 9, 14, 15, 16, 17, 18, 19, 20, 21, 22, 23, 24, 25, 26, 27, 28, 29, 30, 31, 32, 33, 34, 35, 36, 37, 38, 39] (by decide +kernel) (by decide +kernel)
set_option maxRecDepth 20000 in
theorem gX1_rowByte_X1_lengthOf : GoodIn wsX1_rowByte (wsV RX1 82 RX1 yX1_lengthOf wsX1_lengthOf) := goodIn_app (goodIn_of _ (by decide +kernel)) ggX1_rowByte_X1_lengthOf
set_option maxRecDepth 20000 in
theorem ggX1_rowByte_X1_blockOf : GoodIn wsX1_rowByte wsX1_blockOf := goodIn_r _ [14, 15, 16, 28, 29, 30, 31, 32, 33, 34] (by decide +kernel) (by decide +kernel)
set_option maxRecDepth 20000 in
theorem gX1_rowByte_X1_blockOf : GoodIn wsX1_rowByte (wsV RX1 79 RX1 yX1_blockOf wsX1_blockOf) := goodIn_app (goodIn_of _ (by decide +kernel)) ggX1_rowByte_X1_blockOf
set_option maxRecDepth 20000 in
theorem ggX1_rowByte_X0_read : GoodIn wsX1_rowByte wsX0_read := goodIn_r _ [21, 22, 23, 24, 25, 20, 26, 27, 35, 36, 37, 38, 39] (by decide +kernel) (by decide +kernel)
set_option maxRecDepth 20000 in
theorem gX1_rowByte_X0_read : GoodIn wsX1_rowByte (wsV RX1 117 RX0 yX0_read wsX0_read) := goodIn_app (goodIn_of _ (by decide +kernel)) ggX1_rowByte_X0_read
theorem dX1_rowByte_0 : decode cX1_rowByte 0 = .ok (.aload_n 0, 1) := by decide +kernel
theorem dX1_rowByte_1 : decode cX1_rowByte 1 = .ok (.iload_n 1, 1) := by decide +kernel
theorem dX1_rowByte_2 : decode cX1_rowByte 2 = .ok (.invokevirtual 82, 3) := by decide +kernel
theorem dX1_rowByte_5 : decode cX1_rowByte 5 = .ok (.bipush 48, 2) := by decide +kernel
theorem dX1_rowByte_7 : decode cX1_rowByte 7 = .ok (.invokestatic 123, 3) := by decide +kernel
theorem dX1_rowByte_10 : decode cX1_rowByte 10 = .ok (.istore_n 3, 1) := by decide +kernel
theorem dX1_rowByte_11 : decode cX1_rowByte 11 = .ok (.iload_n 2, 1) := by decide +kernel
theorem dX1_rowByte_12 : decode cX1_rowByte 12 = .ok (.ifCond .lt 26, 3) := by decide +kernel
theorem dX1_rowByte_15 : decode cX1_rowByte 15 = .ok (.iload_n 2, 1) := by decide +kernel
theorem dX1_rowByte_16 : decode cX1_rowByte 16 = .ok (.iload_n 3, 1) := by decide +kernel
theorem dX1_rowByte_17 : decode cX1_rowByte 17 = .ok (.if_icmp .ge 21, 3) := by decide +kernel
theorem dX1_rowByte_20 : decode cX1_rowByte 20 = .ok (.aload_n 0, 1) := by decide +kernel
theorem dX1_rowByte_21 : decode cX1_rowByte 21 = .ok (.getfield 28, 3) := by decide +kernel
theorem dX1_rowByte_24 : decode cX1_rowByte 24 = .ok (.aload_n 0, 1) := by decide +kernel
theorem dX1_rowByte_25 : decode cX1_rowByte 25 = .ok (.iload_n 1, 1) := by decide +kernel
theorem dX1_rowByte_26 : decode cX1_rowByte 26 = .ok (.invokevirtual 79, 3) := by decide +kernel
theorem dX1_rowByte_29 : decode cX1_rowByte 29 = .ok (.iconst 3, 1) := by decide +kernel
theorem dX1_rowByte_30 : decode cX1_rowByte 30 = .ok (.iload_n 2, 1) := by decide +kernel
theorem dX1_rowByte_31 : decode cX1_rowByte 31 = .ok (.iadd, 1) := by decide +kernel
theorem dX1_rowByte_32 : decode cX1_rowByte 32 = .ok (.invokevirtual 117, 3) := by decide +kernel
theorem dX1_rowByte_35 : decode cX1_rowByte 35 = .ok (.goto 4, 3) := by decide +kernel
theorem dX1_rowByte_38 : decode cX1_rowByte 38 = .ok (.iconst (-1), 1) := by decide +kernel
theorem dX1_rowByte_39 : decode cX1_rowByte 39 = .ok (.ireturn, 1) := by decide +kernel
theorem dX1_fedByte_0 : decode cX1_fedByte 0 = .ok (.iload_n 1, 1) := by decide +kernel
theorem dX1_fedByte_1 : decode cX1_fedByte 1 = .ok (.ifCond .lt 29, 3) := by decide +kernel
theorem dX1_fedByte_4 : decode cX1_fedByte 4 = .ok (.iload_n 1, 1) := by decide +kernel
theorem dX1_fedByte_5 : decode cX1_fedByte 5 = .ok (.aload_n 0, 1) := by decide +kernel
theorem dX1_fedByte_6 : decode cX1_fedByte 6 = .ok (.getfield 13, 3) := by decide +kernel
theorem dX1_fedByte_9 : decode cX1_fedByte 9 = .ok (.if_icmp .ge 21, 3) := by decide +kernel
theorem dX1_fedByte_12 : decode cX1_fedByte 12 = .ok (.iload_n 1, 1) := by decide +kernel
theorem dX1_fedByte_13 : decode cX1_fedByte 13 = .ok (.aload_n 0, 1) := by decide +kernel
theorem dX1_fedByte_14 : decode cX1_fedByte 14 = .ok (.getfield 9, 3) := by decide +kernel
theorem dX1_fedByte_17 : decode cX1_fedByte 17 = .ok (.arraylength, 1) := by decide +kernel
theorem dX1_fedByte_18 : decode cX1_fedByte 18 = .ok (.if_icmp .ge 12, 3) := by decide +kernel
theorem dX1_fedByte_21 : decode cX1_fedByte 21 = .ok (.aload_n 0, 1) := by decide +kernel
theorem dX1_fedByte_22 : decode cX1_fedByte 22 = .ok (.getfield 9, 3) := by decide +kernel
theorem dX1_fedByte_25 : decode cX1_fedByte 25 = .ok (.iload_n 1, 1) := by decide +kernel
theorem dX1_fedByte_26 : decode cX1_fedByte 26 = .ok (.iaload, 1) := by decide +kernel
theorem dX1_fedByte_27 : decode cX1_fedByte 27 = .ok (.goto 4, 3) := by decide +kernel
theorem dX1_fedByte_30 : decode cX1_fedByte 30 = .ok (.iconst 0, 1) := by decide +kernel
theorem dX1_fedByte_31 : decode cX1_fedByte 31 = .ok (.ireturn, 1) := by decide +kernel
set_option maxRecDepth 20000 in
theorem ggX1_firstEntryWithFedRow_X1_hasFedRow : GoodIn wsX1_firstEntryWithFedRow wsX1_hasFedRow := goodIn_r _ [6, 7, 8, 9, 10, 5, 11, 12, 13, 14, 15, 16, 1, 17, 18, 19, 20, 21, 22, 23, 24, 25, 26, 27, 28, 29, 30, 31, 32, 33, 34, 35, 36, 37, 38, 39, 40, 41, 42, 43, 44, 45, 46, 47, 48, 49, 50, 51, 52, 53] (by decide +kernel) (by decide +kernel)
set_option maxRecDepth 20000 in
theorem gX1_firstEntryWithFedRow_X1_hasFedRow : GoodIn wsX1_firstEntryWithFedRow (wsV RX1 128 RX1 yX1_hasFedRow wsX1_hasFedRow) := goodIn_app (goodIn_of _ (by decide +kernel)) ggX1_firstEntryWithFedRow_X1_hasFedRow
theorem dX1_firstEntryWithFedRow_0 : decode cX1_firstEntryWithFedRow 0 = .ok (.iconst 0, 1) := by decide +kernel
theorem dX1_firstEntryWithFedRow_1 : decode cX1_firstEntryWithFedRow 1 = .ok (.istore_n 1, 1) := by decide +kernel
theorem dX1_firstEntryWithFedRow_2 : decode cX1_firstEntryWithFedRow 2 = .ok (.iload_n 1, 1) := by decide +kernel
theorem dX1_firstEntryWithFedRow_3 : decode cX1_firstEntryWithFedRow 3 = .ok (.aload_n 0, 1) := by decide +kernel
theorem dX1_firstEntryWithFedRow_4 : decode cX1_firstEntryWithFedRow 4 = .ok (.getfield 20, 3) := by decide +kernel
theorem dX1_firstEntryWithFedRow_7 : decode cX1_firstEntryWithFedRow 7 = .ok (.if_icmp .ge 19, 3) := by decide +kernel
theorem dX1_firstEntryWithFedRow_10 : decode cX1_firstEntryWithFedRow 10 = .ok (.aload_n 0, 1) := by decide +kernel
theorem dX1_firstEntryWithFedRow_11 : decode cX1_firstEntryWithFedRow 11 = .ok (.iload_n 1, 1) := by decide +kernel
theorem dX1_firstEntryWithFedRow_12 : decode cX1_firstEntryWithFedRow 12 = .ok (.invokevirtual 128, 3) := by decide +kernel
theorem dX1_firstEntryWithFedRow_15 : decode cX1_firstEntryWithFedRow 15 = .ok (.ifCond .eq 5, 3) := by decide +kernel
theorem dX1_firstEntryWithFedRow_18 : decode cX1_firstEntryWithFedRow 18 = .ok (.iload_n 1, 1) := by decide +kernel
theorem dX1_firstEntryWithFedRow_19 : decode cX1_firstEntryWithFedRow 19 = .ok (.ireturn, 1) := by decide +kernel
theorem dX1_firstEntryWithFedRow_20 : decode cX1_firstEntryWithFedRow 20 = .ok (.iinc 1 1, 3) := by decide +kernel
theorem dX1_firstEntryWithFedRow_23 : decode cX1_firstEntryWithFedRow 23 = .ok (.goto (-21), 3) := by decide +kernel
theorem dX1_firstEntryWithFedRow_26 : decode cX1_firstEntryWithFedRow 26 = .ok (.iconst (-1), 1) := by decide +kernel
theorem dX1_firstEntryWithFedRow_27 : decode cX1_firstEntryWithFedRow 27 = .ok (.ireturn, 1) := by decide +kernel
set_option maxRecDepth 20000 in
theorem ggX1_hasFedRow_X1_lengthOf : GoodIn wsX1_hasFedRow wsX1_lengthOf := goodIn_r _ [6, 7, 8, 9, 10, 5, 11, 12, 13, 14, 15, 16, 17, 18, 19, 20, 21, 22, 23, 24, 38, 39, 40, 41, 42, 43, 44, 45, 46, 47, 48, 49] (by decide +kernel) (by decide +kernel)
set_option maxRecDepth 20000 in
theorem gX1_hasFedRow_X1_lengthOf : GoodIn wsX1_hasFedRow (wsV RX1 82 RX1 yX1_lengthOf wsX1_lengthOf) := goodIn_app (goodIn_of _ (by decide +kernel)) ggX1_hasFedRow_X1_lengthOf
set_option maxRecDepth 20000 in
theorem ggX1_hasFedRow_X1_rowByte : GoodIn wsX1_hasFedRow wsX1_rowByte := goodIn_r _ [28, 29, 30, 31, 32, 7, 2, 3, 4, 5, 6, 8, 9, 10, 11, 12, 13, 14, 15, 16, 17, 18, 19, 20, 21, 22, 23, 24, 38, 39, 40, 41, 42, 43, 44, 45, 46, 47, 48, 49] (by decide +kernel) (by decide +kernel)
set_option maxRecDepth 20000 in
theorem gX1_hasFedRow_X1_rowByte : GoodIn wsX1_hasFedRow (wsV RX1 71 RX1 yX1_rowByte wsX1_rowByte) := goodIn_app (goodIn_of _ (by decide +kernel)) ggX1_hasFedRow_X1_rowByte
set_option maxRecDepth 20000 in
theorem ggX1_hasFedRow_X1_fedByte : GoodIn wsX1_hasFedRow wsX1_fedByte := goodIn_r _ [36, 1, 37, 38, 39, 40, 41, 42, 43, 44] (by decide +kernel) (by decide +kernel)
set_option maxRecDepth 20000 in
theorem gX1_hasFedRow_X1_fedByte : GoodIn wsX1_hasFedRow (wsV RX1 131 RX1 yX1_fedByte wsX1_fedByte) := goodIn_app (goodIn_of _ (by decide +kernel)) ggX1_hasFedRow_X1_fedByte
theorem dX1_hasFedRow_0 : decode cX1_hasFedRow 0 = .ok (.aload_n 0, 1) := by decide +kernel
theorem dX1_hasFedRow_1 : decode cX1_hasFedRow 1 = .ok (.iload_n 1, 1) := by decide +kernel
theorem dX1_hasFedRow_2 : decode cX1_hasFedRow 2 = .ok (.invokevirtual 82, 3) := by decide +kernel
theorem dX1_hasFedRow_5 : decode cX1_hasFedRow 5 = .ok (.aload_n 0, 1) := by decide +kernel
theorem dX1_hasFedRow_6 : decode cX1_hasFedRow 6 = .ok (.getfield 13, 3) := by decide +kernel
theorem dX1_hasFedRow_9 : decode cX1_hasFedRow 9 = .ok (.if_icmp .eq 5, 3) := by decide +kernel
theorem dX1_hasFedRow_12 : decode cX1_hasFedRow 12 = .ok (.iconst 0, 1) := by decide +kernel
theorem dX1_hasFedRow_13 : decode cX1_hasFedRow 13 = .ok (.ireturn, 1) := by decide +kernel
theorem dX1_hasFedRow_14 : decode cX1_hasFedRow 14 = .ok (.iconst 0, 1) := by decide +kernel
theorem dX1_hasFedRow_15 : decode cX1_hasFedRow 15 = .ok (.istore_n 2, 1) := by decide +kernel
theorem dX1_hasFedRow_16 : decode cX1_hasFedRow 16 = .ok (.iload_n 2, 1) := by decide +kernel
theorem dX1_hasFedRow_17 : decode cX1_hasFedRow 17 = .ok (.aload_n 0, 1) := by decide +kernel
theorem dX1_hasFedRow_18 : decode cX1_hasFedRow 18 = .ok (.getfield 13, 3) := by decide +kernel
theorem dX1_hasFedRow_21 : decode cX1_hasFedRow 21 = .ok (.if_icmp .ge 25, 3) := by decide +kernel
theorem dX1_hasFedRow_24 : decode cX1_hasFedRow 24 = .ok (.aload_n 0, 1) := by decide +kernel
theorem dX1_hasFedRow_25 : decode cX1_hasFedRow 25 = .ok (.iload_n 1, 1) := by decide +kernel
theorem dX1_hasFedRow_26 : decode cX1_hasFedRow 26 = .ok (.iload_n 2, 1) := by decide +kernel
theorem dX1_hasFedRow_27 : decode cX1_hasFedRow 27 = .ok (.invokevirtual 71, 3) := by decide +kernel
theorem dX1_hasFedRow_30 : decode cX1_hasFedRow 30 = .ok (.aload_n 0, 1) := by decide +kernel
theorem dX1_hasFedRow_31 : decode cX1_hasFedRow 31 = .ok (.iload_n 2, 1) := by decide +kernel
theorem dX1_hasFedRow_32 : decode cX1_hasFedRow 32 = .ok (.invokevirtual 131, 3) := by decide +kernel
theorem dX1_hasFedRow_35 : decode cX1_hasFedRow 35 = .ok (.if_icmp .eq 5, 3) := by decide +kernel
theorem dX1_hasFedRow_38 : decode cX1_hasFedRow 38 = .ok (.iconst 0, 1) := by decide +kernel
theorem dX1_hasFedRow_39 : decode cX1_hasFedRow 39 = .ok (.ireturn, 1) := by decide +kernel
theorem dX1_hasFedRow_40 : decode cX1_hasFedRow 40 = .ok (.iinc 2 1, 3) := by decide +kernel
theorem dX1_hasFedRow_43 : decode cX1_hasFedRow 43 = .ok (.goto (-27), 3) := by decide +kernel
theorem dX1_hasFedRow_46 : decode cX1_hasFedRow 46 = .ok (.iconst 1, 1) := by decide +kernel
theorem dX1_hasFedRow_47 : decode cX1_hasFedRow 47 = .ok (.ireturn, 1) := by decide +kernel
set_option maxRecDepth 20000 in
theorem ggX1_leastFreeBlock_X0_blockCount : GoodIn wsX1_leastFreeBlock wsX0_blockCount := goodIn_r _ [6, 7, 26, 27, 28, 29, 30] (by decide +kernel) (by decide +kernel)
set_option maxRecDepth 20000 in
theorem gX1_leastFreeBlock_X0_blockCount : GoodIn wsX1_leastFreeBlock (wsV RX1 120 RX0 yX0_blockCount wsX0_blockCount) := goodIn_app (goodIn_of _ (by decide +kernel)) ggX1_leastFreeBlock_X0_blockCount
set_option maxRecDepth 20000 in
theorem ggX1_leastFreeBlock_X1_isTaken : GoodIn wsX1_leastFreeBlock wsX1_isTaken := goodIn_r _ [12, 13, 14, 15, 16, 11, 17, 18, 19, 20, 21, 22, 23, 24, 25] (by decide +kernel) (by decide +kernel)
set_option maxRecDepth 20000 in
theorem gX1_leastFreeBlock_X1_isTaken : GoodIn wsX1_leastFreeBlock (wsV RX1 134 RX1 yX1_isTaken wsX1_isTaken) := goodIn_app (goodIn_of _ (by decide +kernel)) ggX1_leastFreeBlock_X1_isTaken
theorem dX1_leastFreeBlock_0 : decode cX1_leastFreeBlock 0 = .ok (.iconst 3, 1) := by decide +kernel
theorem dX1_leastFreeBlock_1 : decode cX1_leastFreeBlock 1 = .ok (.istore_n 1, 1) := by decide +kernel
theorem dX1_leastFreeBlock_2 : decode cX1_leastFreeBlock 2 = .ok (.iload_n 1, 1) := by decide +kernel
theorem dX1_leastFreeBlock_3 : decode cX1_leastFreeBlock 3 = .ok (.aload_n 0, 1) := by decide +kernel
theorem dX1_leastFreeBlock_4 : decode cX1_leastFreeBlock 4 = .ok (.getfield 28, 3) := by decide +kernel
theorem dX1_leastFreeBlock_7 : decode cX1_leastFreeBlock 7 = .ok (.invokevirtual 120, 3) := by decide +kernel
theorem dX1_leastFreeBlock_10 : decode cX1_leastFreeBlock 10 = .ok (.if_icmp .ge 19, 3) := by decide +kernel
theorem dX1_leastFreeBlock_13 : decode cX1_leastFreeBlock 13 = .ok (.aload_n 0, 1) := by decide +kernel
theorem dX1_leastFreeBlock_14 : decode cX1_leastFreeBlock 14 = .ok (.iload_n 1, 1) := by decide +kernel
theorem dX1_leastFreeBlock_15 : decode cX1_leastFreeBlock 15 = .ok (.invokevirtual 134, 3) := by decide +kernel
theorem dX1_leastFreeBlock_18 : decode cX1_leastFreeBlock 18 = .ok (.ifCond .ne 5, 3) := by decide +kernel
theorem dX1_leastFreeBlock_21 : decode cX1_leastFreeBlock 21 = .ok (.iload_n 1, 1) := by decide +kernel
theorem dX1_leastFreeBlock_22 : decode cX1_leastFreeBlock 22 = .ok (.ireturn, 1) := by decide +kernel
theorem dX1_leastFreeBlock_23 : decode cX1_leastFreeBlock 23 = .ok (.iinc 1 1, 3) := by decide +kernel
theorem dX1_leastFreeBlock_26 : decode cX1_leastFreeBlock 26 = .ok (.goto (-24), 3) := by decide +kernel
theorem dX1_leastFreeBlock_29 : decode cX1_leastFreeBlock 29 = .ok (.iconst (-1), 1) := by decide +kernel
theorem dX1_leastFreeBlock_30 : decode cX1_leastFreeBlock 30 = .ok (.ireturn, 1) := by decide +kernel
set_option maxRecDepth 20000 in
theorem ggX1_isTaken_X1_blockOf : GoodIn wsX1_isTaken wsX1_blockOf := goodIn_r _ [6, 1, 7, 8, 9, 10, 11, 12, 13, 14] (by decide +kernel) (by decide +kernel)
set_option maxRecDepth 20000 in
theorem gX1_isTaken_X1_blockOf : GoodIn wsX1_isTaken (wsV RX1 79 RX1 yX1_blockOf wsX1_blockOf) := goodIn_app (goodIn_of _ (by decide +kernel)) ggX1_isTaken_X1_blockOf
theorem dX1_isTaken_0 : decode cX1_isTaken 0 = .ok (.iconst 0, 1) := by decide +kernel
theorem dX1_isTaken_1 : decode cX1_isTaken 1 = .ok (.istore_n 2, 1) := by decide +kernel
theorem dX1_isTaken_2 : decode cX1_isTaken 2 = .ok (.iload_n 2, 1) := by decide +kernel
theorem dX1_isTaken_3 : decode cX1_isTaken 3 = .ok (.aload_n 0, 1) := by decide +kernel
theorem dX1_isTaken_4 : decode cX1_isTaken 4 = .ok (.getfield 20, 3) := by decide +kernel
theorem dX1_isTaken_7 : decode cX1_isTaken 7 = .ok (.if_icmp .ge 20, 3) := by decide +kernel
theorem dX1_isTaken_10 : decode cX1_isTaken 10 = .ok (.aload_n 0, 1) := by decide +kernel
theorem dX1_isTaken_11 : decode cX1_isTaken 11 = .ok (.iload_n 2, 1) := by decide +kernel
theorem dX1_isTaken_12 : decode cX1_isTaken 12 = .ok (.invokevirtual 79, 3) := by decide +kernel
theorem dX1_isTaken_15 : decode cX1_isTaken 15 = .ok (.iload_n 1, 1) := by decide +kernel
theorem dX1_isTaken_16 : decode cX1_isTaken 16 = .ok (.if_icmp .ne 5, 3) := by decide +kernel
theorem dX1_isTaken_19 : decode cX1_isTaken 19 = .ok (.iconst 1, 1) := by decide +kernel
theorem dX1_isTaken_20 : decode cX1_isTaken 20 = .ok (.ireturn, 1) := by decide +kernel
theorem dX1_isTaken_21 : decode cX1_isTaken 21 = .ok (.iinc 2 1, 3) := by decide +kernel
theorem dX1_isTaken_24 : decode cX1_isTaken 24 = .ok (.goto (-22), 3) := by decide +kernel
theorem dX1_isTaken_27 : decode cX1_isTaken 27 = .ok (.iconst 0, 1) := by decide +kernel
theorem dX1_isTaken_28 : decode cX1_isTaken 28 = .ok (.ireturn, 1) := by decide +kernel
theorem dX1_addEntryBlock_0 : decode cX1_addEntryBlock 0 = .ok (.aload_n 0, 1) := by decide +kernel
theorem dX1_addEntryBlock_1 : decode cX1_addEntryBlock 1 = .ok (.getfield 20, 3) := by decide +kernel
theorem dX1_addEntryBlock_4 : decode cX1_addEntryBlock 4 = .ok (.ifCond .lt 35, 3) := by decide +kernel
theorem dX1_addEntryBlock_7 : decode cX1_addEntryBlock 7 = .ok (.aload_n 0, 1) := by decide +kernel
theorem dX1_addEntryBlock_8 : decode cX1_addEntryBlock 8 = .ok (.getfield 20, 3) := by decide +kernel
theorem dX1_addEntryBlock_11 : decode cX1_addEntryBlock 11 = .ok (.aload_n 0, 1) := by decide +kernel
theorem dX1_addEntryBlock_12 : decode cX1_addEntryBlock 12 = .ok (.getfield 17, 3) := by decide +kernel
theorem dX1_addEntryBlock_15 : decode cX1_addEntryBlock 15 = .ok (.arraylength, 1) := by decide +kernel
theorem dX1_addEntryBlock_16 : decode cX1_addEntryBlock 16 = .ok (.if_icmp .ge 23, 3) := by decide +kernel
theorem dX1_addEntryBlock_19 : decode cX1_addEntryBlock 19 = .ok (.aload_n 0, 1) := by decide +kernel
theorem dX1_addEntryBlock_20 : decode cX1_addEntryBlock 20 = .ok (.getfield 17, 3) := by decide +kernel
theorem dX1_addEntryBlock_23 : decode cX1_addEntryBlock 23 = .ok (.aload_n 0, 1) := by decide +kernel
theorem dX1_addEntryBlock_24 : decode cX1_addEntryBlock 24 = .ok (.getfield 20, 3) := by decide +kernel
theorem dX1_addEntryBlock_27 : decode cX1_addEntryBlock 27 = .ok (.iload_n 1, 1) := by decide +kernel
theorem dX1_addEntryBlock_28 : decode cX1_addEntryBlock 28 = .ok (.iastore, 1) := by decide +kernel
theorem dX1_addEntryBlock_29 : decode cX1_addEntryBlock 29 = .ok (.aload_n 0, 1) := by decide +kernel
theorem dX1_addEntryBlock_30 : decode cX1_addEntryBlock 30 = .ok (.dup, 1) := by decide +kernel
theorem dX1_addEntryBlock_31 : decode cX1_addEntryBlock 31 = .ok (.getfield 20, 3) := by decide +kernel
theorem dX1_addEntryBlock_34 : decode cX1_addEntryBlock 34 = .ok (.iconst 1, 1) := by decide +kernel
theorem dX1_addEntryBlock_35 : decode cX1_addEntryBlock 35 = .ok (.iadd, 1) := by decide +kernel
theorem dX1_addEntryBlock_36 : decode cX1_addEntryBlock 36 = .ok (.putfield 20, 3) := by decide +kernel
theorem dX1_addEntryBlock_39 : decode cX1_addEntryBlock 39 = .ok (.return_, 1) := by decide +kernel
theorem dX1_removeEntryBlock_0 : decode cX1_removeEntryBlock 0 = .ok (.iload_n 1, 1) := by decide +kernel
theorem dX1_removeEntryBlock_1 : decode cX1_removeEntryBlock 1 = .ok (.ifCond .lt 11, 3) := by decide +kernel
theorem dX1_removeEntryBlock_4 : decode cX1_removeEntryBlock 4 = .ok (.iload_n 1, 1) := by decide +kernel
theorem dX1_removeEntryBlock_5 : decode cX1_removeEntryBlock 5 = .ok (.aload_n 0, 1) := by decide +kernel
theorem dX1_removeEntryBlock_6 : decode cX1_removeEntryBlock 6 = .ok (.getfield 20, 3) := by decide +kernel
theorem dX1_removeEntryBlock_9 : decode cX1_removeEntryBlock 9 = .ok (.if_icmp .lt 4, 3) := by decide +kernel
theorem dX1_removeEntryBlock_12 : decode cX1_removeEntryBlock 12 = .ok (.return_, 1) := by decide +kernel
theorem dX1_removeEntryBlock_13 : decode cX1_removeEntryBlock 13 = .ok (.iload_n 1, 1) := by decide +kernel
theorem dX1_removeEntryBlock_14 : decode cX1_removeEntryBlock 14 = .ok (.istore_n 2, 1) := by decide +kernel
theorem dX1_removeEntryBlock_15 : decode cX1_removeEntryBlock 15 = .ok (.iload_n 2, 1) := by decide +kernel
theorem dX1_removeEntryBlock_16 : decode cX1_removeEntryBlock 16 = .ok (.iconst 1, 1) := by decide +kernel
theorem dX1_removeEntryBlock_17 : decode cX1_removeEntryBlock 17 = .ok (.iadd, 1) := by decide +kernel
theorem dX1_removeEntryBlock_18 : decode cX1_removeEntryBlock 18 = .ok (.aload_n 0, 1) := by decide +kernel
theorem dX1_removeEntryBlock_19 : decode cX1_removeEntryBlock 19 = .ok (.getfield 20, 3) := by decide +kernel
theorem dX1_removeEntryBlock_22 : decode cX1_removeEntryBlock 22 = .ok (.if_icmp .ge 34, 3) := by decide +kernel
theorem dX1_removeEntryBlock_25 : decode cX1_removeEntryBlock 25 = .ok (.iload_n 2, 1) := by decide +kernel
theorem dX1_removeEntryBlock_26 : decode cX1_removeEntryBlock 26 = .ok (.iconst 1, 1) := by decide +kernel
theorem dX1_removeEntryBlock_27 : decode cX1_removeEntryBlock 27 = .ok (.iadd, 1) := by decide +kernel
theorem dX1_removeEntryBlock_28 : decode cX1_removeEntryBlock 28 = .ok (.aload_n 0, 1) := by decide +kernel
theorem dX1_removeEntryBlock_29 : decode cX1_removeEntryBlock 29 = .ok (.getfield 17, 3) := by decide +kernel
theorem dX1_removeEntryBlock_32 : decode cX1_removeEntryBlock 32 = .ok (.arraylength, 1) := by decide +kernel
theorem dX1_removeEntryBlock_33 : decode cX1_removeEntryBlock 33 = .ok (.if_icmp .ge 23, 3) := by decide +kernel
theorem dX1_removeEntryBlock_36 : decode cX1_removeEntryBlock 36 = .ok (.aload_n 0, 1) := by decide +kernel
theorem dX1_removeEntryBlock_37 : decode cX1_removeEntryBlock 37 = .ok (.getfield 17, 3) := by decide +kernel
theorem dX1_removeEntryBlock_40 : decode cX1_removeEntryBlock 40 = .ok (.iload_n 2, 1) := by decide +kernel
theorem dX1_removeEntryBlock_41 : decode cX1_removeEntryBlock 41 = .ok (.aload_n 0, 1) := by decide +kernel
theorem dX1_removeEntryBlock_42 : decode cX1_removeEntryBlock 42 = .ok (.getfield 17, 3) := by decide +kernel
theorem dX1_removeEntryBlock_45 : decode cX1_removeEntryBlock 45 = .ok (.iload_n 2, 1) := by decide +kernel
theorem dX1_removeEntryBlock_46 : decode cX1_removeEntryBlock 46 = .ok (.iconst 1, 1) := by decide +kernel
theorem dX1_removeEntryBlock_47 : decode cX1_removeEntryBlock 47 = .ok (.iadd, 1) := by decide +kernel
theorem dX1_removeEntryBlock_48 : decode cX1_removeEntryBlock 48 = .ok (.iaload, 1) := by decide +kernel
theorem dX1_removeEntryBlock_49 : decode cX1_removeEntryBlock 49 = .ok (.iastore, 1) := by decide +kernel
theorem dX1_removeEntryBlock_50 : decode cX1_removeEntryBlock 50 = .ok (.iinc 2 1, 3) := by decide +kernel
theorem dX1_removeEntryBlock_53 : decode cX1_removeEntryBlock 53 = .ok (.goto (-38), 3) := by decide +kernel
theorem dX1_removeEntryBlock_56 : decode cX1_removeEntryBlock 56 = .ok (.aload_n 0, 1) := by decide +kernel
theorem dX1_removeEntryBlock_57 : decode cX1_removeEntryBlock 57 = .ok (.dup, 1) := by decide +kernel
theorem dX1_removeEntryBlock_58 : decode cX1_removeEntryBlock 58 = .ok (.getfield 20, 3) := by decide +kernel
theorem dX1_removeEntryBlock_61 : decode cX1_removeEntryBlock 61 = .ok (.iconst 1, 1) := by decide +kernel
theorem dX1_removeEntryBlock_62 : decode cX1_removeEntryBlock 62 = .ok (.isub, 1) := by decide +kernel
theorem dX1_removeEntryBlock_63 : decode cX1_removeEntryBlock 63 = .ok (.putfield 20, 3) := by decide +kernel
theorem dX1_removeEntryBlock_66 : decode cX1_removeEntryBlock 66 = .ok (.return_, 1) := by decide +kernel
set_option maxRecDepth 20000 in
theorem ggX1_writeEntryBlock_X0_write : GoodIn wsX1_writeEntryBlock wsX0_write := goodIn_r _ [7, 8, 9, 10, 11, 12, 13, 14, 6, 15, 16, 44, 45, 46, 47, 48] (by decide +kernel) (by decide +kernel)
set_option maxRecDepth 20000 in
theorem gX1_writeEntryBlock_X0_write : GoodIn wsX1_writeEntryBlock (wsV RX1 38 RX0 yX0_write wsX0_write) := goodIn_app (goodIn_of _ (by decide +kernel)) ggX1_writeEntryBlock_X0_write
set_option maxRecDepth 20000 in
theorem ggX1_writeEntryBlock_X1_fedByte : GoodIn wsX1_writeEntryBlock wsX1_fedByte := goodIn_r _ [21, 2, 22, 37, 38, 39, 40, 41, 42, 43] (by decide +kernel) (by decide +kernel)
set_option maxRecDepth 20000 in
theorem gX1_writeEntryBlock_X1_fedByte : GoodIn wsX1_writeEntryBlock (wsV RX1 131 RX1 yX1_fedByte wsX1_fedByte) := goodIn_app (goodIn_of _ (by decide +kernel)) ggX1_writeEntryBlock_X1_fedByte
set_option maxRecDepth 20000 in
theorem ggX1_writeEntryBlock_X0_writeSum : GoodIn wsX1_writeEntryBlock wsX0_writeSum := goodIn_r _ [26, 27, 28, 29, 6, 30, 31, 32, 33, 34, 35, 11, 12, 13, 14, 15, 16, 36, 4, 5, 7, 8, 9, 10, 44, 45, 46, 47, 48] (by decide +kernel) (by decide +kernel)
set_option maxRecDepth 20000 in
theorem gX1_writeEntryBlock_X0_writeSum : GoodIn wsX1_writeEntryBlock (wsV RX1 137 RX0 yX0_writeSum wsX0_writeSum) := goodIn_app (goodIn_of _ (by decide +kernel)) ggX1_writeEntryBlock_X0_writeSum
theorem dX1_writeEntryBlock_0 : decode cX1_writeEntryBlock 0 = .ok (.aload_n 0, 1) := by decide +kernel
theorem dX1_writeEntryBlock_1 : decode cX1_writeEntryBlock 1 = .ok (.getfield 28, 3) := by decide +kernel
theorem dX1_writeEntryBlock_4 : decode cX1_writeEntryBlock 4 = .ok (.iload_n 1, 1) := by decide +kernel
theorem dX1_writeEntryBlock_5 : decode cX1_writeEntryBlock 5 = .ok (.iconst 0, 1) := by decide +kernel
theorem dX1_writeEntryBlock_6 : decode cX1_writeEntryBlock 6 = .ok (.iload_n 2, 1) := by decide +kernel
theorem dX1_writeEntryBlock_7 : decode cX1_writeEntryBlock 7 = .ok (.invokevirtual 38, 3) := by decide +kernel
theorem dX1_writeEntryBlock_10 : decode cX1_writeEntryBlock 10 = .ok (.aload_n 0, 1) := by decide +kernel
theorem dX1_writeEntryBlock_11 : decode cX1_writeEntryBlock 11 = .ok (.getfield 28, 3) := by decide +kernel
theorem dX1_writeEntryBlock_14 : decode cX1_writeEntryBlock 14 = .ok (.iload_n 1, 1) := by decide +kernel
theorem dX1_writeEntryBlock_15 : decode cX1_writeEntryBlock 15 = .ok (.iconst 1, 1) := by decide +kernel
theorem dX1_writeEntryBlock_16 : decode cX1_writeEntryBlock 16 = .ok (.iload_n 2, 1) := by decide +kernel
theorem dX1_writeEntryBlock_17 : decode cX1_writeEntryBlock 17 = .ok (.bipush 8, 2) := by decide +kernel
theorem dX1_writeEntryBlock_19 : decode cX1_writeEntryBlock 19 = .ok (.ishr, 1) := by decide +kernel
theorem dX1_writeEntryBlock_20 : decode cX1_writeEntryBlock 20 = .ok (.invokevirtual 38, 3) := by decide +kernel
theorem dX1_writeEntryBlock_23 : decode cX1_writeEntryBlock 23 = .ok (.aload_n 0, 1) := by decide +kernel
theorem dX1_writeEntryBlock_24 : decode cX1_writeEntryBlock 24 = .ok (.getfield 28, 3) := by decide +kernel
theorem dX1_writeEntryBlock_27 : decode cX1_writeEntryBlock 27 = .ok (.iload_n 1, 1) := by decide +kernel
theorem dX1_writeEntryBlock_28 : decode cX1_writeEntryBlock 28 = .ok (.iconst 2, 1) := by decide +kernel
theorem dX1_writeEntryBlock_29 : decode cX1_writeEntryBlock 29 = .ok (.aload_n 0, 1) := by decide +kernel
theorem dX1_writeEntryBlock_30 : decode cX1_writeEntryBlock 30 = .ok (.getfield 13, 3) := by decide +kernel
theorem dX1_writeEntryBlock_33 : decode cX1_writeEntryBlock 33 = .ok (.invokevirtual 38, 3) := by decide +kernel
theorem dX1_writeEntryBlock_36 : decode cX1_writeEntryBlock 36 = .ok (.iconst 3, 1) := by decide +kernel
theorem dX1_writeEntryBlock_37 : decode cX1_writeEntryBlock 37 = .ok (.istore_n 3, 1) := by decide +kernel
theorem dX1_writeEntryBlock_38 : decode cX1_writeEntryBlock 38 = .ok (.iload_n 3, 1) := by decide +kernel
theorem dX1_writeEntryBlock_39 : decode cX1_writeEntryBlock 39 = .ok (.bipush 60, 2) := by decide +kernel
theorem dX1_writeEntryBlock_41 : decode cX1_writeEntryBlock 41 = .ok (.if_icmp .ge 25, 3) := by decide +kernel
theorem dX1_writeEntryBlock_44 : decode cX1_writeEntryBlock 44 = .ok (.aload_n 0, 1) := by decide +kernel
theorem dX1_writeEntryBlock_45 : decode cX1_writeEntryBlock 45 = .ok (.getfield 28, 3) := by decide +kernel
theorem dX1_writeEntryBlock_48 : decode cX1_writeEntryBlock 48 = .ok (.iload_n 1, 1) := by decide +kernel
theorem dX1_writeEntryBlock_49 : decode cX1_writeEntryBlock 49 = .ok (.iload_n 3, 1) := by decide +kernel
theorem dX1_writeEntryBlock_50 : decode cX1_writeEntryBlock 50 = .ok (.aload_n 0, 1) := by decide +kernel
theorem dX1_writeEntryBlock_51 : decode cX1_writeEntryBlock 51 = .ok (.iload_n 3, 1) := by decide +kernel
theorem dX1_writeEntryBlock_52 : decode cX1_writeEntryBlock 52 = .ok (.iconst 3, 1) := by decide +kernel
theorem dX1_writeEntryBlock_53 : decode cX1_writeEntryBlock 53 = .ok (.isub, 1) := by decide +kernel
theorem dX1_writeEntryBlock_54 : decode cX1_writeEntryBlock 54 = .ok (.invokevirtual 131, 3) := by decide +kernel
theorem dX1_writeEntryBlock_57 : decode cX1_writeEntryBlock 57 = .ok (.invokevirtual 38, 3) := by decide +kernel
theorem dX1_writeEntryBlock_60 : decode cX1_writeEntryBlock 60 = .ok (.iinc 3 1, 3) := by decide +kernel
theorem dX1_writeEntryBlock_63 : decode cX1_writeEntryBlock 63 = .ok (.goto (-25), 3) := by decide +kernel
theorem dX1_writeEntryBlock_66 : decode cX1_writeEntryBlock 66 = .ok (.aload_n 0, 1) := by decide +kernel
theorem dX1_writeEntryBlock_67 : decode cX1_writeEntryBlock 67 = .ok (.getfield 28, 3) := by decide +kernel
theorem dX1_writeEntryBlock_70 : decode cX1_writeEntryBlock 70 = .ok (.iload_n 1, 1) := by decide +kernel
theorem dX1_writeEntryBlock_71 : decode cX1_writeEntryBlock 71 = .ok (.invokevirtual 137, 3) := by decide +kernel
theorem dX1_writeEntryBlock_74 : decode cX1_writeEntryBlock 74 = .ok (.return_, 1) := by decide +kernel
set_option maxRecDepth 20000 in
theorem ggX1_writeRootBlock_X0_write : GoodIn wsX1_writeRootBlock wsX0_write := goodIn_r _ [7, 8, 9, 10, 11, 12, 13, 14, 6, 15, 16, 44, 45, 46, 47, 48] (by decide +kernel) (by decide +kernel)
set_option maxRecDepth 20000 in
theorem gX1_writeRootBlock_X0_write : GoodIn wsX1_writeRootBlock (wsV RX1 38 RX0 yX0_write wsX0_write) := goodIn_app (goodIn_of _ (by decide +kernel)) ggX1_writeRootBlock_X0_write
set_option maxRecDepth 20000 in
theorem ggX1_writeRootBlock_X1_blockOf : GoodIn wsX1_writeRootBlock wsX1_blockOf := goodIn_r _ [21, 2, 22, 37, 38, 39, 40, 41, 42, 43] (by decide +kernel) (by decide +kernel)
set_option maxRecDepth 20000 in
theorem gX1_writeRootBlock_X1_blockOf : GoodIn wsX1_writeRootBlock (wsV RX1 79 RX1 yX1_blockOf wsX1_blockOf) := goodIn_app (goodIn_of _ (by decide +kernel)) ggX1_writeRootBlock_X1_blockOf
set_option maxRecDepth 20000 in
theorem ggX1_writeRootBlock_X0_writeSum : GoodIn wsX1_writeRootBlock wsX0_writeSum := goodIn_r _ [26, 27, 28, 29, 6, 30, 31, 32, 33, 34, 35, 11, 12, 13, 14, 15, 16, 36, 4, 5, 7, 8, 9, 10, 44, 45, 46, 47, 48] (by decide +kernel) (by decide +kernel)
set_option maxRecDepth 20000 in
theorem gX1_writeRootBlock_X0_writeSum : GoodIn wsX1_writeRootBlock (wsV RX1 137 RX0 yX0_writeSum wsX0_writeSum) := goodIn_app (goodIn_of _ (by decide +kernel)) ggX1_writeRootBlock_X0_writeSum
theorem dX1_writeRootBlock_0 : decode cX1_writeRootBlock 0 = .ok (.aload_n 0, 1) := by decide +kernel
theorem dX1_writeRootBlock_1 : decode cX1_writeRootBlock 1 = .ok (.getfield 28, 3) := by decide +kernel
theorem dX1_writeRootBlock_4 : decode cX1_writeRootBlock 4 = .ok (.iload_n 1, 1) := by decide +kernel
theorem dX1_writeRootBlock_5 : decode cX1_writeRootBlock 5 = .ok (.iconst 0, 1) := by decide +kernel
theorem dX1_writeRootBlock_6 : decode cX1_writeRootBlock 6 = .ok (.aload_n 0, 1) := by decide +kernel
theorem dX1_writeRootBlock_7 : decode cX1_writeRootBlock 7 = .ok (.getfield 20, 3) := by decide +kernel
theorem dX1_writeRootBlock_10 : decode cX1_writeRootBlock 10 = .ok (.invokevirtual 38, 3) := by decide +kernel
theorem dX1_writeRootBlock_13 : decode cX1_writeRootBlock 13 = .ok (.iconst 1, 1) := by decide +kernel
theorem dX1_writeRootBlock_14 : decode cX1_writeRootBlock 14 = .ok (.istore_n 2, 1) := by decide +kernel
theorem dX1_writeRootBlock_15 : decode cX1_writeRootBlock 15 = .ok (.iload_n 2, 1) := by decide +kernel
theorem dX1_writeRootBlock_16 : decode cX1_writeRootBlock 16 = .ok (.bipush 60, 2) := by decide +kernel
theorem dX1_writeRootBlock_18 : decode cX1_writeRootBlock 18 = .ok (.if_icmp .ge 25, 3) := by decide +kernel
theorem dX1_writeRootBlock_21 : decode cX1_writeRootBlock 21 = .ok (.aload_n 0, 1) := by decide +kernel
theorem dX1_writeRootBlock_22 : decode cX1_writeRootBlock 22 = .ok (.getfield 28, 3) := by decide +kernel
theorem dX1_writeRootBlock_25 : decode cX1_writeRootBlock 25 = .ok (.iload_n 1, 1) := by decide +kernel
theorem dX1_writeRootBlock_26 : decode cX1_writeRootBlock 26 = .ok (.iload_n 2, 1) := by decide +kernel
theorem dX1_writeRootBlock_27 : decode cX1_writeRootBlock 27 = .ok (.aload_n 0, 1) := by decide +kernel
theorem dX1_writeRootBlock_28 : decode cX1_writeRootBlock 28 = .ok (.iload_n 2, 1) := by decide +kernel
theorem dX1_writeRootBlock_29 : decode cX1_writeRootBlock 29 = .ok (.iconst 1, 1) := by decide +kernel
theorem dX1_writeRootBlock_30 : decode cX1_writeRootBlock 30 = .ok (.isub, 1) := by decide +kernel
theorem dX1_writeRootBlock_31 : decode cX1_writeRootBlock 31 = .ok (.invokevirtual 79, 3) := by decide +kernel
theorem dX1_writeRootBlock_34 : decode cX1_writeRootBlock 34 = .ok (.invokevirtual 38, 3) := by decide +kernel
theorem dX1_writeRootBlock_37 : decode cX1_writeRootBlock 37 = .ok (.iinc 2 1, 3) := by decide +kernel
theorem dX1_writeRootBlock_40 : decode cX1_writeRootBlock 40 = .ok (.goto (-25), 3) := by decide +kernel
theorem dX1_writeRootBlock_43 : decode cX1_writeRootBlock 43 = .ok (.aload_n 0, 1) := by decide +kernel
theorem dX1_writeRootBlock_44 : decode cX1_writeRootBlock 44 = .ok (.getfield 28, 3) := by decide +kernel
theorem dX1_writeRootBlock_47 : decode cX1_writeRootBlock 47 = .ok (.iload_n 1, 1) := by decide +kernel
theorem dX1_writeRootBlock_48 : decode cX1_writeRootBlock 48 = .ok (.invokevirtual 137, 3) := by decide +kernel
theorem dX1_writeRootBlock_51 : decode cX1_writeRootBlock 51 = .ok (.return_, 1) := by decide +kernel
set_option maxRecDepth 20000 in
theorem ggX1_writeOtherRootAndTurn_X1_writeRootBlock : GoodIn wsX1_writeOtherRootAndTurn wsX1_writeRootBlock := goodIn_r _ [7, 2, 8, 9, 10, 11, 12, 13, 14, 15, 16, 17, 18, 19, 20, 21, 22, 23, 24, 25, 6, 26, 27, 28, 29, 30, 31, 32, 33, 34, 35, 36, 37, 38, 39, 40, 41, 42, 43, 44, 45, 46, 47, 48, 49, 50, 51, 52, 53] (by decide +kernel) (by decide +kernel)
set_option maxRecDepth 20000 in
theorem gX1_writeOtherRootAndTurn_X1_writeRootBlock : GoodIn wsX1_writeOtherRootAndTurn (wsV RX1 35 RX1 yX1_writeRootBlock wsX1_writeRootBlock) := goodIn_app (goodIn_of _ (by decide +kernel)) ggX1_writeOtherRootAndTurn_X1_writeRootBlock
set_option maxRecDepth 20000 in
theorem ggX1_writeOtherRootAndTurn_X0_write : GoodIn wsX1_writeOtherRootAndTurn wsX0_write := goodIn_r _ [13, 14, 15, 16, 17, 18, 19, 20, 12, 21, 22, 49, 50, 51, 52, 53] (by decide +kernel) (by decide +kernel)
set_option maxRecDepth 20000 in
theorem gX1_writeOtherRootAndTurn_X0_write : GoodIn wsX1_writeOtherRootAndTurn (wsV RX1 38 RX0 yX0_write wsX0_write) := goodIn_app (goodIn_of _ (by decide +kernel)) ggX1_writeOtherRootAndTurn_X0_write
theorem dX1_writeOtherRootAndTurn_0 : decode cX1_writeOtherRootAndTurn 0 = .ok (.aload_n 0, 1) := by decide +kernel
theorem dX1_writeOtherRootAndTurn_1 : decode cX1_writeOtherRootAndTurn 1 = .ok (.getfield 32, 3) := by decide +kernel
theorem dX1_writeOtherRootAndTurn_4 : decode cX1_writeOtherRootAndTurn 4 = .ok (.iconst 1, 1) := by decide +kernel
theorem dX1_writeOtherRootAndTurn_5 : decode cX1_writeOtherRootAndTurn 5 = .ok (.if_icmp .ne 7, 3) := by decide +kernel
theorem dX1_writeOtherRootAndTurn_8 : decode cX1_writeOtherRootAndTurn 8 = .ok (.iconst 2, 1) := by decide +kernel
theorem dX1_writeOtherRootAndTurn_9 : decode cX1_writeOtherRootAndTurn 9 = .ok (.goto 4, 3) := by decide +kernel
theorem dX1_writeOtherRootAndTurn_12 : decode cX1_writeOtherRootAndTurn 12 = .ok (.iconst 1, 1) := by decide +kernel
theorem dX1_writeOtherRootAndTurn_13 : decode cX1_writeOtherRootAndTurn 13 = .ok (.istore_n 1, 1) := by decide +kernel
theorem dX1_writeOtherRootAndTurn_14 : decode cX1_writeOtherRootAndTurn 14 = .ok (.aload_n 0, 1) := by decide +kernel
theorem dX1_writeOtherRootAndTurn_15 : decode cX1_writeOtherRootAndTurn 15 = .ok (.iload_n 1, 1) := by decide +kernel
theorem dX1_writeOtherRootAndTurn_16 : decode cX1_writeOtherRootAndTurn 16 = .ok (.invokevirtual 35, 3) := by decide +kernel
theorem dX1_writeOtherRootAndTurn_19 : decode cX1_writeOtherRootAndTurn 19 = .ok (.aload_n 0, 1) := by decide +kernel
theorem dX1_writeOtherRootAndTurn_20 : decode cX1_writeOtherRootAndTurn 20 = .ok (.getfield 28, 3) := by decide +kernel
theorem dX1_writeOtherRootAndTurn_23 : decode cX1_writeOtherRootAndTurn 23 = .ok (.iconst 0, 1) := by decide +kernel
theorem dX1_writeOtherRootAndTurn_24 : decode cX1_writeOtherRootAndTurn 24 = .ok (.iconst 0, 1) := by decide +kernel
theorem dX1_writeOtherRootAndTurn_25 : decode cX1_writeOtherRootAndTurn 25 = .ok (.iload_n 1, 1) := by decide +kernel
theorem dX1_writeOtherRootAndTurn_26 : decode cX1_writeOtherRootAndTurn 26 = .ok (.invokevirtual 38, 3) := by decide +kernel
theorem dX1_writeOtherRootAndTurn_29 : decode cX1_writeOtherRootAndTurn 29 = .ok (.aload_n 0, 1) := by decide +kernel
theorem dX1_writeOtherRootAndTurn_30 : decode cX1_writeOtherRootAndTurn 30 = .ok (.iload_n 1, 1) := by decide +kernel
theorem dX1_writeOtherRootAndTurn_31 : decode cX1_writeOtherRootAndTurn 31 = .ok (.putfield 32, 3) := by decide +kernel
theorem dX1_writeOtherRootAndTurn_34 : decode cX1_writeOtherRootAndTurn 34 = .ok (.return_, 1) := by decide +kernel
set_option maxRecDepth 20000 in
theorem ggX1_readFromStore_X0_read : GoodIn wsX1_readFromStore wsX0_read := goodIn_r _ [8, 9, 10, 11, 12, 7, 13, 14, 69, 70, 71, 72, 73] (by decide +kernel) (by decide +kernel)
set_option maxRecDepth 20000 in
theorem gX1_readFromStore_X0_read : GoodIn wsX1_readFromStore (wsV RX1 117 RX0 yX0_read wsX0_read) := goodIn_app (goodIn_of _ (by decide +kernel)) ggX1_readFromStore_X0_read
set_option maxRecDepth 20000 in
theorem ggX1_readFromStore_X1_readRootBlock : GoodIn wsX1_readFromStore wsX1_readRootBlock := goodIn_r _ [19, 2, 4, 5, 6, 7, 8, 9, 10, 11, 12, 13, 14, 20, 21, 22, 23, 24, 25, 26, 27, 28, 29, 30, 31, 32, 33, 34, 35, 36, 18, 37, 1, 38, 39, 40, 41, 42, 43, 44, 45, 46, 62, 63, 64, 65, 66, 67, 68, 69, 70, 71, 72, 73] (by decide +kernel) (by decide +kernel)
set_option maxRecDepth 20000 in
theorem gX1_readFromStore_X1_readRootBlock : GoodIn wsX1_readFromStore (wsV RX1 140 RX1 yX1_readRootBlock wsX1_readRootBlock) := goodIn_app (goodIn_of _ (by decide +kernel)) ggX1_readFromStore_X1_readRootBlock
set_option maxRecDepth 20000 in
theorem ggX1_readFromStore_X1_leastWrongEntryBlock : GoodIn wsX1_readFromStore wsX1_leastWrongEntryBlock := goodIn_r _ [50, 1, 2, 38, 39, 40, 18, 41, 42, 51, 52, 53, 54, 4, 5, 6, 7, 8, 9, 10, 11, 12, 13, 14, 20, 21, 22, 23, 24, 25, 26, 27, 28, 29, 55, 56, 57, 58, 59, 60, 61, 62, 63, 64, 65, 66, 67, 68, 69, 70, 71, 72, 73] (by decide +kernel) (by decide +kernel)
set_option maxRecDepth 20000 in
theorem gX1_readFromStore_X1_leastWrongEntryBlock : GoodIn wsX1_readFromStore (wsV RX1 143 RX1 yX1_leastWrongEntryBlock wsX1_leastWrongEntryBlock) := goodIn_app (goodIn_of _ (by decide +kernel)) ggX1_readFromStore_X1_leastWrongEntryBlock
theorem dX1_readFromStore_0 : decode cX1_readFromStore 0 = .ok (.aload_n 0, 1) := by decide +kernel
theorem dX1_readFromStore_1 : decode cX1_readFromStore 1 = .ok (.iconst 0, 1) := by decide +kernel
theorem dX1_readFromStore_2 : decode cX1_readFromStore 2 = .ok (.putfield 20, 3) := by decide +kernel
theorem dX1_readFromStore_5 : decode cX1_readFromStore 5 = .ok (.aload_n 0, 1) := by decide +kernel
theorem dX1_readFromStore_6 : decode cX1_readFromStore 6 = .ok (.aload_n 0, 1) := by decide +kernel
theorem dX1_readFromStore_7 : decode cX1_readFromStore 7 = .ok (.getfield 28, 3) := by decide +kernel
theorem dX1_readFromStore_10 : decode cX1_readFromStore 10 = .ok (.iconst 0, 1) := by decide +kernel
theorem dX1_readFromStore_11 : decode cX1_readFromStore 11 = .ok (.iconst 0, 1) := by decide +kernel
theorem dX1_readFromStore_12 : decode cX1_readFromStore 12 = .ok (.invokevirtual 117, 3) := by decide +kernel
theorem dX1_readFromStore_15 : decode cX1_readFromStore 15 = .ok (.putfield 32, 3) := by decide +kernel
theorem dX1_readFromStore_18 : decode cX1_readFromStore 18 = .ok (.aload_n 0, 1) := by decide +kernel
theorem dX1_readFromStore_19 : decode cX1_readFromStore 19 = .ok (.getfield 32, 3) := by decide +kernel
theorem dX1_readFromStore_22 : decode cX1_readFromStore 22 = .ok (.iconst 1, 1) := by decide +kernel
theorem dX1_readFromStore_23 : decode cX1_readFromStore 23 = .ok (.if_icmp .eq 13, 3) := by decide +kernel
theorem dX1_readFromStore_26 : decode cX1_readFromStore 26 = .ok (.aload_n 0, 1) := by decide +kernel
theorem dX1_readFromStore_27 : decode cX1_readFromStore 27 = .ok (.getfield 32, 3) := by decide +kernel
theorem dX1_readFromStore_30 : decode cX1_readFromStore 30 = .ok (.iconst 2, 1) := by decide +kernel
theorem dX1_readFromStore_31 : decode cX1_readFromStore 31 = .ok (.if_icmp .eq 5, 3) := by decide +kernel
theorem dX1_readFromStore_34 : decode cX1_readFromStore 34 = .ok (.iconst 0, 1) := by decide +kernel
theorem dX1_readFromStore_35 : decode cX1_readFromStore 35 = .ok (.ireturn, 1) := by decide +kernel
theorem dX1_readFromStore_36 : decode cX1_readFromStore 36 = .ok (.aload_n 0, 1) := by decide +kernel
theorem dX1_readFromStore_37 : decode cX1_readFromStore 37 = .ok (.aload_n 0, 1) := by decide +kernel
theorem dX1_readFromStore_38 : decode cX1_readFromStore 38 = .ok (.getfield 32, 3) := by decide +kernel
theorem dX1_readFromStore_41 : decode cX1_readFromStore 41 = .ok (.invokevirtual 140, 3) := by decide +kernel
theorem dX1_readFromStore_44 : decode cX1_readFromStore 44 = .ok (.ifCond .ne 8, 3) := by decide +kernel
theorem dX1_readFromStore_47 : decode cX1_readFromStore 47 = .ok (.aload_n 0, 1) := by decide +kernel
theorem dX1_readFromStore_48 : decode cX1_readFromStore 48 = .ok (.getfield 32, 3) := by decide +kernel
theorem dX1_readFromStore_51 : decode cX1_readFromStore 51 = .ok (.ireturn, 1) := by decide +kernel
theorem dX1_readFromStore_52 : decode cX1_readFromStore 52 = .ok (.aload_n 0, 1) := by decide +kernel
theorem dX1_readFromStore_53 : decode cX1_readFromStore 53 = .ok (.invokevirtual 143, 3) := by decide +kernel
theorem dX1_readFromStore_56 : decode cX1_readFromStore 56 = .ok (.ireturn, 1) := by decide +kernel
set_option maxRecDepth 20000 in
theorem ggX1_readRootBlock_X0_read : GoodIn wsX1_readRootBlock wsX0_read := goodIn_r _ [6, 7, 8, 9, 10, 5, 11, 12, 49, 50, 51, 52, 53] (by decide +kernel) (by decide +kernel)
set_option maxRecDepth 20000 in
theorem gX1_readRootBlock_X0_read : GoodIn wsX1_readRootBlock (wsV RX1 117 RX0 yX0_read wsX0_read) := goodIn_app (goodIn_of _ (by decide +kernel)) ggX1_readRootBlock_X0_read
set_option maxRecDepth 20000 in
theorem ggX1_readRootBlock_X0_hasRightSum : GoodIn wsX1_readRootBlock wsX0_hasRightSum := goodIn_r _ [16, 17, 18, 19, 5, 20, 21, 22, 3, 4, 6, 7, 8, 9, 10, 11, 12, 49, 50, 51, 52, 53] (by decide +kernel) (by decide +kernel)
set_option maxRecDepth 20000 in
theorem gX1_readRootBlock_X0_hasRightSum : GoodIn wsX1_readRootBlock (wsV RX1 104 RX0 yX0_hasRightSum wsX0_hasRightSum) := goodIn_app (goodIn_of _ (by decide +kernel)) ggX1_readRootBlock_X0_hasRightSum
set_option maxRecDepth 20000 in
theorem ggX1_readRootBlock_X0_blockCount : GoodIn wsX1_readRootBlock wsX0_blockCount := goodIn_r _ [26, 12, 49, 50, 51, 52, 53] (by decide +kernel) (by decide +kernel)
set_option maxRecDepth 20000 in
theorem gX1_readRootBlock_X0_blockCount : GoodIn wsX1_readRootBlock (wsV RX1 120 RX0 yX0_blockCount wsX0_blockCount) := goodIn_app (goodIn_of _ (by decide +kernel)) ggX1_readRootBlock_X0_blockCount
set_option maxRecDepth 20000 in
theorem ggX1_readRootBlock_X1_isTaken : GoodIn wsX1_readRootBlock wsX1_isTaken := goodIn_r _ [31, 32, 33, 34, 35, 30, 36, 37, 42, 43, 44, 45, 46, 47, 48] (by decide +kernel) (by decide +kernel)
set_option maxRecDepth 20000 in
theorem gX1_readRootBlock_X1_isTaken : GoodIn wsX1_readRootBlock (wsV RX1 134 RX1 yX1_isTaken wsX1_isTaken) := goodIn_app (goodIn_of _ (by decide +kernel)) ggX1_readRootBlock_X1_isTaken
set_option maxRecDepth 20000 in
theorem ggX1_readRootBlock_X1_addEntryBlock : GoodIn wsX1_readRootBlock wsX1_addEntryBlock := goodIn_r _ [41, 32, 37, 42, 43, 44, 45, 46, 47, 48] (by decide +kernel) (by decide +kernel)
set_option maxRecDepth 20000 in
theorem gX1_readRootBlock_X1_addEntryBlock : GoodIn wsX1_readRootBlock (wsV RX1 61 RX1 yX1_addEntryBlock wsX1_addEntryBlock) := goodIn_app (goodIn_of _ (by decide +kernel)) ggX1_readRootBlock_X1_addEntryBlock
theorem dX1_readRootBlock_0 : decode cX1_readRootBlock 0 = .ok (.aload_n 0, 1) := by decide +kernel
theorem dX1_readRootBlock_1 : decode cX1_readRootBlock 1 = .ok (.getfield 28, 3) := by decide +kernel
theorem dX1_readRootBlock_4 : decode cX1_readRootBlock 4 = .ok (.iload_n 1, 1) := by decide +kernel
theorem dX1_readRootBlock_5 : decode cX1_readRootBlock 5 = .ok (.iconst 0, 1) := by decide +kernel
theorem dX1_readRootBlock_6 : decode cX1_readRootBlock 6 = .ok (.invokevirtual 117, 3) := by decide +kernel
theorem dX1_readRootBlock_9 : decode cX1_readRootBlock 9 = .ok (.istore_n 2, 1) := by decide +kernel
theorem dX1_readRootBlock_10 : decode cX1_readRootBlock 10 = .ok (.aload_n 0, 1) := by decide +kernel
theorem dX1_readRootBlock_11 : decode cX1_readRootBlock 11 = .ok (.getfield 28, 3) := by decide +kernel
theorem dX1_readRootBlock_14 : decode cX1_readRootBlock 14 = .ok (.iload_n 1, 1) := by decide +kernel
theorem dX1_readRootBlock_15 : decode cX1_readRootBlock 15 = .ok (.invokevirtual 104, 3) := by decide +kernel
theorem dX1_readRootBlock_18 : decode cX1_readRootBlock 18 = .ok (.ifCond .eq 9, 3) := by decide +kernel
theorem dX1_readRootBlock_21 : decode cX1_readRootBlock 21 = .ok (.iload_n 2, 1) := by decide +kernel
theorem dX1_readRootBlock_22 : decode cX1_readRootBlock 22 = .ok (.bipush 40, 2) := by decide +kernel
theorem dX1_readRootBlock_24 : decode cX1_readRootBlock 24 = .ok (.if_icmp .le 5, 3) := by decide +kernel
theorem dX1_readRootBlock_27 : decode cX1_readRootBlock 27 = .ok (.iconst 0, 1) := by decide +kernel
theorem dX1_readRootBlock_28 : decode cX1_readRootBlock 28 = .ok (.ireturn, 1) := by decide +kernel
theorem dX1_readRootBlock_29 : decode cX1_readRootBlock 29 = .ok (.iconst 0, 1) := by decide +kernel
theorem dX1_readRootBlock_30 : decode cX1_readRootBlock 30 = .ok (.istore_n 3, 1) := by decide +kernel
theorem dX1_readRootBlock_31 : decode cX1_readRootBlock 31 = .ok (.iload_n 3, 1) := by decide +kernel
theorem dX1_readRootBlock_32 : decode cX1_readRootBlock 32 = .ok (.iload_n 2, 1) := by decide +kernel
theorem dX1_readRootBlock_33 : decode cX1_readRootBlock 33 = .ok (.if_icmp .ge 57, 3) := by decide +kernel
theorem dX1_readRootBlock_36 : decode cX1_readRootBlock 36 = .ok (.aload_n 0, 1) := by decide +kernel
theorem dX1_readRootBlock_37 : decode cX1_readRootBlock 37 = .ok (.getfield 28, 3) := by decide +kernel
theorem dX1_readRootBlock_40 : decode cX1_readRootBlock 40 = .ok (.iload_n 1, 1) := by decide +kernel
theorem dX1_readRootBlock_41 : decode cX1_readRootBlock 41 = .ok (.iconst 1, 1) := by decide +kernel
theorem dX1_readRootBlock_42 : decode cX1_readRootBlock 42 = .ok (.iload_n 3, 1) := by decide +kernel
theorem dX1_readRootBlock_43 : decode cX1_readRootBlock 43 = .ok (.iadd, 1) := by decide +kernel
theorem dX1_readRootBlock_44 : decode cX1_readRootBlock 44 = .ok (.invokevirtual 117, 3) := by decide +kernel
theorem dX1_readRootBlock_47 : decode cX1_readRootBlock 47 = .ok (.istore 4, 2) := by decide +kernel
theorem dX1_readRootBlock_49 : decode cX1_readRootBlock 49 = .ok (.iload 4, 2) := by decide +kernel
theorem dX1_readRootBlock_51 : decode cX1_readRootBlock 51 = .ok (.iconst 3, 1) := by decide +kernel
theorem dX1_readRootBlock_52 : decode cX1_readRootBlock 52 = .ok (.if_icmp .lt 24, 3) := by decide +kernel
theorem dX1_readRootBlock_55 : decode cX1_readRootBlock 55 = .ok (.iload 4, 2) := by decide +kernel
theorem dX1_readRootBlock_57 : decode cX1_readRootBlock 57 = .ok (.aload_n 0, 1) := by decide +kernel
theorem dX1_readRootBlock_58 : decode cX1_readRootBlock 58 = .ok (.getfield 28, 3) := by decide +kernel
theorem dX1_readRootBlock_61 : decode cX1_readRootBlock 61 = .ok (.invokevirtual 120, 3) := by decide +kernel
theorem dX1_readRootBlock_64 : decode cX1_readRootBlock 64 = .ok (.if_icmp .ge 12, 3) := by decide +kernel
theorem dX1_readRootBlock_67 : decode cX1_readRootBlock 67 = .ok (.aload_n 0, 1) := by decide +kernel
theorem dX1_readRootBlock_68 : decode cX1_readRootBlock 68 = .ok (.iload 4, 2) := by decide +kernel
theorem dX1_readRootBlock_70 : decode cX1_readRootBlock 70 = .ok (.invokevirtual 134, 3) := by decide +kernel
theorem dX1_readRootBlock_73 : decode cX1_readRootBlock 73 = .ok (.ifCond .eq 5, 3) := by decide +kernel
theorem dX1_readRootBlock_76 : decode cX1_readRootBlock 76 = .ok (.iconst 0, 1) := by decide +kernel
theorem dX1_readRootBlock_77 : decode cX1_readRootBlock 77 = .ok (.ireturn, 1) := by decide +kernel
theorem dX1_readRootBlock_78 : decode cX1_readRootBlock 78 = .ok (.aload_n 0, 1) := by decide +kernel
theorem dX1_readRootBlock_79 : decode cX1_readRootBlock 79 = .ok (.iload 4, 2) := by decide +kernel
theorem dX1_readRootBlock_81 : decode cX1_readRootBlock 81 = .ok (.invokevirtual 61, 3) := by decide +kernel
theorem dX1_readRootBlock_84 : decode cX1_readRootBlock 84 = .ok (.iinc 3 1, 3) := by decide +kernel
theorem dX1_readRootBlock_87 : decode cX1_readRootBlock 87 = .ok (.goto (-56), 3) := by decide +kernel
theorem dX1_readRootBlock_90 : decode cX1_readRootBlock 90 = .ok (.iconst 1, 1) := by decide +kernel
theorem dX1_readRootBlock_91 : decode cX1_readRootBlock 91 = .ok (.ireturn, 1) := by decide +kernel
set_option maxRecDepth 20000 in
theorem ggX1_leastWrongEntryBlock_X1_blockOf : GoodIn wsX1_leastWrongEntryBlock wsX1_blockOf := goodIn_r _ [7, 1, 8, 41, 42, 43, 44, 45, 46, 47] (by decide +kernel) (by decide +kernel)
set_option maxRecDepth 20000 in
theorem gX1_leastWrongEntryBlock_X1_blockOf : GoodIn wsX1_leastWrongEntryBlock (wsV RX1 79 RX1 yX1_blockOf wsX1_blockOf) := goodIn_app (goodIn_of _ (by decide +kernel)) ggX1_leastWrongEntryBlock_X1_blockOf
set_option maxRecDepth 20000 in
theorem ggX1_leastWrongEntryBlock_X1_lengthOf : GoodIn wsX1_leastWrongEntryBlock wsX1_lengthOf := goodIn_r _ [12, 2, 3, 4, 5, 6, 7, 1, 8, 13, 14, 15, 16, 17, 18, 19, 20, 21, 22, 23, 41, 42, 43, 44, 45, 46, 47, 48, 49, 50, 51, 52] (by decide +kernel) (by decide +kernel)
set_option maxRecDepth 20000 in
theorem gX1_leastWrongEntryBlock_X1_lengthOf : GoodIn wsX1_leastWrongEntryBlock (wsV RX1 82 RX1 yX1_lengthOf wsX1_lengthOf) := goodIn_app (goodIn_of _ (by decide +kernel)) ggX1_leastWrongEntryBlock_X1_lengthOf
set_option maxRecDepth 20000 in
theorem ggX1_leastWrongEntryBlock_X0_hasRightSum : GoodIn wsX1_leastWrongEntryBlock wsX0_hasRightSum := goodIn_r _ [27, 28, 29, 30, 16, 31, 32, 33, 14, 15, 17, 18, 19, 20, 21, 22, 23, 48, 49, 50, 51, 52] (by decide +kernel) (by decide +kernel)
set_option maxRecDepth 20000 in
theorem gX1_leastWrongEntryBlock_X0_hasRightSum : GoodIn wsX1_leastWrongEntryBlock (wsV RX1 104 RX0 yX0_hasRightSum wsX0_hasRightSum) := goodIn_app (goodIn_of _ (by decide +kernel)) ggX1_leastWrongEntryBlock_X0_hasRightSum
set_option maxRecDepth 20000 in
theorem ggX1_leastWrongEntryBlock_X1_lesserBlock : GoodIn wsX1_leastWrongEntryBlock wsX1_lesserBlock := goodIn_r _ [36, 37, 38, 39, 40] (by decide +kernel) (by decide +kernel)
set_option maxRecDepth 20000 in
theorem gX1_leastWrongEntryBlock_X1_lesserBlock : GoodIn wsX1_leastWrongEntryBlock (va_wsS RX1 107 yX1_lesserBlock wsX1_lesserBlock) := goodIn_app (goodIn_of _ (by decide +kernel)) ggX1_leastWrongEntryBlock_X1_lesserBlock
theorem dX1_leastWrongEntryBlock_0 : decode cX1_leastWrongEntryBlock 0 = .ok (.iconst (-1), 1) := by decide +kernel
theorem dX1_leastWrongEntryBlock_1 : decode cX1_leastWrongEntryBlock 1 = .ok (.istore_n 1, 1) := by decide +kernel
theorem dX1_leastWrongEntryBlock_2 : decode cX1_leastWrongEntryBlock 2 = .ok (.iconst 0, 1) := by decide +kernel
theorem dX1_leastWrongEntryBlock_3 : decode cX1_leastWrongEntryBlock 3 = .ok (.istore_n 2, 1) := by decide +kernel
theorem dX1_leastWrongEntryBlock_4 : decode cX1_leastWrongEntryBlock 4 = .ok (.iload_n 2, 1) := by decide +kernel
theorem dX1_leastWrongEntryBlock_5 : decode cX1_leastWrongEntryBlock 5 = .ok (.aload_n 0, 1) := by decide +kernel
theorem dX1_leastWrongEntryBlock_6 : decode cX1_leastWrongEntryBlock 6 = .ok (.getfield 20, 3) := by decide +kernel
theorem dX1_leastWrongEntryBlock_9 : decode cX1_leastWrongEntryBlock 9 = .ok (.if_icmp .ge 51, 3) := by decide +kernel
theorem dX1_leastWrongEntryBlock_12 : decode cX1_leastWrongEntryBlock 12 = .ok (.aload_n 0, 1) := by decide +kernel
theorem dX1_leastWrongEntryBlock_13 : decode cX1_leastWrongEntryBlock 13 = .ok (.iload_n 2, 1) := by decide +kernel
theorem dX1_leastWrongEntryBlock_14 : decode cX1_leastWrongEntryBlock 14 = .ok (.invokevirtual 79, 3) := by decide +kernel
theorem dX1_leastWrongEntryBlock_17 : decode cX1_leastWrongEntryBlock 17 = .ok (.istore_n 3, 1) := by decide +kernel
theorem dX1_leastWrongEntryBlock_18 : decode cX1_leastWrongEntryBlock 18 = .ok (.aload_n 0, 1) := by decide +kernel
theorem dX1_leastWrongEntryBlock_19 : decode cX1_leastWrongEntryBlock 19 = .ok (.iload_n 2, 1) := by decide +kernel
theorem dX1_leastWrongEntryBlock_20 : decode cX1_leastWrongEntryBlock 20 = .ok (.invokevirtual 82, 3) := by decide +kernel
theorem dX1_leastWrongEntryBlock_23 : decode cX1_leastWrongEntryBlock 23 = .ok (.istore 4, 2) := by decide +kernel
theorem dX1_leastWrongEntryBlock_25 : decode cX1_leastWrongEntryBlock 25 = .ok (.aload_n 0, 1) := by decide +kernel
theorem dX1_leastWrongEntryBlock_26 : decode cX1_leastWrongEntryBlock 26 = .ok (.getfield 28, 3) := by decide +kernel
theorem dX1_leastWrongEntryBlock_29 : decode cX1_leastWrongEntryBlock 29 = .ok (.iload_n 3, 1) := by decide +kernel
theorem dX1_leastWrongEntryBlock_30 : decode cX1_leastWrongEntryBlock 30 = .ok (.invokevirtual 104, 3) := by decide +kernel
theorem dX1_leastWrongEntryBlock_33 : decode cX1_leastWrongEntryBlock 33 = .ok (.ifCond .eq 15, 3) := by decide +kernel
theorem dX1_leastWrongEntryBlock_36 : decode cX1_leastWrongEntryBlock 36 = .ok (.iload 4, 2) := by decide +kernel
theorem dX1_leastWrongEntryBlock_38 : decode cX1_leastWrongEntryBlock 38 = .ok (.ifCond .eq 10, 3) := by decide +kernel
theorem dX1_leastWrongEntryBlock_41 : decode cX1_leastWrongEntryBlock 41 = .ok (.iload 4, 2) := by decide +kernel
theorem dX1_leastWrongEntryBlock_43 : decode cX1_leastWrongEntryBlock 43 = .ok (.bipush 48, 2) := by decide +kernel
theorem dX1_leastWrongEntryBlock_45 : decode cX1_leastWrongEntryBlock 45 = .ok (.if_icmp .le 9, 3) := by decide +kernel
theorem dX1_leastWrongEntryBlock_48 : decode cX1_leastWrongEntryBlock 48 = .ok (.iload_n 1, 1) := by decide +kernel
theorem dX1_leastWrongEntryBlock_49 : decode cX1_leastWrongEntryBlock 49 = .ok (.iload_n 3, 1) := by decide +kernel
theorem dX1_leastWrongEntryBlock_50 : decode cX1_leastWrongEntryBlock 50 = .ok (.invokestatic 107, 3) := by decide +kernel
theorem dX1_leastWrongEntryBlock_53 : decode cX1_leastWrongEntryBlock 53 = .ok (.istore_n 1, 1) := by decide +kernel
theorem dX1_leastWrongEntryBlock_54 : decode cX1_leastWrongEntryBlock 54 = .ok (.iinc 2 1, 3) := by decide +kernel
theorem dX1_leastWrongEntryBlock_57 : decode cX1_leastWrongEntryBlock 57 = .ok (.goto (-53), 3) := by decide +kernel
theorem dX1_leastWrongEntryBlock_60 : decode cX1_leastWrongEntryBlock 60 = .ok (.iload_n 1, 1) := by decide +kernel
theorem dX1_leastWrongEntryBlock_61 : decode cX1_leastWrongEntryBlock 61 = .ok (.ireturn, 1) := by decide +kernel
theorem dX1_lesserBlock_0 : decode cX1_lesserBlock 0 = .ok (.iload_n 0, 1) := by decide +kernel
theorem dX1_lesserBlock_1 : decode cX1_lesserBlock 1 = .ok (.iconst (-1), 1) := by decide +kernel
theorem dX1_lesserBlock_2 : decode cX1_lesserBlock 2 = .ok (.if_icmp .ne 7, 3) := by decide +kernel
theorem dX1_lesserBlock_5 : decode cX1_lesserBlock 5 = .ok (.iload_n 1, 1) := by decide +kernel
theorem dX1_lesserBlock_6 : decode cX1_lesserBlock 6 = .ok (.goto 8, 3) := by decide +kernel
theorem dX1_lesserBlock_9 : decode cX1_lesserBlock 9 = .ok (.iload_n 0, 1) := by decide +kernel
theorem dX1_lesserBlock_10 : decode cX1_lesserBlock 10 = .ok (.iload_n 1, 1) := by decide +kernel
theorem dX1_lesserBlock_11 : decode cX1_lesserBlock 11 = .ok (.invokestatic 123, 3) := by decide +kernel
theorem dX1_lesserBlock_14 : decode cX1_lesserBlock 14 = .ok (.ireturn, 1) := by decide +kernel
set_option maxRecDepth 20000 in
theorem ggX2_init_X2_writeRoot : GoodIn wsX2_init wsX2_writeRoot := goodIn_r _ [18, 19, 6, 20, 21, 22, 17, 23, 8, 13, 9, 5, 24, 25, 26, 27, 28, 29, 30, 31, 32, 33, 34, 35, 36, 37, 38, 39, 40, 41, 42, 43, 44] (by decide +kernel) (by decide +kernel)
set_option maxRecDepth 20000 in
theorem gX2_init_X2_writeRoot : GoodIn wsX2_init (wsV RX2 36 RX2 yX2_writeRoot wsX2_writeRoot) := goodIn_app (goodIn_of _ (by decide +kernel)) ggX2_init_X2_writeRoot
set_option maxRecDepth 20000 in
theorem ggX2_init_X2_write : GoodIn wsX2_init wsX2_write := goodIn_r _ [23, 8, 13, 9, 5, 33, 34, 35, 36, 37, 38, 39, 40, 41, 42, 43, 44] (by decide +kernel) (by decide +kernel)
set_option maxRecDepth 20000 in
theorem gX2_init_X2_write : GoodIn wsX2_init (wsV RX2 40 RX2 yX2_write wsX2_write) := goodIn_app (goodIn_of _ (by decide +kernel)) ggX2_init_X2_write
theorem dX2_init_0 : decode cX2_init 0 = .ok (.aload_n 0, 1) := by decide +kernel
theorem dX2_init_1 : decode cX2_init 1 = .ok (.invokespecial 1, 3) := by decide +kernel
theorem dX2_init_4 : decode cX2_init 4 = .ok (.aload_n 0, 1) := by decide +kernel
theorem dX2_init_5 : decode cX2_init 5 = .ok (.sipush 4096, 3) := by decide +kernel
theorem dX2_init_8 : decode cX2_init 8 = .ok (.newarray .int, 2) := by decide +kernel
theorem dX2_init_10 : decode cX2_init 10 = .ok (.putfield 7, 3) := by decide +kernel
theorem dX2_init_13 : decode cX2_init 13 = .ok (.aload_n 0, 1) := by decide +kernel
theorem dX2_init_14 : decode cX2_init 14 = .ok (.bipush 40, 2) := by decide +kernel
theorem dX2_init_16 : decode cX2_init 16 = .ok (.newarray .int, 2) := by decide +kernel
theorem dX2_init_18 : decode cX2_init 18 = .ok (.putfield 13, 3) := by decide +kernel
theorem dX2_init_21 : decode cX2_init 21 = .ok (.aload_n 0, 1) := by decide +kernel
theorem dX2_init_22 : decode cX2_init 22 = .ok (.bipush 48, 2) := by decide +kernel
theorem dX2_init_24 : decode cX2_init 24 = .ok (.newarray .int, 2) := by decide +kernel
theorem dX2_init_26 : decode cX2_init 26 = .ok (.putfield 16, 3) := by decide +kernel
theorem dX2_init_29 : decode cX2_init 29 = .ok (.aload_n 0, 1) := by decide +kernel
theorem dX2_init_30 : decode cX2_init 30 = .ok (.sipush 129, 3) := by decide +kernel
theorem dX2_init_33 : decode cX2_init 33 = .ok (.newarray .int, 2) := by decide +kernel
theorem dX2_init_35 : decode cX2_init 35 = .ok (.putfield 19, 3) := by decide +kernel
theorem dX2_init_38 : decode cX2_init 38 = .ok (.aload_n 0, 1) := by decide +kernel
theorem dX2_init_39 : decode cX2_init 39 = .ok (.sipush 129, 3) := by decide +kernel
theorem dX2_init_42 : decode cX2_init 42 = .ok (.newarray .int, 2) := by decide +kernel
theorem dX2_init_44 : decode cX2_init 44 = .ok (.putfield 22, 3) := by decide +kernel
theorem dX2_init_47 : decode cX2_init 47 = .ok (.aload_n 0, 1) := by decide +kernel
theorem dX2_init_48 : decode cX2_init 48 = .ok (.iload_n 1, 1) := by decide +kernel
theorem dX2_init_49 : decode cX2_init 49 = .ok (.iconst 4, 1) := by decide +kernel
theorem dX2_init_50 : decode cX2_init 50 = .ok (.if_icmp .ge 7, 3) := by decide +kernel
theorem dX2_init_53 : decode cX2_init 53 = .ok (.iconst 4, 1) := by decide +kernel
theorem dX2_init_54 : decode cX2_init 54 = .ok (.goto 15, 3) := by decide +kernel
theorem dX2_init_57 : decode cX2_init 57 = .ok (.iload_n 1, 1) := by decide +kernel
theorem dX2_init_58 : decode cX2_init 58 = .ok (.bipush 64, 2) := by decide +kernel
theorem dX2_init_60 : decode cX2_init 60 = .ok (.if_icmp .le 8, 3) := by decide +kernel
theorem dX2_init_63 : decode cX2_init 63 = .ok (.bipush 64, 2) := by decide +kernel
theorem dX2_init_65 : decode cX2_init 65 = .ok (.goto 4, 3) := by decide +kernel
theorem dX2_init_68 : decode cX2_init 68 = .ok (.iload_n 1, 1) := by decide +kernel
theorem dX2_init_69 : decode cX2_init 69 = .ok (.putfield 25, 3) := by decide +kernel
theorem dX2_init_72 : decode cX2_init 72 = .ok (.aload_n 0, 1) := by decide +kernel
theorem dX2_init_73 : decode cX2_init 73 = .ok (.iconst 1, 1) := by decide +kernel
theorem dX2_init_74 : decode cX2_init 74 = .ok (.putfield 29, 3) := by decide +kernel
theorem dX2_init_77 : decode cX2_init 77 = .ok (.aload_n 0, 1) := by decide +kernel
theorem dX2_init_78 : decode cX2_init 78 = .ok (.iconst 1, 1) := by decide +kernel
theorem dX2_init_79 : decode cX2_init 79 = .ok (.putfield 32, 3) := by decide +kernel
theorem dX2_init_82 : decode cX2_init 82 = .ok (.aload_n 0, 1) := by decide +kernel
theorem dX2_init_83 : decode cX2_init 83 = .ok (.iconst 1, 1) := by decide +kernel
theorem dX2_init_84 : decode cX2_init 84 = .ok (.iconst (-1), 1) := by decide +kernel
theorem dX2_init_85 : decode cX2_init 85 = .ok (.invokevirtual 36, 3) := by decide +kernel
theorem dX2_init_88 : decode cX2_init 88 = .ok (.aload_n 0, 1) := by decide +kernel
theorem dX2_init_89 : decode cX2_init 89 = .ok (.iconst 0, 1) := by decide +kernel
theorem dX2_init_90 : decode cX2_init 90 = .ok (.iconst 1, 1) := by decide +kernel
theorem dX2_init_91 : decode cX2_init 91 = .ok (.invokevirtual 40, 3) := by decide +kernel
theorem dX2_init_94 : decode cX2_init 94 = .ok (.aload_n 0, 1) := by decide +kernel
theorem dX2_init_95 : decode cX2_init 95 = .ok (.iconst 0, 1) := by decide +kernel
theorem dX2_init_96 : decode cX2_init 96 = .ok (.putfield 43, 3) := by decide +kernel
theorem dX2_init_99 : decode cX2_init 99 = .ok (.return_, 1) := by decide +kernel
theorem dX2_thrown_0 : decode cX2_thrown 0 = .ok (.aload_n 0, 1) := by decide +kernel
theorem dX2_thrown_1 : decode cX2_thrown 1 = .ok (.getfield 46, 3) := by decide +kernel
theorem dX2_thrown_4 : decode cX2_thrown 4 = .ok (.ireturn, 1) := by decide +kernel
theorem dX2_sumOf_0 : decode cX2_sumOf 0 = .ok (.iconst 1, 1) := by decide +kernel
theorem dX2_sumOf_1 : decode cX2_sumOf 1 = .ok (.istore_n 2, 1) := by decide +kernel
theorem dX2_sumOf_2 : decode cX2_sumOf 2 = .ok (.iconst 0, 1) := by decide +kernel
theorem dX2_sumOf_3 : decode cX2_sumOf 3 = .ok (.istore_n 3, 1) := by decide +kernel
theorem dX2_sumOf_4 : decode cX2_sumOf 4 = .ok (.iload_n 3, 1) := by decide +kernel
theorem dX2_sumOf_5 : decode cX2_sumOf 5 = .ok (.bipush 60, 2) := by decide +kernel
theorem dX2_sumOf_7 : decode cX2_sumOf 7 = .ok (.if_icmp .ge 38, 3) := by decide +kernel
theorem dX2_sumOf_10 : decode cX2_sumOf 10 = .ok (.iload_n 2, 1) := by decide +kernel
theorem dX2_sumOf_11 : decode cX2_sumOf 11 = .ok (.aload_n 0, 1) := by decide +kernel
theorem dX2_sumOf_12 : decode cX2_sumOf 12 = .ok (.getfield 7, 3) := by decide +kernel
theorem dX2_sumOf_15 : decode cX2_sumOf 15 = .ok (.bipush 64, 2) := by decide +kernel
theorem dX2_sumOf_17 : decode cX2_sumOf 17 = .ok (.iload_n 1, 1) := by decide +kernel
theorem dX2_sumOf_18 : decode cX2_sumOf 18 = .ok (.imul, 1) := by decide +kernel
theorem dX2_sumOf_19 : decode cX2_sumOf 19 = .ok (.iload_n 3, 1) := by decide +kernel
theorem dX2_sumOf_20 : decode cX2_sumOf 20 = .ok (.iadd, 1) := by decide +kernel
theorem dX2_sumOf_21 : decode cX2_sumOf 21 = .ok (.iaload, 1) := by decide +kernel
theorem dX2_sumOf_22 : decode cX2_sumOf 22 = .ok (.ixor, 1) := by decide +kernel
theorem dX2_sumOf_23 : decode cX2_sumOf 23 = .ok (.istore_n 2, 1) := by decide +kernel
theorem dX2_sumOf_24 : decode cX2_sumOf 24 = .ok (.iload_n 2, 1) := by decide +kernel
theorem dX2_sumOf_25 : decode cX2_sumOf 25 = .ok (.bipush 17, 2) := by decide +kernel
theorem dX2_sumOf_27 : decode cX2_sumOf 27 = .ok (.ishl, 1) := by decide +kernel
theorem dX2_sumOf_28 : decode cX2_sumOf 28 = .ok (.iload_n 2, 1) := by decide +kernel
theorem dX2_sumOf_29 : decode cX2_sumOf 29 = .ok (.bipush 15, 2) := by decide +kernel
theorem dX2_sumOf_31 : decode cX2_sumOf 31 = .ok (.iushr, 1) := by decide +kernel
theorem dX2_sumOf_32 : decode cX2_sumOf 32 = .ok (.ior, 1) := by decide +kernel
theorem dX2_sumOf_33 : decode cX2_sumOf 33 = .ok (.istore_n 2, 1) := by decide +kernel
theorem dX2_sumOf_34 : decode cX2_sumOf 34 = .ok (.iload_n 2, 1) := by decide +kernel
theorem dX2_sumOf_35 : decode cX2_sumOf 35 = .ok (.ldc 49, 2) := by decide +kernel
theorem dX2_sumOf_37 : decode cX2_sumOf 37 = .ok (.imul, 1) := by decide +kernel
theorem dX2_sumOf_38 : decode cX2_sumOf 38 = .ok (.istore_n 2, 1) := by decide +kernel
theorem dX2_sumOf_39 : decode cX2_sumOf 39 = .ok (.iinc 3 1, 3) := by decide +kernel
theorem dX2_sumOf_42 : decode cX2_sumOf 42 = .ok (.goto (-38), 3) := by decide +kernel
theorem dX2_sumOf_45 : decode cX2_sumOf 45 = .ok (.iload_n 2, 1) := by decide +kernel
theorem dX2_sumOf_46 : decode cX2_sumOf 46 = .ok (.ireturn, 1) := by decide +kernel
set_option maxRecDepth 20000 in
theorem ggX2_isRight_X2_sumOf : GoodIn wsX2_isRight wsX2_sumOf := goodIn_r _ [6, 1, 7, 8, 9, 10, 11, 12, 13, 14, 15, 16, 17, 18, 19] (by decide +kernel) (by decide +kernel)
set_option maxRecDepth 20000 in
theorem gX2_isRight_X2_sumOf : GoodIn wsX2_isRight (wsV RX2 50 RX2 yX2_sumOf wsX2_sumOf) := goodIn_app (goodIn_of _ (by decide +kernel)) ggX2_isRight_X2_sumOf
theorem dX2_isRight_0 : decode cX2_isRight 0 = .ok (.aload_n 0, 1) := by decide +kernel
theorem dX2_isRight_1 : decode cX2_isRight 1 = .ok (.iload_n 1, 1) := by decide +kernel
theorem dX2_isRight_2 : decode cX2_isRight 2 = .ok (.invokevirtual 50, 3) := by decide +kernel
theorem dX2_isRight_5 : decode cX2_isRight 5 = .ok (.istore_n 2, 1) := by decide +kernel
theorem dX2_isRight_6 : decode cX2_isRight 6 = .ok (.iconst 0, 1) := by decide +kernel
theorem dX2_isRight_7 : decode cX2_isRight 7 = .ok (.istore_n 3, 1) := by decide +kernel
theorem dX2_isRight_8 : decode cX2_isRight 8 = .ok (.iload_n 3, 1) := by decide +kernel
theorem dX2_isRight_9 : decode cX2_isRight 9 = .ok (.iconst 4, 1) := by decide +kernel
theorem dX2_isRight_10 : decode cX2_isRight 10 = .ok (.if_icmp .ge 38, 3) := by decide +kernel
theorem dX2_isRight_13 : decode cX2_isRight 13 = .ok (.aload_n 0, 1) := by decide +kernel
theorem dX2_isRight_14 : decode cX2_isRight 14 = .ok (.getfield 7, 3) := by decide +kernel
theorem dX2_isRight_17 : decode cX2_isRight 17 = .ok (.bipush 64, 2) := by decide +kernel
theorem dX2_isRight_19 : decode cX2_isRight 19 = .ok (.iload_n 1, 1) := by decide +kernel
theorem dX2_isRight_20 : decode cX2_isRight 20 = .ok (.imul, 1) := by decide +kernel
theorem dX2_isRight_21 : decode cX2_isRight 21 = .ok (.bipush 60, 2) := by decide +kernel
theorem dX2_isRight_23 : decode cX2_isRight 23 = .ok (.iadd, 1) := by decide +kernel
theorem dX2_isRight_24 : decode cX2_isRight 24 = .ok (.iload_n 3, 1) := by decide +kernel
theorem dX2_isRight_25 : decode cX2_isRight 25 = .ok (.iadd, 1) := by decide +kernel
theorem dX2_isRight_26 : decode cX2_isRight 26 = .ok (.iaload, 1) := by decide +kernel
theorem dX2_isRight_27 : decode cX2_isRight 27 = .ok (.iload_n 2, 1) := by decide +kernel
theorem dX2_isRight_28 : decode cX2_isRight 28 = .ok (.bipush 8, 2) := by decide +kernel
theorem dX2_isRight_30 : decode cX2_isRight 30 = .ok (.iload_n 3, 1) := by decide +kernel
theorem dX2_isRight_31 : decode cX2_isRight 31 = .ok (.imul, 1) := by decide +kernel
theorem dX2_isRight_32 : decode cX2_isRight 32 = .ok (.iushr, 1) := by decide +kernel
theorem dX2_isRight_33 : decode cX2_isRight 33 = .ok (.sipush 255, 3) := by decide +kernel
theorem dX2_isRight_36 : decode cX2_isRight 36 = .ok (.iand, 1) := by decide +kernel
theorem dX2_isRight_37 : decode cX2_isRight 37 = .ok (.if_icmp .eq 5, 3) := by decide +kernel
theorem dX2_isRight_40 : decode cX2_isRight 40 = .ok (.iconst 0, 1) := by decide +kernel
theorem dX2_isRight_41 : decode cX2_isRight 41 = .ok (.ireturn, 1) := by decide +kernel
theorem dX2_isRight_42 : decode cX2_isRight 42 = .ok (.iinc 3 1, 3) := by decide +kernel
theorem dX2_isRight_45 : decode cX2_isRight 45 = .ok (.goto (-37), 3) := by decide +kernel
theorem dX2_isRight_48 : decode cX2_isRight 48 = .ok (.iconst 1, 1) := by decide +kernel
theorem dX2_isRight_49 : decode cX2_isRight 49 = .ok (.ireturn, 1) := by decide +kernel
theorem dX2_write_0 : decode cX2_write 0 = .ok (.aload_n 0, 1) := by decide +kernel
theorem dX2_write_1 : decode cX2_write 1 = .ok (.getfield 19, 3) := by decide +kernel
theorem dX2_write_4 : decode cX2_write 4 = .ok (.aload_n 0, 1) := by decide +kernel
theorem dX2_write_5 : decode cX2_write 5 = .ok (.getfield 43, 3) := by decide +kernel
theorem dX2_write_8 : decode cX2_write 8 = .ok (.iload_n 1, 1) := by decide +kernel
theorem dX2_write_9 : decode cX2_write 9 = .ok (.iastore, 1) := by decide +kernel
theorem dX2_write_10 : decode cX2_write 10 = .ok (.aload_n 0, 1) := by decide +kernel
theorem dX2_write_11 : decode cX2_write 11 = .ok (.getfield 22, 3) := by decide +kernel
theorem dX2_write_14 : decode cX2_write 14 = .ok (.aload_n 0, 1) := by decide +kernel
theorem dX2_write_15 : decode cX2_write 15 = .ok (.getfield 43, 3) := by decide +kernel
theorem dX2_write_18 : decode cX2_write 18 = .ok (.aload_n 0, 1) := by decide +kernel
theorem dX2_write_19 : decode cX2_write 19 = .ok (.getfield 7, 3) := by decide +kernel
theorem dX2_write_22 : decode cX2_write 22 = .ok (.iload_n 1, 1) := by decide +kernel
theorem dX2_write_23 : decode cX2_write 23 = .ok (.iaload, 1) := by decide +kernel
theorem dX2_write_24 : decode cX2_write 24 = .ok (.iastore, 1) := by decide +kernel
theorem dX2_write_25 : decode cX2_write 25 = .ok (.aload_n 0, 1) := by decide +kernel
theorem dX2_write_26 : decode cX2_write 26 = .ok (.getfield 7, 3) := by decide +kernel
theorem dX2_write_29 : decode cX2_write 29 = .ok (.iload_n 1, 1) := by decide +kernel
theorem dX2_write_30 : decode cX2_write 30 = .ok (.iload_n 2, 1) := by decide +kernel
theorem dX2_write_31 : decode cX2_write 31 = .ok (.iastore, 1) := by decide +kernel
theorem dX2_write_32 : decode cX2_write 32 = .ok (.aload_n 0, 1) := by decide +kernel
theorem dX2_write_33 : decode cX2_write 33 = .ok (.dup, 1) := by decide +kernel
theorem dX2_write_34 : decode cX2_write 34 = .ok (.getfield 43, 3) := by decide +kernel
theorem dX2_write_37 : decode cX2_write 37 = .ok (.iconst 1, 1) := by decide +kernel
theorem dX2_write_38 : decode cX2_write 38 = .ok (.iadd, 1) := by decide +kernel
theorem dX2_write_39 : decode cX2_write 39 = .ok (.putfield 43, 3) := by decide +kernel
theorem dX2_write_42 : decode cX2_write 42 = .ok (.return_, 1) := by decide +kernel
set_option maxRecDepth 20000 in
theorem ggX2_writeSum_X2_sumOf : GoodIn wsX2_writeSum wsX2_sumOf := goodIn_r _ [5, 6, 7, 15, 16, 17, 18, 19, 20, 21, 22, 23, 24, 25, 26] (by decide +kernel) (by decide +kernel)
set_option maxRecDepth 20000 in
theorem gX2_writeSum_X2_sumOf : GoodIn wsX2_writeSum (wsV RX2 50 RX2 yX2_sumOf wsX2_sumOf) := goodIn_app (goodIn_of _ (by decide +kernel)) ggX2_writeSum_X2_sumOf
set_option maxRecDepth 20000 in
theorem ggX2_writeSum_X2_write : GoodIn wsX2_writeSum wsX2_write := goodIn_r _ [11, 12, 13, 14, 6, 15, 16, 17, 18, 19, 20, 21, 22, 23, 24, 25, 26] (by decide +kernel) (by decide +kernel)
set_option maxRecDepth 20000 in
theorem gX2_writeSum_X2_write : GoodIn wsX2_writeSum (wsV RX2 40 RX2 yX2_write wsX2_write) := goodIn_app (goodIn_of _ (by decide +kernel)) ggX2_writeSum_X2_write
theorem dX2_writeSum_0 : decode cX2_writeSum 0 = .ok (.aload_n 0, 1) := by decide +kernel
theorem dX2_writeSum_1 : decode cX2_writeSum 1 = .ok (.iload_n 1, 1) := by decide +kernel
theorem dX2_writeSum_2 : decode cX2_writeSum 2 = .ok (.invokevirtual 50, 3) := by decide +kernel
theorem dX2_writeSum_5 : decode cX2_writeSum 5 = .ok (.istore_n 2, 1) := by decide +kernel
theorem dX2_writeSum_6 : decode cX2_writeSum 6 = .ok (.iconst 0, 1) := by decide +kernel
theorem dX2_writeSum_7 : decode cX2_writeSum 7 = .ok (.istore_n 3, 1) := by decide +kernel
theorem dX2_writeSum_8 : decode cX2_writeSum 8 = .ok (.iload_n 3, 1) := by decide +kernel
theorem dX2_writeSum_9 : decode cX2_writeSum 9 = .ok (.iconst 4, 1) := by decide +kernel
theorem dX2_writeSum_10 : decode cX2_writeSum 10 = .ok (.if_icmp .ge 32, 3) := by decide +kernel
theorem dX2_writeSum_13 : decode cX2_writeSum 13 = .ok (.aload_n 0, 1) := by decide +kernel
theorem dX2_writeSum_14 : decode cX2_writeSum 14 = .ok (.bipush 64, 2) := by decide +kernel
theorem dX2_writeSum_16 : decode cX2_writeSum 16 = .ok (.iload_n 1, 1) := by decide +kernel
theorem dX2_writeSum_17 : decode cX2_writeSum 17 = .ok (.imul, 1) := by decide +kernel
theorem dX2_writeSum_18 : decode cX2_writeSum 18 = .ok (.bipush 60, 2) := by decide +kernel
theorem dX2_writeSum_20 : decode cX2_writeSum 20 = .ok (.iadd, 1) := by decide +kernel
theorem dX2_writeSum_21 : decode cX2_writeSum 21 = .ok (.iload_n 3, 1) := by decide +kernel
theorem dX2_writeSum_22 : decode cX2_writeSum 22 = .ok (.iadd, 1) := by decide +kernel
theorem dX2_writeSum_23 : decode cX2_writeSum 23 = .ok (.iload_n 2, 1) := by decide +kernel
theorem dX2_writeSum_24 : decode cX2_writeSum 24 = .ok (.bipush 8, 2) := by decide +kernel
theorem dX2_writeSum_26 : decode cX2_writeSum 26 = .ok (.iload_n 3, 1) := by decide +kernel
theorem dX2_writeSum_27 : decode cX2_writeSum 27 = .ok (.imul, 1) := by decide +kernel
theorem dX2_writeSum_28 : decode cX2_writeSum 28 = .ok (.iushr, 1) := by decide +kernel
theorem dX2_writeSum_29 : decode cX2_writeSum 29 = .ok (.sipush 255, 3) := by decide +kernel
theorem dX2_writeSum_32 : decode cX2_writeSum 32 = .ok (.iand, 1) := by decide +kernel
theorem dX2_writeSum_33 : decode cX2_writeSum 33 = .ok (.invokevirtual 40, 3) := by decide +kernel
theorem dX2_writeSum_36 : decode cX2_writeSum 36 = .ok (.iinc 3 1, 3) := by decide +kernel
theorem dX2_writeSum_39 : decode cX2_writeSum 39 = .ok (.goto (-31), 3) := by decide +kernel
theorem dX2_writeSum_42 : decode cX2_writeSum 42 = .ok (.return_, 1) := by decide +kernel
set_option maxRecDepth 20000 in
theorem ggX2_writeRoot_X2_write : GoodIn wsX2_writeRoot wsX2_write := goodIn_r _ [7, 8, 9, 10, 11, 21, 22, 23, 24, 25, 26, 27, 28, 29, 30, 31, 32] (by decide +kernel) (by decide +kernel)
set_option maxRecDepth 20000 in
theorem gX2_writeRoot_X2_write : GoodIn wsX2_writeRoot (wsV RX2 40 RX2 yX2_write wsX2_write) := goodIn_app (goodIn_of _ (by decide +kernel)) ggX2_writeRoot_X2_write
set_option maxRecDepth 20000 in
theorem ggX2_writeRoot_X2_writeSum : GoodIn wsX2_writeRoot wsX2_writeSum := goodIn_r _ [15, 16, 17, 18, 6, 19, 11, 20, 3, 4, 5, 7, 8, 9, 10, 21, 22, 23, 24, 25, 26, 27, 28, 29, 30, 31, 32] (by decide +kernel) (by decide +kernel)
set_option maxRecDepth 20000 in
theorem gX2_writeRoot_X2_writeSum : GoodIn wsX2_writeRoot (wsV RX2 57 RX2 yX2_writeSum wsX2_writeSum) := goodIn_app (goodIn_of _ (by decide +kernel)) ggX2_writeRoot_X2_writeSum
theorem dX2_writeRoot_0 : decode cX2_writeRoot 0 = .ok (.iload_n 2, 1) := by decide +kernel
theorem dX2_writeRoot_1 : decode cX2_writeRoot 1 = .ok (.ifCond .ge 10, 3) := by decide +kernel
theorem dX2_writeRoot_4 : decode cX2_writeRoot 4 = .ok (.aload_n 0, 1) := by decide +kernel
theorem dX2_writeRoot_5 : decode cX2_writeRoot 5 = .ok (.getfield 54, 3) := by decide +kernel
theorem dX2_writeRoot_8 : decode cX2_writeRoot 8 = .ok (.goto 9, 3) := by decide +kernel
theorem dX2_writeRoot_11 : decode cX2_writeRoot 11 = .ok (.aload_n 0, 1) := by decide +kernel
theorem dX2_writeRoot_12 : decode cX2_writeRoot 12 = .ok (.getfield 54, 3) := by decide +kernel
theorem dX2_writeRoot_15 : decode cX2_writeRoot 15 = .ok (.iconst 1, 1) := by decide +kernel
theorem dX2_writeRoot_16 : decode cX2_writeRoot 16 = .ok (.isub, 1) := by decide +kernel
theorem dX2_writeRoot_17 : decode cX2_writeRoot 17 = .ok (.istore_n 3, 1) := by decide +kernel
theorem dX2_writeRoot_18 : decode cX2_writeRoot 18 = .ok (.aload_n 0, 1) := by decide +kernel
theorem dX2_writeRoot_19 : decode cX2_writeRoot 19 = .ok (.bipush 64, 2) := by decide +kernel
theorem dX2_writeRoot_21 : decode cX2_writeRoot 21 = .ok (.iload_n 1, 1) := by decide +kernel
theorem dX2_writeRoot_22 : decode cX2_writeRoot 22 = .ok (.imul, 1) := by decide +kernel
theorem dX2_writeRoot_23 : decode cX2_writeRoot 23 = .ok (.iload_n 3, 1) := by decide +kernel
theorem dX2_writeRoot_24 : decode cX2_writeRoot 24 = .ok (.invokevirtual 40, 3) := by decide +kernel
theorem dX2_writeRoot_27 : decode cX2_writeRoot 27 = .ok (.iconst 0, 1) := by decide +kernel
theorem dX2_writeRoot_28 : decode cX2_writeRoot 28 = .ok (.istore 4, 2) := by decide +kernel
theorem dX2_writeRoot_30 : decode cX2_writeRoot 30 = .ok (.iconst 1, 1) := by decide +kernel
theorem dX2_writeRoot_31 : decode cX2_writeRoot 31 = .ok (.istore 5, 2) := by decide +kernel
theorem dX2_writeRoot_33 : decode cX2_writeRoot 33 = .ok (.iload 5, 2) := by decide +kernel
theorem dX2_writeRoot_35 : decode cX2_writeRoot 35 = .ok (.bipush 60, 2) := by decide +kernel
theorem dX2_writeRoot_37 : decode cX2_writeRoot 37 = .ok (.if_icmp .ge 49, 3) := by decide +kernel
theorem dX2_writeRoot_40 : decode cX2_writeRoot 40 = .ok (.iload 4, 2) := by decide +kernel
theorem dX2_writeRoot_42 : decode cX2_writeRoot 42 = .ok (.iload_n 2, 1) := by decide +kernel
theorem dX2_writeRoot_43 : decode cX2_writeRoot 43 = .ok (.if_icmp .ne 6, 3) := by decide +kernel
theorem dX2_writeRoot_46 : decode cX2_writeRoot 46 = .ok (.iinc 4 1, 3) := by decide +kernel
theorem dX2_writeRoot_49 : decode cX2_writeRoot 49 = .ok (.aload_n 0, 1) := by decide +kernel
theorem dX2_writeRoot_50 : decode cX2_writeRoot 50 = .ok (.bipush 64, 2) := by decide +kernel
theorem dX2_writeRoot_52 : decode cX2_writeRoot 52 = .ok (.iload_n 1, 1) := by decide +kernel
theorem dX2_writeRoot_53 : decode cX2_writeRoot 53 = .ok (.imul, 1) := by decide +kernel
theorem dX2_writeRoot_54 : decode cX2_writeRoot 54 = .ok (.iload 5, 2) := by decide +kernel
theorem dX2_writeRoot_56 : decode cX2_writeRoot 56 = .ok (.iadd, 1) := by decide +kernel
theorem dX2_writeRoot_57 : decode cX2_writeRoot 57 = .ok (.iload 5, 2) := by decide +kernel
theorem dX2_writeRoot_59 : decode cX2_writeRoot 59 = .ok (.iload_n 3, 1) := by decide +kernel
theorem dX2_writeRoot_60 : decode cX2_writeRoot 60 = .ok (.if_icmp .gt 13, 3) := by decide +kernel
theorem dX2_writeRoot_63 : decode cX2_writeRoot 63 = .ok (.aload_n 0, 1) := by decide +kernel
theorem dX2_writeRoot_64 : decode cX2_writeRoot 64 = .ok (.getfield 13, 3) := by decide +kernel
theorem dX2_writeRoot_67 : decode cX2_writeRoot 67 = .ok (.iload 4, 2) := by decide +kernel
theorem dX2_writeRoot_69 : decode cX2_writeRoot 69 = .ok (.iaload, 1) := by decide +kernel
theorem dX2_writeRoot_70 : decode cX2_writeRoot 70 = .ok (.goto 4, 3) := by decide +kernel
theorem dX2_writeRoot_73 : decode cX2_writeRoot 73 = .ok (.iconst 0, 1) := by decide +kernel
theorem dX2_writeRoot_74 : decode cX2_writeRoot 74 = .ok (.invokevirtual 40, 3) := by decide +kernel
theorem dX2_writeRoot_77 : decode cX2_writeRoot 77 = .ok (.iinc 4 1, 3) := by decide +kernel
theorem dX2_writeRoot_80 : decode cX2_writeRoot 80 = .ok (.iinc 5 1, 3) := by decide +kernel
theorem dX2_writeRoot_83 : decode cX2_writeRoot 83 = .ok (.goto (-50), 3) := by decide +kernel
theorem dX2_writeRoot_86 : decode cX2_writeRoot 86 = .ok (.aload_n 0, 1) := by decide +kernel
theorem dX2_writeRoot_87 : decode cX2_writeRoot 87 = .ok (.iload_n 1, 1) := by decide +kernel
theorem dX2_writeRoot_88 : decode cX2_writeRoot 88 = .ok (.invokevirtual 57, 3) := by decide +kernel
theorem dX2_writeRoot_91 : decode cX2_writeRoot 91 = .ok (.return_, 1) := by decide +kernel
set_option maxRecDepth 20000 in
theorem ggX2_writeEntry_X2_write : GoodIn wsX2_writeEntry wsX2_write := goodIn_r _ [7, 8, 9, 10, 11, 21, 22, 23, 24, 25, 26, 27, 28, 29, 30, 31, 32] (by decide +kernel) (by decide +kernel)
set_option maxRecDepth 20000 in
theorem gX2_writeEntry_X2_write : GoodIn wsX2_writeEntry (wsV RX2 40 RX2 yX2_write wsX2_write) := goodIn_app (goodIn_of _ (by decide +kernel)) ggX2_writeEntry_X2_write
set_option maxRecDepth 20000 in
theorem ggX2_writeEntry_X2_writeSum : GoodIn wsX2_writeEntry wsX2_writeSum := goodIn_r _ [15, 16, 17, 18, 6, 19, 11, 20, 3, 4, 5, 7, 8, 9, 10, 21, 22, 23, 24, 25, 26, 27, 28, 29, 30, 31, 32] (by decide +kernel) (by decide +kernel)
set_option maxRecDepth 20000 in
theorem gX2_writeEntry_X2_writeSum : GoodIn wsX2_writeEntry (wsV RX2 57 RX2 yX2_writeSum wsX2_writeSum) := goodIn_app (goodIn_of _ (by decide +kernel)) ggX2_writeEntry_X2_writeSum
theorem dX2_writeEntry_0 : decode cX2_writeEntry 0 = .ok (.aload_n 0, 1) := by decide +kernel
theorem dX2_writeEntry_1 : decode cX2_writeEntry 1 = .ok (.bipush 64, 2) := by decide +kernel
theorem dX2_writeEntry_3 : decode cX2_writeEntry 3 = .ok (.iload_n 1, 1) := by decide +kernel
theorem dX2_writeEntry_4 : decode cX2_writeEntry 4 = .ok (.imul, 1) := by decide +kernel
theorem dX2_writeEntry_5 : decode cX2_writeEntry 5 = .ok (.iload_n 2, 1) := by decide +kernel
theorem dX2_writeEntry_6 : decode cX2_writeEntry 6 = .ok (.sipush 255, 3) := by decide +kernel
theorem dX2_writeEntry_9 : decode cX2_writeEntry 9 = .ok (.iand, 1) := by decide +kernel
theorem dX2_writeEntry_10 : decode cX2_writeEntry 10 = .ok (.invokevirtual 40, 3) := by decide +kernel
theorem dX2_writeEntry_13 : decode cX2_writeEntry 13 = .ok (.aload_n 0, 1) := by decide +kernel
theorem dX2_writeEntry_14 : decode cX2_writeEntry 14 = .ok (.bipush 64, 2) := by decide +kernel
theorem dX2_writeEntry_16 : decode cX2_writeEntry 16 = .ok (.iload_n 1, 1) := by decide +kernel
theorem dX2_writeEntry_17 : decode cX2_writeEntry 17 = .ok (.imul, 1) := by decide +kernel
theorem dX2_writeEntry_18 : decode cX2_writeEntry 18 = .ok (.iconst 1, 1) := by decide +kernel
theorem dX2_writeEntry_19 : decode cX2_writeEntry 19 = .ok (.iadd, 1) := by decide +kernel
theorem dX2_writeEntry_20 : decode cX2_writeEntry 20 = .ok (.iload_n 2, 1) := by decide +kernel
theorem dX2_writeEntry_21 : decode cX2_writeEntry 21 = .ok (.bipush 8, 2) := by decide +kernel
theorem dX2_writeEntry_23 : decode cX2_writeEntry 23 = .ok (.ishr, 1) := by decide +kernel
theorem dX2_writeEntry_24 : decode cX2_writeEntry 24 = .ok (.invokevirtual 40, 3) := by decide +kernel
theorem dX2_writeEntry_27 : decode cX2_writeEntry 27 = .ok (.aload_n 0, 1) := by decide +kernel
theorem dX2_writeEntry_28 : decode cX2_writeEntry 28 = .ok (.bipush 64, 2) := by decide +kernel
theorem dX2_writeEntry_30 : decode cX2_writeEntry 30 = .ok (.iload_n 1, 1) := by decide +kernel
theorem dX2_writeEntry_31 : decode cX2_writeEntry 31 = .ok (.imul, 1) := by decide +kernel
theorem dX2_writeEntry_32 : decode cX2_writeEntry 32 = .ok (.iconst 2, 1) := by decide +kernel
theorem dX2_writeEntry_33 : decode cX2_writeEntry 33 = .ok (.iadd, 1) := by decide +kernel
theorem dX2_writeEntry_34 : decode cX2_writeEntry 34 = .ok (.aload_n 0, 1) := by decide +kernel
theorem dX2_writeEntry_35 : decode cX2_writeEntry 35 = .ok (.getfield 61, 3) := by decide +kernel
theorem dX2_writeEntry_38 : decode cX2_writeEntry 38 = .ok (.invokevirtual 40, 3) := by decide +kernel
theorem dX2_writeEntry_41 : decode cX2_writeEntry 41 = .ok (.iconst 3, 1) := by decide +kernel
theorem dX2_writeEntry_42 : decode cX2_writeEntry 42 = .ok (.istore_n 3, 1) := by decide +kernel
theorem dX2_writeEntry_43 : decode cX2_writeEntry 43 = .ok (.iload_n 3, 1) := by decide +kernel
theorem dX2_writeEntry_44 : decode cX2_writeEntry 44 = .ok (.bipush 60, 2) := by decide +kernel
theorem dX2_writeEntry_46 : decode cX2_writeEntry 46 = .ok (.if_icmp .ge 41, 3) := by decide +kernel
theorem dX2_writeEntry_49 : decode cX2_writeEntry 49 = .ok (.aload_n 0, 1) := by decide +kernel
theorem dX2_writeEntry_50 : decode cX2_writeEntry 50 = .ok (.bipush 64, 2) := by decide +kernel
theorem dX2_writeEntry_52 : decode cX2_writeEntry 52 = .ok (.iload_n 1, 1) := by decide +kernel
theorem dX2_writeEntry_53 : decode cX2_writeEntry 53 = .ok (.imul, 1) := by decide +kernel
theorem dX2_writeEntry_54 : decode cX2_writeEntry 54 = .ok (.iload_n 3, 1) := by decide +kernel
theorem dX2_writeEntry_55 : decode cX2_writeEntry 55 = .ok (.iadd, 1) := by decide +kernel
theorem dX2_writeEntry_56 : decode cX2_writeEntry 56 = .ok (.iload_n 3, 1) := by decide +kernel
theorem dX2_writeEntry_57 : decode cX2_writeEntry 57 = .ok (.iconst 3, 1) := by decide +kernel
theorem dX2_writeEntry_58 : decode cX2_writeEntry 58 = .ok (.isub, 1) := by decide +kernel
theorem dX2_writeEntry_59 : decode cX2_writeEntry 59 = .ok (.aload_n 0, 1) := by decide +kernel
theorem dX2_writeEntry_60 : decode cX2_writeEntry 60 = .ok (.getfield 61, 3) := by decide +kernel
theorem dX2_writeEntry_63 : decode cX2_writeEntry 63 = .ok (.if_icmp .ge 14, 3) := by decide +kernel
theorem dX2_writeEntry_66 : decode cX2_writeEntry 66 = .ok (.aload_n 0, 1) := by decide +kernel
theorem dX2_writeEntry_67 : decode cX2_writeEntry 67 = .ok (.getfield 16, 3) := by decide +kernel
theorem dX2_writeEntry_70 : decode cX2_writeEntry 70 = .ok (.iload_n 3, 1) := by decide +kernel
theorem dX2_writeEntry_71 : decode cX2_writeEntry 71 = .ok (.iconst 3, 1) := by decide +kernel
theorem dX2_writeEntry_72 : decode cX2_writeEntry 72 = .ok (.isub, 1) := by decide +kernel
theorem dX2_writeEntry_73 : decode cX2_writeEntry 73 = .ok (.iaload, 1) := by decide +kernel
theorem dX2_writeEntry_74 : decode cX2_writeEntry 74 = .ok (.goto 4, 3) := by decide +kernel
theorem dX2_writeEntry_77 : decode cX2_writeEntry 77 = .ok (.iconst 0, 1) := by decide +kernel
theorem dX2_writeEntry_78 : decode cX2_writeEntry 78 = .ok (.invokevirtual 40, 3) := by decide +kernel
theorem dX2_writeEntry_81 : decode cX2_writeEntry 81 = .ok (.iinc 3 1, 3) := by decide +kernel
theorem dX2_writeEntry_84 : decode cX2_writeEntry 84 = .ok (.goto (-41), 3) := by decide +kernel
theorem dX2_writeEntry_87 : decode cX2_writeEntry 87 = .ok (.aload_n 0, 1) := by decide +kernel
theorem dX2_writeEntry_88 : decode cX2_writeEntry 88 = .ok (.iload_n 1, 1) := by decide +kernel
theorem dX2_writeEntry_89 : decode cX2_writeEntry 89 = .ok (.invokevirtual 57, 3) := by decide +kernel
theorem dX2_writeEntry_92 : decode cX2_writeEntry 92 = .ok (.return_, 1) := by decide +kernel
set_option maxRecDepth 20000 in
theorem ggX2_turnTo_X2_write : GoodIn wsX2_turnTo wsX2_write := goodIn_r _ [6, 7, 8, 9, 10, 11, 12, 13, 14, 15, 16, 17, 18, 19, 20, 21, 22] (by decide +kernel) (by decide +kernel)
set_option maxRecDepth 20000 in
theorem gX2_turnTo_X2_write : GoodIn wsX2_turnTo (wsV RX2 40 RX2 yX2_write wsX2_write) := goodIn_app (goodIn_of _ (by decide +kernel)) ggX2_turnTo_X2_write
theorem dX2_turnTo_0 : decode cX2_turnTo 0 = .ok (.aload_n 0, 1) := by decide +kernel
theorem dX2_turnTo_1 : decode cX2_turnTo 1 = .ok (.iconst 0, 1) := by decide +kernel
theorem dX2_turnTo_2 : decode cX2_turnTo 2 = .ok (.iload_n 1, 1) := by decide +kernel
theorem dX2_turnTo_3 : decode cX2_turnTo 3 = .ok (.invokevirtual 40, 3) := by decide +kernel
theorem dX2_turnTo_6 : decode cX2_turnTo 6 = .ok (.aload_n 0, 1) := by decide +kernel
theorem dX2_turnTo_7 : decode cX2_turnTo 7 = .ok (.iload_n 1, 1) := by decide +kernel
theorem dX2_turnTo_8 : decode cX2_turnTo 8 = .ok (.putfield 29, 3) := by decide +kernel
theorem dX2_turnTo_11 : decode cX2_turnTo 11 = .ok (.return_, 1) := by decide +kernel
theorem dX2_isUsed_0 : decode cX2_isUsed 0 = .ok (.iconst 0, 1) := by decide +kernel
theorem dX2_isUsed_1 : decode cX2_isUsed 1 = .ok (.istore_n 2, 1) := by decide +kernel
theorem dX2_isUsed_2 : decode cX2_isUsed 2 = .ok (.iload_n 2, 1) := by decide +kernel
theorem dX2_isUsed_3 : decode cX2_isUsed 3 = .ok (.aload_n 0, 1) := by decide +kernel
theorem dX2_isUsed_4 : decode cX2_isUsed 4 = .ok (.getfield 54, 3) := by decide +kernel
theorem dX2_isUsed_7 : decode cX2_isUsed 7 = .ok (.if_icmp .ge 21, 3) := by decide +kernel
theorem dX2_isUsed_10 : decode cX2_isUsed 10 = .ok (.aload_n 0, 1) := by decide +kernel
theorem dX2_isUsed_11 : decode cX2_isUsed 11 = .ok (.getfield 13, 3) := by decide +kernel
theorem dX2_isUsed_14 : decode cX2_isUsed 14 = .ok (.iload_n 2, 1) := by decide +kernel
theorem dX2_isUsed_15 : decode cX2_isUsed 15 = .ok (.iaload, 1) := by decide +kernel
theorem dX2_isUsed_16 : decode cX2_isUsed 16 = .ok (.iload_n 1, 1) := by decide +kernel
theorem dX2_isUsed_17 : decode cX2_isUsed 17 = .ok (.if_icmp .ne 5, 3) := by decide +kernel
theorem dX2_isUsed_20 : decode cX2_isUsed 20 = .ok (.iconst 1, 1) := by decide +kernel
theorem dX2_isUsed_21 : decode cX2_isUsed 21 = .ok (.ireturn, 1) := by decide +kernel
theorem dX2_isUsed_22 : decode cX2_isUsed 22 = .ok (.iinc 2 1, 3) := by decide +kernel
theorem dX2_isUsed_25 : decode cX2_isUsed 25 = .ok (.goto (-23), 3) := by decide +kernel
theorem dX2_isUsed_28 : decode cX2_isUsed 28 = .ok (.iconst 0, 1) := by decide +kernel
theorem dX2_isUsed_29 : decode cX2_isUsed 29 = .ok (.ireturn, 1) := by decide +kernel
set_option maxRecDepth 20000 in
theorem ggX2_leastFree_X2_isUsed : GoodIn wsX2_leastFree wsX2_isUsed := goodIn_r _ [6, 7, 8, 9, 10, 11, 12, 13, 14, 15, 16, 17, 18, 19, 20] (by decide +kernel) (by decide +kernel)
set_option maxRecDepth 20000 in
theorem gX2_leastFree_X2_isUsed : GoodIn wsX2_leastFree (wsV RX2 64 RX2 yX2_isUsed wsX2_isUsed) := goodIn_app (goodIn_of _ (by decide +kernel)) ggX2_leastFree_X2_isUsed
theorem dX2_leastFree_0 : decode cX2_leastFree 0 = .ok (.iconst 3, 1) := by decide +kernel
theorem dX2_leastFree_1 : decode cX2_leastFree 1 = .ok (.istore_n 1, 1) := by decide +kernel
theorem dX2_leastFree_2 : decode cX2_leastFree 2 = .ok (.iload_n 1, 1) := by decide +kernel
theorem dX2_leastFree_3 : decode cX2_leastFree 3 = .ok (.aload_n 0, 1) := by decide +kernel
theorem dX2_leastFree_4 : decode cX2_leastFree 4 = .ok (.getfield 25, 3) := by decide +kernel
theorem dX2_leastFree_7 : decode cX2_leastFree 7 = .ok (.if_icmp .ge 19, 3) := by decide +kernel
theorem dX2_leastFree_10 : decode cX2_leastFree 10 = .ok (.aload_n 0, 1) := by decide +kernel
theorem dX2_leastFree_11 : decode cX2_leastFree 11 = .ok (.iload_n 1, 1) := by decide +kernel
theorem dX2_leastFree_12 : decode cX2_leastFree 12 = .ok (.invokevirtual 64, 3) := by decide +kernel
theorem dX2_leastFree_15 : decode cX2_leastFree 15 = .ok (.ifCond .ne 5, 3) := by decide +kernel
theorem dX2_leastFree_18 : decode cX2_leastFree 18 = .ok (.iload_n 1, 1) := by decide +kernel
theorem dX2_leastFree_19 : decode cX2_leastFree 19 = .ok (.ireturn, 1) := by decide +kernel
theorem dX2_leastFree_20 : decode cX2_leastFree 20 = .ok (.iinc 1 1, 3) := by decide +kernel
theorem dX2_leastFree_23 : decode cX2_leastFree 23 = .ok (.goto (-21), 3) := by decide +kernel
theorem dX2_leastFree_26 : decode cX2_leastFree 26 = .ok (.iconst (-1), 1) := by decide +kernel
theorem dX2_leastFree_27 : decode cX2_leastFree 27 = .ok (.ireturn, 1) := by decide +kernel
theorem dX2_nameOf_0 : decode cX2_nameOf 0 = .ok (.aload_n 0, 1) := by decide +kernel
theorem dX2_nameOf_1 : decode cX2_nameOf 1 = .ok (.getfield 7, 3) := by decide +kernel
theorem dX2_nameOf_4 : decode cX2_nameOf 4 = .ok (.bipush 64, 2) := by decide +kernel
theorem dX2_nameOf_6 : decode cX2_nameOf 6 = .ok (.aload_n 0, 1) := by decide +kernel
theorem dX2_nameOf_7 : decode cX2_nameOf 7 = .ok (.getfield 13, 3) := by decide +kernel
theorem dX2_nameOf_10 : decode cX2_nameOf 10 = .ok (.iload_n 1, 1) := by decide +kernel
theorem dX2_nameOf_11 : decode cX2_nameOf 11 = .ok (.iaload, 1) := by decide +kernel
theorem dX2_nameOf_12 : decode cX2_nameOf 12 = .ok (.imul, 1) := by decide +kernel
theorem dX2_nameOf_13 : decode cX2_nameOf 13 = .ok (.iaload, 1) := by decide +kernel
theorem dX2_nameOf_14 : decode cX2_nameOf 14 = .ok (.sipush 256, 3) := by decide +kernel
theorem dX2_nameOf_17 : decode cX2_nameOf 17 = .ok (.aload_n 0, 1) := by decide +kernel
theorem dX2_nameOf_18 : decode cX2_nameOf 18 = .ok (.getfield 7, 3) := by decide +kernel
theorem dX2_nameOf_21 : decode cX2_nameOf 21 = .ok (.bipush 64, 2) := by decide +kernel
theorem dX2_nameOf_23 : decode cX2_nameOf 23 = .ok (.aload_n 0, 1) := by decide +kernel
theorem dX2_nameOf_24 : decode cX2_nameOf 24 = .ok (.getfield 13, 3) := by decide +kernel
theorem dX2_nameOf_27 : decode cX2_nameOf 27 = .ok (.iload_n 1, 1) := by decide +kernel
theorem dX2_nameOf_28 : decode cX2_nameOf 28 = .ok (.iaload, 1) := by decide +kernel
theorem dX2_nameOf_29 : decode cX2_nameOf 29 = .ok (.imul, 1) := by decide +kernel
theorem dX2_nameOf_30 : decode cX2_nameOf 30 = .ok (.iconst 1, 1) := by decide +kernel
theorem dX2_nameOf_31 : decode cX2_nameOf 31 = .ok (.iadd, 1) := by decide +kernel
theorem dX2_nameOf_32 : decode cX2_nameOf 32 = .ok (.iaload, 1) := by decide +kernel
theorem dX2_nameOf_33 : decode cX2_nameOf 33 = .ok (.imul, 1) := by decide +kernel
theorem dX2_nameOf_34 : decode cX2_nameOf 34 = .ok (.iadd, 1) := by decide +kernel
theorem dX2_nameOf_35 : decode cX2_nameOf 35 = .ok (.ireturn, 1) := by decide +kernel
theorem dX2_longOf_0 : decode cX2_longOf 0 = .ok (.aload_n 0, 1) := by decide +kernel
theorem dX2_longOf_1 : decode cX2_longOf 1 = .ok (.getfield 7, 3) := by decide +kernel
theorem dX2_longOf_4 : decode cX2_longOf 4 = .ok (.bipush 64, 2) := by decide +kernel
theorem dX2_longOf_6 : decode cX2_longOf 6 = .ok (.aload_n 0, 1) := by decide +kernel
theorem dX2_longOf_7 : decode cX2_longOf 7 = .ok (.getfield 13, 3) := by decide +kernel
theorem dX2_longOf_10 : decode cX2_longOf 10 = .ok (.iload_n 1, 1) := by decide +kernel
theorem dX2_longOf_11 : decode cX2_longOf 11 = .ok (.iaload, 1) := by decide +kernel
theorem dX2_longOf_12 : decode cX2_longOf 12 = .ok (.imul, 1) := by decide +kernel
theorem dX2_longOf_13 : decode cX2_longOf 13 = .ok (.iconst 2, 1) := by decide +kernel
theorem dX2_longOf_14 : decode cX2_longOf 14 = .ok (.iadd, 1) := by decide +kernel
theorem dX2_longOf_15 : decode cX2_longOf 15 = .ok (.iaload, 1) := by decide +kernel
theorem dX2_longOf_16 : decode cX2_longOf 16 = .ok (.ireturn, 1) := by decide +kernel
set_option maxRecDepth 20000 in
theorem ggX2_hasFed_X2_longOf : GoodIn wsX2_hasFed wsX2_longOf := goodIn_r _ [9, 2, 3, 10, 11, 12, 13, 14, 15, 16, 17, 18, 19, 20, 21] (by decide +kernel) (by decide +kernel)
set_option maxRecDepth 20000 in
theorem gX2_hasFed_X2_longOf : GoodIn wsX2_hasFed (wsV RX2 68 RX2 yX2_longOf wsX2_longOf) := goodIn_app (goodIn_of _ (by decide +kernel)) ggX2_hasFed_X2_longOf
theorem dX2_hasFed_0 : decode cX2_hasFed 0 = .ok (.aload_n 0, 1) := by decide +kernel
theorem dX2_hasFed_1 : decode cX2_hasFed 1 = .ok (.iload_n 1, 1) := by decide +kernel
theorem dX2_hasFed_2 : decode cX2_hasFed 2 = .ok (.invokevirtual 68, 3) := by decide +kernel
theorem dX2_hasFed_5 : decode cX2_hasFed 5 = .ok (.aload_n 0, 1) := by decide +kernel
theorem dX2_hasFed_6 : decode cX2_hasFed 6 = .ok (.getfield 61, 3) := by decide +kernel
theorem dX2_hasFed_9 : decode cX2_hasFed 9 = .ok (.if_icmp .eq 5, 3) := by decide +kernel
theorem dX2_hasFed_12 : decode cX2_hasFed 12 = .ok (.iconst 0, 1) := by decide +kernel
theorem dX2_hasFed_13 : decode cX2_hasFed 13 = .ok (.ireturn, 1) := by decide +kernel
theorem dX2_hasFed_14 : decode cX2_hasFed 14 = .ok (.iconst 0, 1) := by decide +kernel
theorem dX2_hasFed_15 : decode cX2_hasFed 15 = .ok (.istore_n 2, 1) := by decide +kernel
theorem dX2_hasFed_16 : decode cX2_hasFed 16 = .ok (.iload_n 2, 1) := by decide +kernel
theorem dX2_hasFed_17 : decode cX2_hasFed 17 = .ok (.aload_n 0, 1) := by decide +kernel
theorem dX2_hasFed_18 : decode cX2_hasFed 18 = .ok (.getfield 61, 3) := by decide +kernel
theorem dX2_hasFed_21 : decode cX2_hasFed 21 = .ok (.if_icmp .ge 38, 3) := by decide +kernel
theorem dX2_hasFed_24 : decode cX2_hasFed 24 = .ok (.aload_n 0, 1) := by decide +kernel
theorem dX2_hasFed_25 : decode cX2_hasFed 25 = .ok (.getfield 7, 3) := by decide +kernel
theorem dX2_hasFed_28 : decode cX2_hasFed 28 = .ok (.bipush 64, 2) := by decide +kernel
theorem dX2_hasFed_30 : decode cX2_hasFed 30 = .ok (.aload_n 0, 1) := by decide +kernel
theorem dX2_hasFed_31 : decode cX2_hasFed 31 = .ok (.getfield 13, 3) := by decide +kernel
theorem dX2_hasFed_34 : decode cX2_hasFed 34 = .ok (.iload_n 1, 1) := by decide +kernel
theorem dX2_hasFed_35 : decode cX2_hasFed 35 = .ok (.iaload, 1) := by decide +kernel
theorem dX2_hasFed_36 : decode cX2_hasFed 36 = .ok (.imul, 1) := by decide +kernel
theorem dX2_hasFed_37 : decode cX2_hasFed 37 = .ok (.iconst 3, 1) := by decide +kernel
theorem dX2_hasFed_38 : decode cX2_hasFed 38 = .ok (.iadd, 1) := by decide +kernel
theorem dX2_hasFed_39 : decode cX2_hasFed 39 = .ok (.iload_n 2, 1) := by decide +kernel
theorem dX2_hasFed_40 : decode cX2_hasFed 40 = .ok (.iadd, 1) := by decide +kernel
theorem dX2_hasFed_41 : decode cX2_hasFed 41 = .ok (.iaload, 1) := by decide +kernel
theorem dX2_hasFed_42 : decode cX2_hasFed 42 = .ok (.aload_n 0, 1) := by decide +kernel
theorem dX2_hasFed_43 : decode cX2_hasFed 43 = .ok (.getfield 16, 3) := by decide +kernel
theorem dX2_hasFed_46 : decode cX2_hasFed 46 = .ok (.iload_n 2, 1) := by decide +kernel
theorem dX2_hasFed_47 : decode cX2_hasFed 47 = .ok (.iaload, 1) := by decide +kernel
theorem dX2_hasFed_48 : decode cX2_hasFed 48 = .ok (.if_icmp .eq 5, 3) := by decide +kernel
theorem dX2_hasFed_51 : decode cX2_hasFed 51 = .ok (.iconst 0, 1) := by decide +kernel
theorem dX2_hasFed_52 : decode cX2_hasFed 52 = .ok (.ireturn, 1) := by decide +kernel
theorem dX2_hasFed_53 : decode cX2_hasFed 53 = .ok (.iinc 2 1, 3) := by decide +kernel
theorem dX2_hasFed_56 : decode cX2_hasFed 56 = .ok (.goto (-40), 3) := by decide +kernel
theorem dX2_hasFed_59 : decode cX2_hasFed 59 = .ok (.iconst 1, 1) := by decide +kernel
theorem dX2_hasFed_60 : decode cX2_hasFed 60 = .ok (.ireturn, 1) := by decide +kernel
theorem dX2_feed_0 : decode cX2_feed 0 = .ok (.aload_n 0, 1) := by decide +kernel
theorem dX2_feed_1 : decode cX2_feed 1 = .ok (.iconst 0, 1) := by decide +kernel
theorem dX2_feed_2 : decode cX2_feed 2 = .ok (.putfield 46, 3) := by decide +kernel
theorem dX2_feed_5 : decode cX2_feed 5 = .ok (.iload_n 1, 1) := by decide +kernel
theorem dX2_feed_6 : decode cX2_feed 6 = .ok (.ifCond .lt 19, 3) := by decide +kernel
theorem dX2_feed_9 : decode cX2_feed 9 = .ok (.iload_n 1, 1) := by decide +kernel
theorem dX2_feed_10 : decode cX2_feed 10 = .ok (.sipush 255, 3) := by decide +kernel
theorem dX2_feed_13 : decode cX2_feed 13 = .ok (.if_icmp .gt 12, 3) := by decide +kernel
theorem dX2_feed_16 : decode cX2_feed 16 = .ok (.aload_n 0, 1) := by decide +kernel
theorem dX2_feed_17 : decode cX2_feed 17 = .ok (.getfield 61, 3) := by decide +kernel
theorem dX2_feed_20 : decode cX2_feed 20 = .ok (.bipush 48, 2) := by decide +kernel
theorem dX2_feed_22 : decode cX2_feed 22 = .ok (.if_icmp .ne 5, 3) := by decide +kernel
theorem dX2_feed_25 : decode cX2_feed 25 = .ok (.iconst 0, 1) := by decide +kernel
theorem dX2_feed_26 : decode cX2_feed 26 = .ok (.ireturn, 1) := by decide +kernel
theorem dX2_feed_27 : decode cX2_feed 27 = .ok (.aload_n 0, 1) := by decide +kernel
theorem dX2_feed_28 : decode cX2_feed 28 = .ok (.getfield 16, 3) := by decide +kernel
theorem dX2_feed_31 : decode cX2_feed 31 = .ok (.aload_n 0, 1) := by decide +kernel
theorem dX2_feed_32 : decode cX2_feed 32 = .ok (.getfield 61, 3) := by decide +kernel
theorem dX2_feed_35 : decode cX2_feed 35 = .ok (.iload_n 1, 1) := by decide +kernel
theorem dX2_feed_36 : decode cX2_feed 36 = .ok (.iastore, 1) := by decide +kernel
theorem dX2_feed_37 : decode cX2_feed 37 = .ok (.aload_n 0, 1) := by decide +kernel
theorem dX2_feed_38 : decode cX2_feed 38 = .ok (.dup, 1) := by decide +kernel
theorem dX2_feed_39 : decode cX2_feed 39 = .ok (.getfield 61, 3) := by decide +kernel
theorem dX2_feed_42 : decode cX2_feed 42 = .ok (.iconst 1, 1) := by decide +kernel
theorem dX2_feed_43 : decode cX2_feed 43 = .ok (.iadd, 1) := by decide +kernel
theorem dX2_feed_44 : decode cX2_feed 44 = .ok (.putfield 61, 3) := by decide +kernel
theorem dX2_feed_47 : decode cX2_feed 47 = .ok (.iconst 1, 1) := by decide +kernel
theorem dX2_feed_48 : decode cX2_feed 48 = .ok (.ireturn, 1) := by decide +kernel
set_option maxRecDepth 20000 in
theorem ggX2_put_X2_hasFed : GoodIn wsX2_put wsX2_hasFed := goodIn_r _ [13, 4, 14, 7, 15, 16, 17, 18, 12, 19, 56, 57, 58, 59, 60, 61, 62, 63, 64, 65, 66, 67] (by decide +kernel) (by decide +kernel)
set_option maxRecDepth 20000 in
theorem gX2_put_X2_hasFed : GoodIn wsX2_put (wsV RX2 72 RX2 yX2_hasFed wsX2_hasFed) := goodIn_app (goodIn_of _ (by decide +kernel)) ggX2_put_X2_hasFed
set_option maxRecDepth 20000 in
theorem ggX2_put_X2_leastFree : GoodIn wsX2_put wsX2_leastFree := goodIn_r _ [23, 24, 25, 26, 27, 12, 28, 5, 7, 56, 57, 58, 59, 60, 61, 62, 63, 64, 65, 66, 67] (by decide +kernel) (by decide +kernel)
set_option maxRecDepth 20000 in
theorem gX2_put_X2_leastFree : GoodIn wsX2_put (wsV RX2 75 RX2 yX2_leastFree wsX2_leastFree) := goodIn_app (goodIn_of _ (by decide +kernel)) ggX2_put_X2_leastFree
set_option maxRecDepth 20000 in
theorem ggX2_put_X2_writeEntry : GoodIn wsX2_put wsX2_writeEntry := goodIn_r _ [32, 4, 15, 33, 34, 35, 12, 36, 37, 6, 38, 14, 39, 40, 41, 42, 43, 44, 45, 46, 47, 56, 57, 58, 59, 60, 61, 62, 63, 64, 65, 66, 67] (by decide +kernel) (by decide +kernel)
set_option maxRecDepth 20000 in
theorem gX2_put_X2_writeEntry : GoodIn wsX2_put (wsV RX2 79 RX2 yX2_writeEntry wsX2_writeEntry) := goodIn_app (goodIn_of _ (by decide +kernel)) ggX2_put_X2_writeEntry
set_option maxRecDepth 20000 in
theorem ggX2_put_X2_writeRoot : GoodIn wsX2_put wsX2_writeRoot := goodIn_r _ [51, 5, 7, 33, 34, 35, 12, 36, 37, 6, 38, 14, 39, 40, 41, 42, 43, 44, 45, 46, 47, 56, 57, 58, 59, 60, 61, 62, 63, 64, 65, 66, 67] (by decide +kernel) (by decide +kernel)
set_option maxRecDepth 20000 in
theorem gX2_put_X2_writeRoot : GoodIn wsX2_put (wsV RX2 36 RX2 yX2_writeRoot wsX2_writeRoot) := goodIn_app (goodIn_of _ (by decide +kernel)) ggX2_put_X2_writeRoot
set_option maxRecDepth 20000 in
theorem ggX2_put_X2_turnTo : GoodIn wsX2_put wsX2_turnTo := goodIn_r _ [55, 8, 33, 34, 35, 12, 36, 37, 6, 38, 14, 56, 57, 58, 59, 60, 61, 62, 63, 64, 65, 66, 67] (by decide +kernel) (by decide +kernel)
set_option maxRecDepth 20000 in
theorem gX2_put_X2_turnTo : GoodIn wsX2_put (wsV RX2 82 RX2 yX2_turnTo wsX2_turnTo) := goodIn_app (goodIn_of _ (by decide +kernel)) ggX2_put_X2_turnTo
theorem dX2_put_0 : decode cX2_put 0 = .ok (.aload_n 0, 1) := by decide +kernel
theorem dX2_put_1 : decode cX2_put 1 = .ok (.iconst 0, 1) := by decide +kernel
theorem dX2_put_2 : decode cX2_put 2 = .ok (.putfield 46, 3) := by decide +kernel
theorem dX2_put_5 : decode cX2_put 5 = .ok (.aload_n 0, 1) := by decide +kernel
theorem dX2_put_6 : decode cX2_put 6 = .ok (.getfield 32, 3) := by decide +kernel
theorem dX2_put_9 : decode cX2_put 9 = .ok (.ifCond .eq 20, 3) := by decide +kernel
theorem dX2_put_12 : decode cX2_put 12 = .ok (.iload_n 1, 1) := by decide +kernel
theorem dX2_put_13 : decode cX2_put 13 = .ok (.ifCond .lt 16, 3) := by decide +kernel
theorem dX2_put_16 : decode cX2_put 16 = .ok (.iload_n 1, 1) := by decide +kernel
theorem dX2_put_17 : decode cX2_put 17 = .ok (.ldc 71, 2) := by decide +kernel
theorem dX2_put_19 : decode cX2_put 19 = .ok (.if_icmp .gt 10, 3) := by decide +kernel
theorem dX2_put_22 : decode cX2_put 22 = .ok (.aload_n 0, 1) := by decide +kernel
theorem dX2_put_23 : decode cX2_put 23 = .ok (.getfield 61, 3) := by decide +kernel
theorem dX2_put_26 : decode cX2_put 26 = .ok (.ifCond .ne 5, 3) := by decide +kernel
theorem dX2_put_29 : decode cX2_put 29 = .ok (.iconst (-1), 1) := by decide +kernel
theorem dX2_put_30 : decode cX2_put 30 = .ok (.ireturn, 1) := by decide +kernel
theorem dX2_put_31 : decode cX2_put 31 = .ok (.iconst 0, 1) := by decide +kernel
theorem dX2_put_32 : decode cX2_put 32 = .ok (.istore_n 2, 1) := by decide +kernel
theorem dX2_put_33 : decode cX2_put 33 = .ok (.iload_n 2, 1) := by decide +kernel
theorem dX2_put_34 : decode cX2_put 34 = .ok (.aload_n 0, 1) := by decide +kernel
theorem dX2_put_35 : decode cX2_put 35 = .ok (.getfield 54, 3) := by decide +kernel
theorem dX2_put_38 : decode cX2_put 38 = .ok (.if_icmp .ge 24, 3) := by decide +kernel
theorem dX2_put_41 : decode cX2_put 41 = .ok (.aload_n 0, 1) := by decide +kernel
theorem dX2_put_42 : decode cX2_put 42 = .ok (.iload_n 2, 1) := by decide +kernel
theorem dX2_put_43 : decode cX2_put 43 = .ok (.invokevirtual 72, 3) := by decide +kernel
theorem dX2_put_46 : decode cX2_put 46 = .ok (.ifCond .eq 10, 3) := by decide +kernel
theorem dX2_put_49 : decode cX2_put 49 = .ok (.aload_n 0, 1) := by decide +kernel
theorem dX2_put_50 : decode cX2_put 50 = .ok (.iconst 0, 1) := by decide +kernel
theorem dX2_put_51 : decode cX2_put 51 = .ok (.putfield 61, 3) := by decide +kernel
theorem dX2_put_54 : decode cX2_put 54 = .ok (.iload_n 2, 1) := by decide +kernel
theorem dX2_put_55 : decode cX2_put 55 = .ok (.ireturn, 1) := by decide +kernel
theorem dX2_put_56 : decode cX2_put 56 = .ok (.iinc 2 1, 3) := by decide +kernel
theorem dX2_put_59 : decode cX2_put 59 = .ok (.goto (-26), 3) := by decide +kernel
theorem dX2_put_62 : decode cX2_put 62 = .ok (.aload_n 0, 1) := by decide +kernel
theorem dX2_put_63 : decode cX2_put 63 = .ok (.invokevirtual 75, 3) := by decide +kernel
theorem dX2_put_66 : decode cX2_put 66 = .ok (.istore_n 2, 1) := by decide +kernel
theorem dX2_put_67 : decode cX2_put 67 = .ok (.aload_n 0, 1) := by decide +kernel
theorem dX2_put_68 : decode cX2_put 68 = .ok (.getfield 54, 3) := by decide +kernel
theorem dX2_put_71 : decode cX2_put 71 = .ok (.bipush 40, 2) := by decide +kernel
theorem dX2_put_73 : decode cX2_put 73 = .ok (.if_icmp .eq 7, 3) := by decide +kernel
theorem dX2_put_76 : decode cX2_put 76 = .ok (.iload_n 2, 1) := by decide +kernel
theorem dX2_put_77 : decode cX2_put 77 = .ok (.ifCond .ge 5, 3) := by decide +kernel
theorem dX2_put_80 : decode cX2_put 80 = .ok (.iconst (-1), 1) := by decide +kernel
theorem dX2_put_81 : decode cX2_put 81 = .ok (.ireturn, 1) := by decide +kernel
theorem dX2_put_82 : decode cX2_put 82 = .ok (.aload_n 0, 1) := by decide +kernel
theorem dX2_put_83 : decode cX2_put 83 = .ok (.iconst 0, 1) := by decide +kernel
theorem dX2_put_84 : decode cX2_put 84 = .ok (.putfield 43, 3) := by decide +kernel
theorem dX2_put_87 : decode cX2_put 87 = .ok (.aload_n 0, 1) := by decide +kernel
theorem dX2_put_88 : decode cX2_put 88 = .ok (.iload_n 2, 1) := by decide +kernel
theorem dX2_put_89 : decode cX2_put 89 = .ok (.iload_n 1, 1) := by decide +kernel
theorem dX2_put_90 : decode cX2_put 90 = .ok (.invokevirtual 79, 3) := by decide +kernel
theorem dX2_put_93 : decode cX2_put 93 = .ok (.aload_n 0, 1) := by decide +kernel
theorem dX2_put_94 : decode cX2_put 94 = .ok (.getfield 13, 3) := by decide +kernel
theorem dX2_put_97 : decode cX2_put 97 = .ok (.aload_n 0, 1) := by decide +kernel
theorem dX2_put_98 : decode cX2_put 98 = .ok (.getfield 54, 3) := by decide +kernel
theorem dX2_put_101 : decode cX2_put 101 = .ok (.iload_n 2, 1) := by decide +kernel
theorem dX2_put_102 : decode cX2_put 102 = .ok (.iastore, 1) := by decide +kernel
theorem dX2_put_103 : decode cX2_put 103 = .ok (.aload_n 0, 1) := by decide +kernel
theorem dX2_put_104 : decode cX2_put 104 = .ok (.dup, 1) := by decide +kernel
theorem dX2_put_105 : decode cX2_put 105 = .ok (.getfield 54, 3) := by decide +kernel
theorem dX2_put_108 : decode cX2_put 108 = .ok (.iconst 1, 1) := by decide +kernel
theorem dX2_put_109 : decode cX2_put 109 = .ok (.iadd, 1) := by decide +kernel
theorem dX2_put_110 : decode cX2_put 110 = .ok (.putfield 54, 3) := by decide +kernel
theorem dX2_put_113 : decode cX2_put 113 = .ok (.aload_n 0, 1) := by decide +kernel
theorem dX2_put_114 : decode cX2_put 114 = .ok (.iconst 3, 1) := by decide +kernel
theorem dX2_put_115 : decode cX2_put 115 = .ok (.aload_n 0, 1) := by decide +kernel
theorem dX2_put_116 : decode cX2_put 116 = .ok (.getfield 29, 3) := by decide +kernel
theorem dX2_put_119 : decode cX2_put 119 = .ok (.isub, 1) := by decide +kernel
theorem dX2_put_120 : decode cX2_put 120 = .ok (.iconst (-1), 1) := by decide +kernel
theorem dX2_put_121 : decode cX2_put 121 = .ok (.invokevirtual 36, 3) := by decide +kernel
theorem dX2_put_124 : decode cX2_put 124 = .ok (.aload_n 0, 1) := by decide +kernel
theorem dX2_put_125 : decode cX2_put 125 = .ok (.iconst 3, 1) := by decide +kernel
theorem dX2_put_126 : decode cX2_put 126 = .ok (.aload_n 0, 1) := by decide +kernel
theorem dX2_put_127 : decode cX2_put 127 = .ok (.getfield 29, 3) := by decide +kernel
theorem dX2_put_130 : decode cX2_put 130 = .ok (.isub, 1) := by decide +kernel
theorem dX2_put_131 : decode cX2_put 131 = .ok (.invokevirtual 82, 3) := by decide +kernel
theorem dX2_put_134 : decode cX2_put 134 = .ok (.aload_n 0, 1) := by decide +kernel
theorem dX2_put_135 : decode cX2_put 135 = .ok (.iconst 0, 1) := by decide +kernel
theorem dX2_put_136 : decode cX2_put 136 = .ok (.putfield 61, 3) := by decide +kernel
theorem dX2_put_139 : decode cX2_put 139 = .ok (.aload_n 0, 1) := by decide +kernel
theorem dX2_put_140 : decode cX2_put 140 = .ok (.getfield 54, 3) := by decide +kernel
theorem dX2_put_143 : decode cX2_put 143 = .ok (.iconst 1, 1) := by decide +kernel
theorem dX2_put_144 : decode cX2_put 144 = .ok (.isub, 1) := by decide +kernel
theorem dX2_put_145 : decode cX2_put 145 = .ok (.ireturn, 1) := by decide +kernel
set_option maxRecDepth 20000 in
theorem ggX2_drop_X2_writeRoot : GoodIn wsX2_drop wsX2_writeRoot := goodIn_r _ [11, 3, 6, 12, 13, 14, 10, 15, 16, 4, 17, 18, 19, 20, 21, 22, 23, 24, 25, 26, 27, 32, 33, 34, 35, 36, 37, 38, 39, 40, 41, 42, 43] (by decide +kernel) (by decide +kernel)
set_option maxRecDepth 20000 in
theorem gX2_drop_X2_writeRoot : GoodIn wsX2_drop (wsV RX2 36 RX2 yX2_writeRoot wsX2_writeRoot) := goodIn_app (goodIn_of _ (by decide +kernel)) ggX2_drop_X2_writeRoot
set_option maxRecDepth 20000 in
theorem ggX2_drop_X2_turnTo : GoodIn wsX2_drop wsX2_turnTo := goodIn_r _ [31, 5, 12, 13, 14, 10, 15, 16, 4, 17, 18, 32, 33, 34, 35, 36, 37, 38, 39, 40, 41, 42, 43] (by decide +kernel) (by decide +kernel)
set_option maxRecDepth 20000 in
theorem gX2_drop_X2_turnTo : GoodIn wsX2_drop (wsV RX2 82 RX2 yX2_turnTo wsX2_turnTo) := goodIn_app (goodIn_of _ (by decide +kernel)) ggX2_drop_X2_turnTo
theorem dX2_drop_0 : decode cX2_drop 0 = .ok (.aload_n 0, 1) := by decide +kernel
theorem dX2_drop_1 : decode cX2_drop 1 = .ok (.iconst 0, 1) := by decide +kernel
theorem dX2_drop_2 : decode cX2_drop 2 = .ok (.putfield 46, 3) := by decide +kernel
theorem dX2_drop_5 : decode cX2_drop 5 = .ok (.aload_n 0, 1) := by decide +kernel
theorem dX2_drop_6 : decode cX2_drop 6 = .ok (.getfield 32, 3) := by decide +kernel
theorem dX2_drop_9 : decode cX2_drop 9 = .ok (.ifCond .eq 15, 3) := by decide +kernel
theorem dX2_drop_12 : decode cX2_drop 12 = .ok (.iload_n 1, 1) := by decide +kernel
theorem dX2_drop_13 : decode cX2_drop 13 = .ok (.ifCond .lt 11, 3) := by decide +kernel
theorem dX2_drop_16 : decode cX2_drop 16 = .ok (.iload_n 1, 1) := by decide +kernel
theorem dX2_drop_17 : decode cX2_drop 17 = .ok (.aload_n 0, 1) := by decide +kernel
theorem dX2_drop_18 : decode cX2_drop 18 = .ok (.getfield 54, 3) := by decide +kernel
theorem dX2_drop_21 : decode cX2_drop 21 = .ok (.if_icmp .lt 5, 3) := by decide +kernel
theorem dX2_drop_24 : decode cX2_drop 24 = .ok (.iconst 0, 1) := by decide +kernel
theorem dX2_drop_25 : decode cX2_drop 25 = .ok (.ireturn, 1) := by decide +kernel
theorem dX2_drop_26 : decode cX2_drop 26 = .ok (.aload_n 0, 1) := by decide +kernel
theorem dX2_drop_27 : decode cX2_drop 27 = .ok (.iconst 0, 1) := by decide +kernel
theorem dX2_drop_28 : decode cX2_drop 28 = .ok (.putfield 43, 3) := by decide +kernel
theorem dX2_drop_31 : decode cX2_drop 31 = .ok (.aload_n 0, 1) := by decide +kernel
theorem dX2_drop_32 : decode cX2_drop 32 = .ok (.iconst 3, 1) := by decide +kernel
theorem dX2_drop_33 : decode cX2_drop 33 = .ok (.aload_n 0, 1) := by decide +kernel
theorem dX2_drop_34 : decode cX2_drop 34 = .ok (.getfield 29, 3) := by decide +kernel
theorem dX2_drop_37 : decode cX2_drop 37 = .ok (.isub, 1) := by decide +kernel
theorem dX2_drop_38 : decode cX2_drop 38 = .ok (.iload_n 1, 1) := by decide +kernel
theorem dX2_drop_39 : decode cX2_drop 39 = .ok (.invokevirtual 36, 3) := by decide +kernel
theorem dX2_drop_42 : decode cX2_drop 42 = .ok (.aload_n 0, 1) := by decide +kernel
theorem dX2_drop_43 : decode cX2_drop 43 = .ok (.iconst 3, 1) := by decide +kernel
theorem dX2_drop_44 : decode cX2_drop 44 = .ok (.aload_n 0, 1) := by decide +kernel
theorem dX2_drop_45 : decode cX2_drop 45 = .ok (.getfield 29, 3) := by decide +kernel
theorem dX2_drop_48 : decode cX2_drop 48 = .ok (.isub, 1) := by decide +kernel
theorem dX2_drop_49 : decode cX2_drop 49 = .ok (.invokevirtual 82, 3) := by decide +kernel
theorem dX2_drop_52 : decode cX2_drop 52 = .ok (.aload_n 0, 1) := by decide +kernel
theorem dX2_drop_53 : decode cX2_drop 53 = .ok (.dup, 1) := by decide +kernel
theorem dX2_drop_54 : decode cX2_drop 54 = .ok (.getfield 54, 3) := by decide +kernel
theorem dX2_drop_57 : decode cX2_drop 57 = .ok (.iconst 1, 1) := by decide +kernel
theorem dX2_drop_58 : decode cX2_drop 58 = .ok (.isub, 1) := by decide +kernel
theorem dX2_drop_59 : decode cX2_drop 59 = .ok (.putfield 54, 3) := by decide +kernel
theorem dX2_drop_62 : decode cX2_drop 62 = .ok (.iload_n 1, 1) := by decide +kernel
theorem dX2_drop_63 : decode cX2_drop 63 = .ok (.istore_n 2, 1) := by decide +kernel
theorem dX2_drop_64 : decode cX2_drop 64 = .ok (.iload_n 2, 1) := by decide +kernel
theorem dX2_drop_65 : decode cX2_drop 65 = .ok (.aload_n 0, 1) := by decide +kernel
theorem dX2_drop_66 : decode cX2_drop 66 = .ok (.getfield 54, 3) := by decide +kernel
theorem dX2_drop_69 : decode cX2_drop 69 = .ok (.if_icmp .ge 23, 3) := by decide +kernel
theorem dX2_drop_72 : decode cX2_drop 72 = .ok (.aload_n 0, 1) := by decide +kernel
theorem dX2_drop_73 : decode cX2_drop 73 = .ok (.getfield 13, 3) := by decide +kernel
theorem dX2_drop_76 : decode cX2_drop 76 = .ok (.iload_n 2, 1) := by decide +kernel
theorem dX2_drop_77 : decode cX2_drop 77 = .ok (.aload_n 0, 1) := by decide +kernel
theorem dX2_drop_78 : decode cX2_drop 78 = .ok (.getfield 13, 3) := by decide +kernel
theorem dX2_drop_81 : decode cX2_drop 81 = .ok (.iload_n 2, 1) := by decide +kernel
theorem dX2_drop_82 : decode cX2_drop 82 = .ok (.iconst 1, 1) := by decide +kernel
theorem dX2_drop_83 : decode cX2_drop 83 = .ok (.iadd, 1) := by decide +kernel
theorem dX2_drop_84 : decode cX2_drop 84 = .ok (.iaload, 1) := by decide +kernel
theorem dX2_drop_85 : decode cX2_drop 85 = .ok (.iastore, 1) := by decide +kernel
theorem dX2_drop_86 : decode cX2_drop 86 = .ok (.iinc 2 1, 3) := by decide +kernel
theorem dX2_drop_89 : decode cX2_drop 89 = .ok (.goto (-25), 3) := by decide +kernel
theorem dX2_drop_92 : decode cX2_drop 92 = .ok (.iconst 1, 1) := by decide +kernel
theorem dX2_drop_93 : decode cX2_drop 93 = .ok (.ireturn, 1) := by decide +kernel
set_option maxRecDepth 20000 in
theorem ggX2_find_X2_nameOf : GoodIn wsX2_find wsX2_nameOf := goodIn_r _ [10, 4, 5, 15, 16, 17, 18, 19, 20, 21, 22, 23, 24, 25, 26] (by decide +kernel) (by decide +kernel)
set_option maxRecDepth 20000 in
theorem gX2_find_X2_nameOf : GoodIn wsX2_find (wsV RX2 85 RX2 yX2_nameOf wsX2_nameOf) := goodIn_app (goodIn_of _ (by decide +kernel)) ggX2_find_X2_nameOf
set_option maxRecDepth 20000 in
theorem ggX2_find_X2_longOf : GoodIn wsX2_find wsX2_longOf := goodIn_r _ [14, 4, 5, 15, 16, 17, 18, 19, 20, 21, 22, 23, 24, 25, 26] (by decide +kernel) (by decide +kernel)
set_option maxRecDepth 20000 in
theorem gX2_find_X2_longOf : GoodIn wsX2_find (wsV RX2 68 RX2 yX2_longOf wsX2_longOf) := goodIn_app (goodIn_of _ (by decide +kernel)) ggX2_find_X2_longOf
theorem dX2_find_0 : decode cX2_find 0 = .ok (.aload_n 0, 1) := by decide +kernel
theorem dX2_find_1 : decode cX2_find 1 = .ok (.iconst 0, 1) := by decide +kernel
theorem dX2_find_2 : decode cX2_find 2 = .ok (.putfield 46, 3) := by decide +kernel
theorem dX2_find_5 : decode cX2_find 5 = .ok (.aload_n 0, 1) := by decide +kernel
theorem dX2_find_6 : decode cX2_find 6 = .ok (.getfield 32, 3) := by decide +kernel
theorem dX2_find_9 : decode cX2_find 9 = .ok (.ifCond .ne 5, 3) := by decide +kernel
theorem dX2_find_12 : decode cX2_find 12 = .ok (.iconst (-1), 1) := by decide +kernel
theorem dX2_find_13 : decode cX2_find 13 = .ok (.ireturn, 1) := by decide +kernel
theorem dX2_find_14 : decode cX2_find 14 = .ok (.aload_n 0, 1) := by decide +kernel
theorem dX2_find_15 : decode cX2_find 15 = .ok (.getfield 54, 3) := by decide +kernel
theorem dX2_find_18 : decode cX2_find 18 = .ok (.iconst 1, 1) := by decide +kernel
theorem dX2_find_19 : decode cX2_find 19 = .ok (.isub, 1) := by decide +kernel
theorem dX2_find_20 : decode cX2_find 20 = .ok (.istore_n 3, 1) := by decide +kernel
theorem dX2_find_21 : decode cX2_find 21 = .ok (.iload_n 3, 1) := by decide +kernel
theorem dX2_find_22 : decode cX2_find 22 = .ok (.ifCond .lt 60, 3) := by decide +kernel
theorem dX2_find_25 : decode cX2_find 25 = .ok (.aload_n 0, 1) := by decide +kernel
theorem dX2_find_26 : decode cX2_find 26 = .ok (.iload_n 3, 1) := by decide +kernel
theorem dX2_find_27 : decode cX2_find 27 = .ok (.invokevirtual 85, 3) := by decide +kernel
theorem dX2_find_30 : decode cX2_find 30 = .ok (.iload_n 1, 1) := by decide +kernel
theorem dX2_find_31 : decode cX2_find 31 = .ok (.if_icmp .ne 45, 3) := by decide +kernel
theorem dX2_find_34 : decode cX2_find 34 = .ok (.iload_n 2, 1) := by decide +kernel
theorem dX2_find_35 : decode cX2_find 35 = .ok (.ifCond .lt 18, 3) := by decide +kernel
theorem dX2_find_38 : decode cX2_find 38 = .ok (.iload_n 2, 1) := by decide +kernel
theorem dX2_find_39 : decode cX2_find 39 = .ok (.aload_n 0, 1) := by decide +kernel
theorem dX2_find_40 : decode cX2_find 40 = .ok (.iload_n 3, 1) := by decide +kernel
theorem dX2_find_41 : decode cX2_find 41 = .ok (.invokevirtual 68, 3) := by decide +kernel
theorem dX2_find_44 : decode cX2_find 44 = .ok (.if_icmp .ge 9, 3) := by decide +kernel
theorem dX2_find_47 : decode cX2_find 47 = .ok (.iload_n 2, 1) := by decide +kernel
theorem dX2_find_48 : decode cX2_find 48 = .ok (.bipush 48, 2) := by decide +kernel
theorem dX2_find_50 : decode cX2_find 50 = .ok (.if_icmp .lt 7, 3) := by decide +kernel
theorem dX2_find_53 : decode cX2_find 53 = .ok (.iconst (-1), 1) := by decide +kernel
theorem dX2_find_54 : decode cX2_find 54 = .ok (.goto 21, 3) := by decide +kernel
theorem dX2_find_57 : decode cX2_find 57 = .ok (.aload_n 0, 1) := by decide +kernel
theorem dX2_find_58 : decode cX2_find 58 = .ok (.getfield 7, 3) := by decide +kernel
theorem dX2_find_61 : decode cX2_find 61 = .ok (.bipush 64, 2) := by decide +kernel
theorem dX2_find_63 : decode cX2_find 63 = .ok (.aload_n 0, 1) := by decide +kernel
theorem dX2_find_64 : decode cX2_find 64 = .ok (.getfield 13, 3) := by decide +kernel
theorem dX2_find_67 : decode cX2_find 67 = .ok (.iload_n 3, 1) := by decide +kernel
theorem dX2_find_68 : decode cX2_find 68 = .ok (.iaload, 1) := by decide +kernel
theorem dX2_find_69 : decode cX2_find 69 = .ok (.imul, 1) := by decide +kernel
theorem dX2_find_70 : decode cX2_find 70 = .ok (.iconst 3, 1) := by decide +kernel
theorem dX2_find_71 : decode cX2_find 71 = .ok (.iadd, 1) := by decide +kernel
theorem dX2_find_72 : decode cX2_find 72 = .ok (.iload_n 2, 1) := by decide +kernel
theorem dX2_find_73 : decode cX2_find 73 = .ok (.iadd, 1) := by decide +kernel
theorem dX2_find_74 : decode cX2_find 74 = .ok (.iaload, 1) := by decide +kernel
theorem dX2_find_75 : decode cX2_find 75 = .ok (.ireturn, 1) := by decide +kernel
theorem dX2_find_76 : decode cX2_find 76 = .ok (.iinc 3 (-1), 3) := by decide +kernel
theorem dX2_find_79 : decode cX2_find 79 = .ok (.goto (-58), 3) := by decide +kernel
theorem dX2_find_82 : decode cX2_find 82 = .ok (.iconst (-1), 1) := by decide +kernel
theorem dX2_find_83 : decode cX2_find 83 = .ok (.ireturn, 1) := by decide +kernel
set_option maxRecDepth 20000 in
theorem ggX2_entry_X2_nameOf : GoodIn wsX2_entry wsX2_nameOf := goodIn_r _ [9, 10, 4, 15, 16, 17, 18, 19, 20, 21, 22, 23, 24, 25, 26] (by decide +kernel) (by decide +kernel)
set_option maxRecDepth 20000 in
theorem gX2_entry_X2_nameOf : GoodIn wsX2_entry (wsV RX2 85 RX2 yX2_nameOf wsX2_nameOf) := goodIn_app (goodIn_of _ (by decide +kernel)) ggX2_entry_X2_nameOf
set_option maxRecDepth 20000 in
theorem ggX2_entry_X2_longOf : GoodIn wsX2_entry wsX2_longOf := goodIn_r _ [14, 10, 4, 15, 16, 17, 18, 19, 20, 21, 22, 23, 24, 25, 26] (by decide +kernel) (by decide +kernel)
set_option maxRecDepth 20000 in
theorem gX2_entry_X2_longOf : GoodIn wsX2_entry (wsV RX2 68 RX2 yX2_longOf wsX2_longOf) := goodIn_app (goodIn_of _ (by decide +kernel)) ggX2_entry_X2_longOf
theorem dX2_entry_0 : decode cX2_entry 0 = .ok (.aload_n 0, 1) := by decide +kernel
theorem dX2_entry_1 : decode cX2_entry 1 = .ok (.iconst 0, 1) := by decide +kernel
theorem dX2_entry_2 : decode cX2_entry 2 = .ok (.putfield 46, 3) := by decide +kernel
theorem dX2_entry_5 : decode cX2_entry 5 = .ok (.aload_n 0, 1) := by decide +kernel
theorem dX2_entry_6 : decode cX2_entry 6 = .ok (.getfield 32, 3) := by decide +kernel
theorem dX2_entry_9 : decode cX2_entry 9 = .ok (.ifCond .eq 15, 3) := by decide +kernel
theorem dX2_entry_12 : decode cX2_entry 12 = .ok (.iload_n 1, 1) := by decide +kernel
theorem dX2_entry_13 : decode cX2_entry 13 = .ok (.ifCond .lt 11, 3) := by decide +kernel
theorem dX2_entry_16 : decode cX2_entry 16 = .ok (.iload_n 1, 1) := by decide +kernel
theorem dX2_entry_17 : decode cX2_entry 17 = .ok (.aload_n 0, 1) := by decide +kernel
theorem dX2_entry_18 : decode cX2_entry 18 = .ok (.getfield 54, 3) := by decide +kernel
theorem dX2_entry_21 : decode cX2_entry 21 = .ok (.if_icmp .lt 5, 3) := by decide +kernel
theorem dX2_entry_24 : decode cX2_entry 24 = .ok (.iconst (-1), 1) := by decide +kernel
theorem dX2_entry_25 : decode cX2_entry 25 = .ok (.ireturn, 1) := by decide +kernel
theorem dX2_entry_26 : decode cX2_entry 26 = .ok (.iload_n 2, 1) := by decide +kernel
theorem dX2_entry_27 : decode cX2_entry 27 = .ok (.ifCond .ne 11, 3) := by decide +kernel
theorem dX2_entry_30 : decode cX2_entry 30 = .ok (.aload_n 0, 1) := by decide +kernel
theorem dX2_entry_31 : decode cX2_entry 31 = .ok (.iload_n 1, 1) := by decide +kernel
theorem dX2_entry_32 : decode cX2_entry 32 = .ok (.invokevirtual 85, 3) := by decide +kernel
theorem dX2_entry_35 : decode cX2_entry 35 = .ok (.goto 31, 3) := by decide +kernel
theorem dX2_entry_38 : decode cX2_entry 38 = .ok (.iload_n 2, 1) := by decide +kernel
theorem dX2_entry_39 : decode cX2_entry 39 = .ok (.iconst 1, 1) := by decide +kernel
theorem dX2_entry_40 : decode cX2_entry 40 = .ok (.if_icmp .ne 12, 3) := by decide +kernel
theorem dX2_entry_43 : decode cX2_entry 43 = .ok (.aload_n 0, 1) := by decide +kernel
theorem dX2_entry_44 : decode cX2_entry 44 = .ok (.getfield 13, 3) := by decide +kernel
theorem dX2_entry_47 : decode cX2_entry 47 = .ok (.iload_n 1, 1) := by decide +kernel
theorem dX2_entry_48 : decode cX2_entry 48 = .ok (.iaload, 1) := by decide +kernel
theorem dX2_entry_49 : decode cX2_entry 49 = .ok (.goto 17, 3) := by decide +kernel
theorem dX2_entry_52 : decode cX2_entry 52 = .ok (.iload_n 2, 1) := by decide +kernel
theorem dX2_entry_53 : decode cX2_entry 53 = .ok (.iconst 2, 1) := by decide +kernel
theorem dX2_entry_54 : decode cX2_entry 54 = .ok (.if_icmp .ne 11, 3) := by decide +kernel
theorem dX2_entry_57 : decode cX2_entry 57 = .ok (.aload_n 0, 1) := by decide +kernel
theorem dX2_entry_58 : decode cX2_entry 58 = .ok (.iload_n 1, 1) := by decide +kernel
theorem dX2_entry_59 : decode cX2_entry 59 = .ok (.invokevirtual 68, 3) := by decide +kernel
theorem dX2_entry_62 : decode cX2_entry 62 = .ok (.goto 4, 3) := by decide +kernel
theorem dX2_entry_65 : decode cX2_entry 65 = .ok (.iconst (-1), 1) := by decide +kernel
theorem dX2_entry_66 : decode cX2_entry 66 = .ok (.ireturn, 1) := by decide +kernel
theorem dX2_crash_0 : decode cX2_crash 0 = .ok (.aload_n 0, 1) := by decide +kernel
theorem dX2_crash_1 : decode cX2_crash 1 = .ok (.iconst 0, 1) := by decide +kernel
theorem dX2_crash_2 : decode cX2_crash 2 = .ok (.putfield 46, 3) := by decide +kernel
theorem dX2_crash_5 : decode cX2_crash 5 = .ok (.aload_n 0, 1) := by decide +kernel
theorem dX2_crash_6 : decode cX2_crash 6 = .ok (.getfield 32, 3) := by decide +kernel
theorem dX2_crash_9 : decode cX2_crash 9 = .ok (.ifCond .eq 22, 3) := by decide +kernel
theorem dX2_crash_12 : decode cX2_crash 12 = .ok (.aload_n 0, 1) := by decide +kernel
theorem dX2_crash_13 : decode cX2_crash 13 = .ok (.getfield 43, 3) := by decide +kernel
theorem dX2_crash_16 : decode cX2_crash 16 = .ok (.ifCond .eq 15, 3) := by decide +kernel
theorem dX2_crash_19 : decode cX2_crash 19 = .ok (.iload_n 1, 1) := by decide +kernel
theorem dX2_crash_20 : decode cX2_crash 20 = .ok (.ifCond .lt 11, 3) := by decide +kernel
theorem dX2_crash_23 : decode cX2_crash 23 = .ok (.iload_n 1, 1) := by decide +kernel
theorem dX2_crash_24 : decode cX2_crash 24 = .ok (.aload_n 0, 1) := by decide +kernel
theorem dX2_crash_25 : decode cX2_crash 25 = .ok (.getfield 43, 3) := by decide +kernel
theorem dX2_crash_28 : decode cX2_crash 28 = .ok (.if_icmp .le 5, 3) := by decide +kernel
theorem dX2_crash_31 : decode cX2_crash 31 = .ok (.iconst 0, 1) := by decide +kernel
theorem dX2_crash_32 : decode cX2_crash 32 = .ok (.ireturn, 1) := by decide +kernel
theorem dX2_crash_33 : decode cX2_crash 33 = .ok (.aload_n 0, 1) := by decide +kernel
theorem dX2_crash_34 : decode cX2_crash 34 = .ok (.getfield 43, 3) := by decide +kernel
theorem dX2_crash_37 : decode cX2_crash 37 = .ok (.iconst 1, 1) := by decide +kernel
theorem dX2_crash_38 : decode cX2_crash 38 = .ok (.isub, 1) := by decide +kernel
theorem dX2_crash_39 : decode cX2_crash 39 = .ok (.istore_n 2, 1) := by decide +kernel
theorem dX2_crash_40 : decode cX2_crash 40 = .ok (.iload_n 2, 1) := by decide +kernel
theorem dX2_crash_41 : decode cX2_crash 41 = .ok (.iload_n 1, 1) := by decide +kernel
theorem dX2_crash_42 : decode cX2_crash 42 = .ok (.if_icmp .lt 26, 3) := by decide +kernel
theorem dX2_crash_45 : decode cX2_crash 45 = .ok (.aload_n 0, 1) := by decide +kernel
theorem dX2_crash_46 : decode cX2_crash 46 = .ok (.getfield 7, 3) := by decide +kernel
theorem dX2_crash_49 : decode cX2_crash 49 = .ok (.aload_n 0, 1) := by decide +kernel
theorem dX2_crash_50 : decode cX2_crash 50 = .ok (.getfield 19, 3) := by decide +kernel
theorem dX2_crash_53 : decode cX2_crash 53 = .ok (.iload_n 2, 1) := by decide +kernel
theorem dX2_crash_54 : decode cX2_crash 54 = .ok (.iaload, 1) := by decide +kernel
theorem dX2_crash_55 : decode cX2_crash 55 = .ok (.aload_n 0, 1) := by decide +kernel
theorem dX2_crash_56 : decode cX2_crash 56 = .ok (.getfield 22, 3) := by decide +kernel
theorem dX2_crash_59 : decode cX2_crash 59 = .ok (.iload_n 2, 1) := by decide +kernel
theorem dX2_crash_60 : decode cX2_crash 60 = .ok (.iaload, 1) := by decide +kernel
theorem dX2_crash_61 : decode cX2_crash 61 = .ok (.iastore, 1) := by decide +kernel
theorem dX2_crash_62 : decode cX2_crash 62 = .ok (.iinc 2 (-1), 3) := by decide +kernel
theorem dX2_crash_65 : decode cX2_crash 65 = .ok (.goto (-25), 3) := by decide +kernel
theorem dX2_crash_68 : decode cX2_crash 68 = .ok (.aload_n 0, 1) := by decide +kernel
theorem dX2_crash_69 : decode cX2_crash 69 = .ok (.iconst 0, 1) := by decide +kernel
theorem dX2_crash_70 : decode cX2_crash 70 = .ok (.putfield 32, 3) := by decide +kernel
theorem dX2_crash_73 : decode cX2_crash 73 = .ok (.iconst 1, 1) := by decide +kernel
theorem dX2_crash_74 : decode cX2_crash 74 = .ok (.ireturn, 1) := by decide +kernel
set_option maxRecDepth 20000 in
theorem ggX2_rootIsRight_X2_isRight : GoodIn wsX2_rootIsRight wsX2_isRight := goodIn_r _ [7, 1, 8, 9, 10, 6, 11, 12, 13, 14, 15, 16, 17, 18, 19, 20, 21, 22, 23, 24] (by decide +kernel) (by decide +kernel)
set_option maxRecDepth 20000 in
theorem gX2_rootIsRight_X2_isRight : GoodIn wsX2_rootIsRight (wsV RX2 88 RX2 yX2_isRight wsX2_isRight) := goodIn_app (goodIn_of _ (by decide +kernel)) ggX2_rootIsRight_X2_isRight
theorem dX2_rootIsRight_0 : decode cX2_rootIsRight 0 = .ok (.aload_n 0, 1) := by decide +kernel
theorem dX2_rootIsRight_1 : decode cX2_rootIsRight 1 = .ok (.getfield 7, 3) := by decide +kernel
theorem dX2_rootIsRight_4 : decode cX2_rootIsRight 4 = .ok (.bipush 64, 2) := by decide +kernel
theorem dX2_rootIsRight_6 : decode cX2_rootIsRight 6 = .ok (.iload_n 1, 1) := by decide +kernel
theorem dX2_rootIsRight_7 : decode cX2_rootIsRight 7 = .ok (.imul, 1) := by decide +kernel
theorem dX2_rootIsRight_8 : decode cX2_rootIsRight 8 = .ok (.iaload, 1) := by decide +kernel
theorem dX2_rootIsRight_9 : decode cX2_rootIsRight 9 = .ok (.istore_n 2, 1) := by decide +kernel
theorem dX2_rootIsRight_10 : decode cX2_rootIsRight 10 = .ok (.aload_n 0, 1) := by decide +kernel
theorem dX2_rootIsRight_11 : decode cX2_rootIsRight 11 = .ok (.iload_n 1, 1) := by decide +kernel
theorem dX2_rootIsRight_12 : decode cX2_rootIsRight 12 = .ok (.invokevirtual 88, 3) := by decide +kernel
theorem dX2_rootIsRight_15 : decode cX2_rootIsRight 15 = .ok (.ifCond .eq 9, 3) := by decide +kernel
theorem dX2_rootIsRight_18 : decode cX2_rootIsRight 18 = .ok (.iload_n 2, 1) := by decide +kernel
theorem dX2_rootIsRight_19 : decode cX2_rootIsRight 19 = .ok (.bipush 40, 2) := by decide +kernel
theorem dX2_rootIsRight_21 : decode cX2_rootIsRight 21 = .ok (.if_icmp .le 5, 3) := by decide +kernel
theorem dX2_rootIsRight_24 : decode cX2_rootIsRight 24 = .ok (.iconst 0, 1) := by decide +kernel
theorem dX2_rootIsRight_25 : decode cX2_rootIsRight 25 = .ok (.ireturn, 1) := by decide +kernel
theorem dX2_rootIsRight_26 : decode cX2_rootIsRight 26 = .ok (.iconst 1, 1) := by decide +kernel
theorem dX2_rootIsRight_27 : decode cX2_rootIsRight 27 = .ok (.istore_n 3, 1) := by decide +kernel
theorem dX2_rootIsRight_28 : decode cX2_rootIsRight 28 = .ok (.iload_n 3, 1) := by decide +kernel
theorem dX2_rootIsRight_29 : decode cX2_rootIsRight 29 = .ok (.iload_n 2, 1) := by decide +kernel
theorem dX2_rootIsRight_30 : decode cX2_rootIsRight 30 = .ok (.if_icmp .gt 73, 3) := by decide +kernel
theorem dX2_rootIsRight_33 : decode cX2_rootIsRight 33 = .ok (.aload_n 0, 1) := by decide +kernel
theorem dX2_rootIsRight_34 : decode cX2_rootIsRight 34 = .ok (.getfield 7, 3) := by decide +kernel
theorem dX2_rootIsRight_37 : decode cX2_rootIsRight 37 = .ok (.bipush 64, 2) := by decide +kernel
theorem dX2_rootIsRight_39 : decode cX2_rootIsRight 39 = .ok (.iload_n 1, 1) := by decide +kernel
theorem dX2_rootIsRight_40 : decode cX2_rootIsRight 40 = .ok (.imul, 1) := by decide +kernel
theorem dX2_rootIsRight_41 : decode cX2_rootIsRight 41 = .ok (.iload_n 3, 1) := by decide +kernel
theorem dX2_rootIsRight_42 : decode cX2_rootIsRight 42 = .ok (.iadd, 1) := by decide +kernel
theorem dX2_rootIsRight_43 : decode cX2_rootIsRight 43 = .ok (.iaload, 1) := by decide +kernel
theorem dX2_rootIsRight_44 : decode cX2_rootIsRight 44 = .ok (.istore 4, 2) := by decide +kernel
theorem dX2_rootIsRight_46 : decode cX2_rootIsRight 46 = .ok (.iload 4, 2) := by decide +kernel
theorem dX2_rootIsRight_48 : decode cX2_rootIsRight 48 = .ok (.iconst 3, 1) := by decide +kernel
theorem dX2_rootIsRight_49 : decode cX2_rootIsRight 49 = .ok (.if_icmp .lt 12, 3) := by decide +kernel
theorem dX2_rootIsRight_52 : decode cX2_rootIsRight 52 = .ok (.iload 4, 2) := by decide +kernel
theorem dX2_rootIsRight_54 : decode cX2_rootIsRight 54 = .ok (.aload_n 0, 1) := by decide +kernel
theorem dX2_rootIsRight_55 : decode cX2_rootIsRight 55 = .ok (.getfield 25, 3) := by decide +kernel
theorem dX2_rootIsRight_58 : decode cX2_rootIsRight 58 = .ok (.if_icmp .lt 5, 3) := by decide +kernel
theorem dX2_rootIsRight_61 : decode cX2_rootIsRight 61 = .ok (.iconst 0, 1) := by decide +kernel
theorem dX2_rootIsRight_62 : decode cX2_rootIsRight 62 = .ok (.ireturn, 1) := by decide +kernel
theorem dX2_rootIsRight_63 : decode cX2_rootIsRight 63 = .ok (.iconst 1, 1) := by decide +kernel
theorem dX2_rootIsRight_64 : decode cX2_rootIsRight 64 = .ok (.istore 5, 2) := by decide +kernel
theorem dX2_rootIsRight_66 : decode cX2_rootIsRight 66 = .ok (.iload 5, 2) := by decide +kernel
theorem dX2_rootIsRight_68 : decode cX2_rootIsRight 68 = .ok (.iload_n 3, 1) := by decide +kernel
theorem dX2_rootIsRight_69 : decode cX2_rootIsRight 69 = .ok (.if_icmp .ge 28, 3) := by decide +kernel
theorem dX2_rootIsRight_72 : decode cX2_rootIsRight 72 = .ok (.aload_n 0, 1) := by decide +kernel
theorem dX2_rootIsRight_73 : decode cX2_rootIsRight 73 = .ok (.getfield 7, 3) := by decide +kernel
theorem dX2_rootIsRight_76 : decode cX2_rootIsRight 76 = .ok (.bipush 64, 2) := by decide +kernel
theorem dX2_rootIsRight_78 : decode cX2_rootIsRight 78 = .ok (.iload_n 1, 1) := by decide +kernel
theorem dX2_rootIsRight_79 : decode cX2_rootIsRight 79 = .ok (.imul, 1) := by decide +kernel
theorem dX2_rootIsRight_80 : decode cX2_rootIsRight 80 = .ok (.iload 5, 2) := by decide +kernel
theorem dX2_rootIsRight_82 : decode cX2_rootIsRight 82 = .ok (.iadd, 1) := by decide +kernel
theorem dX2_rootIsRight_83 : decode cX2_rootIsRight 83 = .ok (.iaload, 1) := by decide +kernel
theorem dX2_rootIsRight_84 : decode cX2_rootIsRight 84 = .ok (.iload 4, 2) := by decide +kernel
theorem dX2_rootIsRight_86 : decode cX2_rootIsRight 86 = .ok (.if_icmp .ne 5, 3) := by decide +kernel
theorem dX2_rootIsRight_89 : decode cX2_rootIsRight 89 = .ok (.iconst 0, 1) := by decide +kernel
theorem dX2_rootIsRight_90 : decode cX2_rootIsRight 90 = .ok (.ireturn, 1) := by decide +kernel
theorem dX2_rootIsRight_91 : decode cX2_rootIsRight 91 = .ok (.iinc 5 1, 3) := by decide +kernel
theorem dX2_rootIsRight_94 : decode cX2_rootIsRight 94 = .ok (.goto (-28), 3) := by decide +kernel
theorem dX2_rootIsRight_97 : decode cX2_rootIsRight 97 = .ok (.iinc 3 1, 3) := by decide +kernel
theorem dX2_rootIsRight_100 : decode cX2_rootIsRight 100 = .ok (.goto (-72), 3) := by decide +kernel
theorem dX2_rootIsRight_103 : decode cX2_rootIsRight 103 = .ok (.iconst 1, 1) := by decide +kernel
theorem dX2_rootIsRight_104 : decode cX2_rootIsRight 104 = .ok (.ireturn, 1) := by decide +kernel
set_option maxRecDepth 20000 in
theorem ggX2_entryIsRight_X2_isRight : GoodIn wsX2_entryIsRight wsX2_isRight := goodIn_r _ [6, 1, 7, 8, 9, 5, 10, 11, 12, 13, 14, 15, 16, 17, 18, 19, 20, 21, 22, 23] (by decide +kernel) (by decide +kernel)
set_option maxRecDepth 20000 in
theorem gX2_entryIsRight_X2_isRight : GoodIn wsX2_entryIsRight (wsV RX2 88 RX2 yX2_isRight wsX2_isRight) := goodIn_app (goodIn_of _ (by decide +kernel)) ggX2_entryIsRight_X2_isRight
theorem dX2_entryIsRight_0 : decode cX2_entryIsRight 0 = .ok (.aload_n 0, 1) := by decide +kernel
theorem dX2_entryIsRight_1 : decode cX2_entryIsRight 1 = .ok (.getfield 7, 3) := by decide +kernel
theorem dX2_entryIsRight_4 : decode cX2_entryIsRight 4 = .ok (.bipush 64, 2) := by decide +kernel
theorem dX2_entryIsRight_6 : decode cX2_entryIsRight 6 = .ok (.iload_n 1, 1) := by decide +kernel
theorem dX2_entryIsRight_7 : decode cX2_entryIsRight 7 = .ok (.imul, 1) := by decide +kernel
theorem dX2_entryIsRight_8 : decode cX2_entryIsRight 8 = .ok (.iconst 2, 1) := by decide +kernel
theorem dX2_entryIsRight_9 : decode cX2_entryIsRight 9 = .ok (.iadd, 1) := by decide +kernel
theorem dX2_entryIsRight_10 : decode cX2_entryIsRight 10 = .ok (.iaload, 1) := by decide +kernel
theorem dX2_entryIsRight_11 : decode cX2_entryIsRight 11 = .ok (.istore_n 2, 1) := by decide +kernel
theorem dX2_entryIsRight_12 : decode cX2_entryIsRight 12 = .ok (.aload_n 0, 1) := by decide +kernel
theorem dX2_entryIsRight_13 : decode cX2_entryIsRight 13 = .ok (.iload_n 1, 1) := by decide +kernel
theorem dX2_entryIsRight_14 : decode cX2_entryIsRight 14 = .ok (.invokevirtual 88, 3) := by decide +kernel
theorem dX2_entryIsRight_17 : decode cX2_entryIsRight 17 = .ok (.ifCond .eq 18, 3) := by decide +kernel
theorem dX2_entryIsRight_20 : decode cX2_entryIsRight 20 = .ok (.iload_n 2, 1) := by decide +kernel
theorem dX2_entryIsRight_21 : decode cX2_entryIsRight 21 = .ok (.iconst 1, 1) := by decide +kernel
theorem dX2_entryIsRight_22 : decode cX2_entryIsRight 22 = .ok (.if_icmp .lt 13, 3) := by decide +kernel
theorem dX2_entryIsRight_25 : decode cX2_entryIsRight 25 = .ok (.iload_n 2, 1) := by decide +kernel
theorem dX2_entryIsRight_26 : decode cX2_entryIsRight 26 = .ok (.bipush 48, 2) := by decide +kernel
theorem dX2_entryIsRight_28 : decode cX2_entryIsRight 28 = .ok (.if_icmp .gt 7, 3) := by decide +kernel
theorem dX2_entryIsRight_31 : decode cX2_entryIsRight 31 = .ok (.iconst 1, 1) := by decide +kernel
theorem dX2_entryIsRight_32 : decode cX2_entryIsRight 32 = .ok (.goto 4, 3) := by decide +kernel
theorem dX2_entryIsRight_35 : decode cX2_entryIsRight 35 = .ok (.iconst 0, 1) := by decide +kernel
theorem dX2_entryIsRight_36 : decode cX2_entryIsRight 36 = .ok (.ireturn, 1) := by decide +kernel
set_option maxRecDepth 20000 in
theorem ggX2_reopen_X2_rootIsRight : GoodIn wsX2_reopen wsX2_rootIsRight := goodIn_r _ [12, 4, 13, 14, 15, 16, 11, 17, 18, 19, 20, 21, 22, 27, 28, 29, 30, 31, 32, 33, 34, 35, 36, 37, 38] (by decide +kernel) (by decide +kernel)
set_option maxRecDepth 20000 in
theorem gX2_reopen_X2_rootIsRight : GoodIn wsX2_reopen (wsV RX2 91 RX2 yX2_rootIsRight wsX2_rootIsRight) := goodIn_app (goodIn_of _ (by decide +kernel)) ggX2_reopen_X2_rootIsRight
set_option maxRecDepth 20000 in
theorem ggX2_reopen_X2_entryIsRight : GoodIn wsX2_reopen wsX2_entryIsRight := goodIn_r _ [26, 4, 14, 15, 16, 11, 17, 18, 19, 20, 21, 22, 27, 28, 29, 30, 31, 32, 33, 34, 35, 36, 37, 38] (by decide +kernel) (by decide +kernel)
set_option maxRecDepth 20000 in
theorem gX2_reopen_X2_entryIsRight : GoodIn wsX2_reopen (wsV RX2 94 RX2 yX2_entryIsRight wsX2_entryIsRight) := goodIn_app (goodIn_of _ (by decide +kernel)) ggX2_reopen_X2_entryIsRight
theorem dX2_reopen_0 : decode cX2_reopen 0 = .ok (.aload_n 0, 1) := by decide +kernel
theorem dX2_reopen_1 : decode cX2_reopen 1 = .ok (.iconst 0, 1) := by decide +kernel
theorem dX2_reopen_2 : decode cX2_reopen 2 = .ok (.putfield 46, 3) := by decide +kernel
theorem dX2_reopen_5 : decode cX2_reopen 5 = .ok (.aload_n 0, 1) := by decide +kernel
theorem dX2_reopen_6 : decode cX2_reopen 6 = .ok (.iconst 0, 1) := by decide +kernel
theorem dX2_reopen_7 : decode cX2_reopen 7 = .ok (.putfield 32, 3) := by decide +kernel
theorem dX2_reopen_10 : decode cX2_reopen 10 = .ok (.aload_n 0, 1) := by decide +kernel
theorem dX2_reopen_11 : decode cX2_reopen 11 = .ok (.iconst 0, 1) := by decide +kernel
theorem dX2_reopen_12 : decode cX2_reopen 12 = .ok (.putfield 43, 3) := by decide +kernel
theorem dX2_reopen_15 : decode cX2_reopen 15 = .ok (.aload_n 0, 1) := by decide +kernel
theorem dX2_reopen_16 : decode cX2_reopen 16 = .ok (.getfield 7, 3) := by decide +kernel
theorem dX2_reopen_19 : decode cX2_reopen 19 = .ok (.iconst 0, 1) := by decide +kernel
theorem dX2_reopen_20 : decode cX2_reopen 20 = .ok (.iaload, 1) := by decide +kernel
theorem dX2_reopen_21 : decode cX2_reopen 21 = .ok (.istore_n 1, 1) := by decide +kernel
theorem dX2_reopen_22 : decode cX2_reopen 22 = .ok (.iload_n 1, 1) := by decide +kernel
theorem dX2_reopen_23 : decode cX2_reopen 23 = .ok (.iconst 1, 1) := by decide +kernel
theorem dX2_reopen_24 : decode cX2_reopen 24 = .ok (.if_icmp .eq 10, 3) := by decide +kernel
theorem dX2_reopen_27 : decode cX2_reopen 27 = .ok (.iload_n 1, 1) := by decide +kernel
theorem dX2_reopen_28 : decode cX2_reopen 28 = .ok (.iconst 2, 1) := by decide +kernel
theorem dX2_reopen_29 : decode cX2_reopen 29 = .ok (.if_icmp .eq 5, 3) := by decide +kernel
theorem dX2_reopen_32 : decode cX2_reopen 32 = .ok (.iconst (-1), 1) := by decide +kernel
theorem dX2_reopen_33 : decode cX2_reopen 33 = .ok (.ireturn, 1) := by decide +kernel
theorem dX2_reopen_34 : decode cX2_reopen 34 = .ok (.aload_n 0, 1) := by decide +kernel
theorem dX2_reopen_35 : decode cX2_reopen 35 = .ok (.iload_n 1, 1) := by decide +kernel
theorem dX2_reopen_36 : decode cX2_reopen 36 = .ok (.invokevirtual 91, 3) := by decide +kernel
theorem dX2_reopen_39 : decode cX2_reopen 39 = .ok (.ifCond .ne 7, 3) := by decide +kernel
theorem dX2_reopen_42 : decode cX2_reopen 42 = .ok (.iconst (-1), 1) := by decide +kernel
theorem dX2_reopen_43 : decode cX2_reopen 43 = .ok (.iload_n 1, 1) := by decide +kernel
theorem dX2_reopen_44 : decode cX2_reopen 44 = .ok (.isub, 1) := by decide +kernel
theorem dX2_reopen_45 : decode cX2_reopen 45 = .ok (.ireturn, 1) := by decide +kernel
theorem dX2_reopen_46 : decode cX2_reopen 46 = .ok (.aload_n 0, 1) := by decide +kernel
theorem dX2_reopen_47 : decode cX2_reopen 47 = .ok (.getfield 7, 3) := by decide +kernel
theorem dX2_reopen_50 : decode cX2_reopen 50 = .ok (.bipush 64, 2) := by decide +kernel
theorem dX2_reopen_52 : decode cX2_reopen 52 = .ok (.iload_n 1, 1) := by decide +kernel
theorem dX2_reopen_53 : decode cX2_reopen 53 = .ok (.imul, 1) := by decide +kernel
theorem dX2_reopen_54 : decode cX2_reopen 54 = .ok (.iaload, 1) := by decide +kernel
theorem dX2_reopen_55 : decode cX2_reopen 55 = .ok (.istore_n 2, 1) := by decide +kernel
theorem dX2_reopen_56 : decode cX2_reopen 56 = .ok (.sipush 1000, 3) := by decide +kernel
theorem dX2_reopen_59 : decode cX2_reopen 59 = .ok (.istore_n 3, 1) := by decide +kernel
theorem dX2_reopen_60 : decode cX2_reopen 60 = .ok (.iconst 0, 1) := by decide +kernel
theorem dX2_reopen_61 : decode cX2_reopen 61 = .ok (.istore 4, 2) := by decide +kernel
theorem dX2_reopen_63 : decode cX2_reopen 63 = .ok (.iload 4, 2) := by decide +kernel
theorem dX2_reopen_65 : decode cX2_reopen 65 = .ok (.iload_n 2, 1) := by decide +kernel
theorem dX2_reopen_66 : decode cX2_reopen 66 = .ok (.if_icmp .ge 43, 3) := by decide +kernel
theorem dX2_reopen_69 : decode cX2_reopen 69 = .ok (.aload_n 0, 1) := by decide +kernel
theorem dX2_reopen_70 : decode cX2_reopen 70 = .ok (.getfield 7, 3) := by decide +kernel
theorem dX2_reopen_73 : decode cX2_reopen 73 = .ok (.bipush 64, 2) := by decide +kernel
theorem dX2_reopen_75 : decode cX2_reopen 75 = .ok (.iload_n 1, 1) := by decide +kernel
theorem dX2_reopen_76 : decode cX2_reopen 76 = .ok (.imul, 1) := by decide +kernel
theorem dX2_reopen_77 : decode cX2_reopen 77 = .ok (.iconst 1, 1) := by decide +kernel
theorem dX2_reopen_78 : decode cX2_reopen 78 = .ok (.iadd, 1) := by decide +kernel
theorem dX2_reopen_79 : decode cX2_reopen 79 = .ok (.iload 4, 2) := by decide +kernel
theorem dX2_reopen_81 : decode cX2_reopen 81 = .ok (.iadd, 1) := by decide +kernel
theorem dX2_reopen_82 : decode cX2_reopen 82 = .ok (.iaload, 1) := by decide +kernel
theorem dX2_reopen_83 : decode cX2_reopen 83 = .ok (.istore 5, 2) := by decide +kernel
theorem dX2_reopen_85 : decode cX2_reopen 85 = .ok (.aload_n 0, 1) := by decide +kernel
theorem dX2_reopen_86 : decode cX2_reopen 86 = .ok (.iload 5, 2) := by decide +kernel
theorem dX2_reopen_88 : decode cX2_reopen 88 = .ok (.invokevirtual 94, 3) := by decide +kernel
theorem dX2_reopen_91 : decode cX2_reopen 91 = .ok (.ifCond .ne 12, 3) := by decide +kernel
theorem dX2_reopen_94 : decode cX2_reopen 94 = .ok (.iload 5, 2) := by decide +kernel
theorem dX2_reopen_96 : decode cX2_reopen 96 = .ok (.iload_n 3, 1) := by decide +kernel
theorem dX2_reopen_97 : decode cX2_reopen 97 = .ok (.if_icmp .ge 6, 3) := by decide +kernel
theorem dX2_reopen_100 : decode cX2_reopen 100 = .ok (.iload 5, 2) := by decide +kernel
theorem dX2_reopen_102 : decode cX2_reopen 102 = .ok (.istore_n 3, 1) := by decide +kernel
theorem dX2_reopen_103 : decode cX2_reopen 103 = .ok (.iinc 4 1, 3) := by decide +kernel
theorem dX2_reopen_106 : decode cX2_reopen 106 = .ok (.goto (-43), 3) := by decide +kernel
theorem dX2_reopen_109 : decode cX2_reopen 109 = .ok (.iload_n 3, 1) := by decide +kernel
theorem dX2_reopen_110 : decode cX2_reopen 110 = .ok (.sipush 1000, 3) := by decide +kernel
theorem dX2_reopen_113 : decode cX2_reopen 113 = .ok (.if_icmp .ge 7, 3) := by decide +kernel
theorem dX2_reopen_116 : decode cX2_reopen 116 = .ok (.iconst (-1), 1) := by decide +kernel
theorem dX2_reopen_117 : decode cX2_reopen 117 = .ok (.iload_n 3, 1) := by decide +kernel
theorem dX2_reopen_118 : decode cX2_reopen 118 = .ok (.isub, 1) := by decide +kernel
theorem dX2_reopen_119 : decode cX2_reopen 119 = .ok (.ireturn, 1) := by decide +kernel
theorem dX2_reopen_120 : decode cX2_reopen 120 = .ok (.aload_n 0, 1) := by decide +kernel
theorem dX2_reopen_121 : decode cX2_reopen 121 = .ok (.iload_n 1, 1) := by decide +kernel
theorem dX2_reopen_122 : decode cX2_reopen 122 = .ok (.putfield 29, 3) := by decide +kernel
theorem dX2_reopen_125 : decode cX2_reopen 125 = .ok (.aload_n 0, 1) := by decide +kernel
theorem dX2_reopen_126 : decode cX2_reopen 126 = .ok (.iload_n 2, 1) := by decide +kernel
theorem dX2_reopen_127 : decode cX2_reopen 127 = .ok (.putfield 54, 3) := by decide +kernel
theorem dX2_reopen_130 : decode cX2_reopen 130 = .ok (.iconst 0, 1) := by decide +kernel
theorem dX2_reopen_131 : decode cX2_reopen 131 = .ok (.istore 4, 2) := by decide +kernel
theorem dX2_reopen_133 : decode cX2_reopen 133 = .ok (.iload 4, 2) := by decide +kernel
theorem dX2_reopen_135 : decode cX2_reopen 135 = .ok (.iload_n 2, 1) := by decide +kernel
theorem dX2_reopen_136 : decode cX2_reopen 136 = .ok (.if_icmp .ge 30, 3) := by decide +kernel
theorem dX2_reopen_139 : decode cX2_reopen 139 = .ok (.aload_n 0, 1) := by decide +kernel
theorem dX2_reopen_140 : decode cX2_reopen 140 = .ok (.getfield 13, 3) := by decide +kernel
theorem dX2_reopen_143 : decode cX2_reopen 143 = .ok (.iload 4, 2) := by decide +kernel
theorem dX2_reopen_145 : decode cX2_reopen 145 = .ok (.aload_n 0, 1) := by decide +kernel
theorem dX2_reopen_146 : decode cX2_reopen 146 = .ok (.getfield 7, 3) := by decide +kernel
theorem dX2_reopen_149 : decode cX2_reopen 149 = .ok (.bipush 64, 2) := by decide +kernel
theorem dX2_reopen_151 : decode cX2_reopen 151 = .ok (.iload_n 1, 1) := by decide +kernel
theorem dX2_reopen_152 : decode cX2_reopen 152 = .ok (.imul, 1) := by decide +kernel
theorem dX2_reopen_153 : decode cX2_reopen 153 = .ok (.iconst 1, 1) := by decide +kernel
theorem dX2_reopen_154 : decode cX2_reopen 154 = .ok (.iadd, 1) := by decide +kernel
theorem dX2_reopen_155 : decode cX2_reopen 155 = .ok (.iload 4, 2) := by decide +kernel
theorem dX2_reopen_157 : decode cX2_reopen 157 = .ok (.iadd, 1) := by decide +kernel
theorem dX2_reopen_158 : decode cX2_reopen 158 = .ok (.iaload, 1) := by decide +kernel
theorem dX2_reopen_159 : decode cX2_reopen 159 = .ok (.iastore, 1) := by decide +kernel
theorem dX2_reopen_160 : decode cX2_reopen 160 = .ok (.iinc 4 1, 3) := by decide +kernel
theorem dX2_reopen_163 : decode cX2_reopen 163 = .ok (.goto (-30), 3) := by decide +kernel
theorem dX2_reopen_166 : decode cX2_reopen 166 = .ok (.aload_n 0, 1) := by decide +kernel
theorem dX2_reopen_167 : decode cX2_reopen 167 = .ok (.iconst 1, 1) := by decide +kernel
theorem dX2_reopen_168 : decode cX2_reopen 168 = .ok (.putfield 32, 3) := by decide +kernel
theorem dX2_reopen_171 : decode cX2_reopen 171 = .ok (.iload_n 2, 1) := by decide +kernel
theorem dX2_reopen_172 : decode cX2_reopen 172 = .ok (.ireturn, 1) := by decide +kernel
theorem dX2_isByte_0 : decode cX2_isByte 0 = .ok (.iload_n 1, 1) := by decide +kernel
theorem dX2_isByte_1 : decode cX2_isByte 1 = .ok (.ifCond .lt 25, 3) := by decide +kernel
theorem dX2_isByte_4 : decode cX2_isByte 4 = .ok (.iload_n 1, 1) := by decide +kernel
theorem dX2_isByte_5 : decode cX2_isByte 5 = .ok (.aload_n 0, 1) := by decide +kernel
theorem dX2_isByte_6 : decode cX2_isByte 6 = .ok (.getfield 25, 3) := by decide +kernel
theorem dX2_isByte_9 : decode cX2_isByte 9 = .ok (.if_icmp .ge 17, 3) := by decide +kernel
theorem dX2_isByte_12 : decode cX2_isByte 12 = .ok (.iload_n 2, 1) := by decide +kernel
theorem dX2_isByte_13 : decode cX2_isByte 13 = .ok (.ifCond .lt 13, 3) := by decide +kernel
theorem dX2_isByte_16 : decode cX2_isByte 16 = .ok (.iload_n 2, 1) := by decide +kernel
theorem dX2_isByte_17 : decode cX2_isByte 17 = .ok (.bipush 64, 2) := by decide +kernel
theorem dX2_isByte_19 : decode cX2_isByte 19 = .ok (.if_icmp .ge 7, 3) := by decide +kernel
theorem dX2_isByte_22 : decode cX2_isByte 22 = .ok (.iconst 1, 1) := by decide +kernel
theorem dX2_isByte_23 : decode cX2_isByte 23 = .ok (.goto 4, 3) := by decide +kernel
theorem dX2_isByte_26 : decode cX2_isByte 26 = .ok (.iconst 0, 1) := by decide +kernel
theorem dX2_isByte_27 : decode cX2_isByte 27 = .ok (.ireturn, 1) := by decide +kernel
set_option maxRecDepth 20000 in
theorem ggX2_poke_X2_isByte : GoodIn wsX2_poke wsX2_isByte := goodIn_r _ [7, 8, 9, 10, 11, 12, 13, 14, 15, 16, 17, 18, 19, 20] (by decide +kernel) (by decide +kernel)
set_option maxRecDepth 20000 in
theorem gX2_poke_X2_isByte : GoodIn wsX2_poke (wsV RX2 97 RX2 yX2_isByte wsX2_isByte) := goodIn_app (goodIn_of _ (by decide +kernel)) ggX2_poke_X2_isByte
theorem dX2_poke_0 : decode cX2_poke 0 = .ok (.aload_n 0, 1) := by decide +kernel
theorem dX2_poke_1 : decode cX2_poke 1 = .ok (.iconst 0, 1) := by decide +kernel
theorem dX2_poke_2 : decode cX2_poke 2 = .ok (.putfield 46, 3) := by decide +kernel
theorem dX2_poke_5 : decode cX2_poke 5 = .ok (.aload_n 0, 1) := by decide +kernel
theorem dX2_poke_6 : decode cX2_poke 6 = .ok (.iload_n 1, 1) := by decide +kernel
theorem dX2_poke_7 : decode cX2_poke 7 = .ok (.iload_n 2, 1) := by decide +kernel
theorem dX2_poke_8 : decode cX2_poke 8 = .ok (.invokevirtual 97, 3) := by decide +kernel
theorem dX2_poke_11 : decode cX2_poke 11 = .ok (.ifCond .eq 15, 3) := by decide +kernel
theorem dX2_poke_14 : decode cX2_poke 14 = .ok (.iload_n 3, 1) := by decide +kernel
theorem dX2_poke_15 : decode cX2_poke 15 = .ok (.iconst 1, 1) := by decide +kernel
theorem dX2_poke_16 : decode cX2_poke 16 = .ok (.if_icmp .lt 10, 3) := by decide +kernel
theorem dX2_poke_19 : decode cX2_poke 19 = .ok (.iload_n 3, 1) := by decide +kernel
theorem dX2_poke_20 : decode cX2_poke 20 = .ok (.sipush 255, 3) := by decide +kernel
theorem dX2_poke_23 : decode cX2_poke 23 = .ok (.if_icmp .le 5, 3) := by decide +kernel
theorem dX2_poke_26 : decode cX2_poke 26 = .ok (.iconst 0, 1) := by decide +kernel
theorem dX2_poke_27 : decode cX2_poke 27 = .ok (.ireturn, 1) := by decide +kernel
theorem dX2_poke_28 : decode cX2_poke 28 = .ok (.aload_n 0, 1) := by decide +kernel
theorem dX2_poke_29 : decode cX2_poke 29 = .ok (.getfield 7, 3) := by decide +kernel
theorem dX2_poke_32 : decode cX2_poke 32 = .ok (.bipush 64, 2) := by decide +kernel
theorem dX2_poke_34 : decode cX2_poke 34 = .ok (.iload_n 1, 1) := by decide +kernel
theorem dX2_poke_35 : decode cX2_poke 35 = .ok (.imul, 1) := by decide +kernel
theorem dX2_poke_36 : decode cX2_poke 36 = .ok (.iload_n 2, 1) := by decide +kernel
theorem dX2_poke_37 : decode cX2_poke 37 = .ok (.iadd, 1) := by decide +kernel
theorem dX2_poke_38 : decode cX2_poke 38 = .ok (.dup2, 1) := by decide +kernel
theorem dX2_poke_39 : decode cX2_poke 39 = .ok (.iaload, 1) := by decide +kernel
theorem dX2_poke_40 : decode cX2_poke 40 = .ok (.iload_n 3, 1) := by decide +kernel
theorem dX2_poke_41 : decode cX2_poke 41 = .ok (.ixor, 1) := by decide +kernel
theorem dX2_poke_42 : decode cX2_poke 42 = .ok (.iastore, 1) := by decide +kernel
theorem dX2_poke_43 : decode cX2_poke 43 = .ok (.iconst 1, 1) := by decide +kernel
theorem dX2_poke_44 : decode cX2_poke 44 = .ok (.ireturn, 1) := by decide +kernel
set_option maxRecDepth 20000 in
theorem ggX2_badAt_X2_isRight : GoodIn wsX2_badAt wsX2_isRight := goodIn_r _ [9, 10, 11, 12, 13, 8, 14, 15, 22, 23, 24, 25, 26, 27, 28, 29, 30, 31, 32, 33] (by decide +kernel) (by decide +kernel)
set_option maxRecDepth 20000 in
theorem gX2_badAt_X2_isRight : GoodIn wsX2_badAt (wsV RX2 88 RX2 yX2_isRight wsX2_isRight) := goodIn_app (goodIn_of _ (by decide +kernel)) ggX2_badAt_X2_isRight
set_option maxRecDepth 20000 in
theorem ggX2_badAt_X2_isUsed : GoodIn wsX2_badAt wsX2_isUsed := goodIn_r _ [19, 20, 21, 22, 23, 24, 25, 26, 27, 28, 29, 30, 31, 32, 33] (by decide +kernel) (by decide +kernel)
set_option maxRecDepth 20000 in
theorem gX2_badAt_X2_isUsed : GoodIn wsX2_badAt (wsV RX2 64 RX2 yX2_isUsed wsX2_isUsed) := goodIn_app (goodIn_of _ (by decide +kernel)) ggX2_badAt_X2_isUsed
theorem dX2_badAt_0 : decode cX2_badAt 0 = .ok (.aload_n 0, 1) := by decide +kernel
theorem dX2_badAt_1 : decode cX2_badAt 1 = .ok (.iconst 0, 1) := by decide +kernel
theorem dX2_badAt_2 : decode cX2_badAt 2 = .ok (.putfield 46, 3) := by decide +kernel
theorem dX2_badAt_5 : decode cX2_badAt 5 = .ok (.aload_n 0, 1) := by decide +kernel
theorem dX2_badAt_6 : decode cX2_badAt 6 = .ok (.getfield 32, 3) := by decide +kernel
theorem dX2_badAt_9 : decode cX2_badAt 9 = .ok (.ifCond .ne 5, 3) := by decide +kernel
theorem dX2_badAt_12 : decode cX2_badAt 12 = .ok (.iconst (-1), 1) := by decide +kernel
theorem dX2_badAt_13 : decode cX2_badAt 13 = .ok (.ireturn, 1) := by decide +kernel
theorem dX2_badAt_14 : decode cX2_badAt 14 = .ok (.aload_n 0, 1) := by decide +kernel
theorem dX2_badAt_15 : decode cX2_badAt 15 = .ok (.aload_n 0, 1) := by decide +kernel
theorem dX2_badAt_16 : decode cX2_badAt 16 = .ok (.getfield 29, 3) := by decide +kernel
theorem dX2_badAt_19 : decode cX2_badAt 19 = .ok (.invokevirtual 88, 3) := by decide +kernel
theorem dX2_badAt_22 : decode cX2_badAt 22 = .ok (.ifCond .ne 8, 3) := by decide +kernel
theorem dX2_badAt_25 : decode cX2_badAt 25 = .ok (.aload_n 0, 1) := by decide +kernel
theorem dX2_badAt_26 : decode cX2_badAt 26 = .ok (.getfield 29, 3) := by decide +kernel
theorem dX2_badAt_29 : decode cX2_badAt 29 = .ok (.ireturn, 1) := by decide +kernel
theorem dX2_badAt_30 : decode cX2_badAt 30 = .ok (.iconst 3, 1) := by decide +kernel
theorem dX2_badAt_31 : decode cX2_badAt 31 = .ok (.istore_n 1, 1) := by decide +kernel
theorem dX2_badAt_32 : decode cX2_badAt 32 = .ok (.iload_n 1, 1) := by decide +kernel
theorem dX2_badAt_33 : decode cX2_badAt 33 = .ok (.aload_n 0, 1) := by decide +kernel
theorem dX2_badAt_34 : decode cX2_badAt 34 = .ok (.getfield 25, 3) := by decide +kernel
theorem dX2_badAt_37 : decode cX2_badAt 37 = .ok (.if_icmp .ge 27, 3) := by decide +kernel
theorem dX2_badAt_40 : decode cX2_badAt 40 = .ok (.aload_n 0, 1) := by decide +kernel
theorem dX2_badAt_41 : decode cX2_badAt 41 = .ok (.iload_n 1, 1) := by decide +kernel
theorem dX2_badAt_42 : decode cX2_badAt 42 = .ok (.invokevirtual 64, 3) := by decide +kernel
theorem dX2_badAt_45 : decode cX2_badAt 45 = .ok (.ifCond .eq 13, 3) := by decide +kernel
theorem dX2_badAt_48 : decode cX2_badAt 48 = .ok (.aload_n 0, 1) := by decide +kernel
theorem dX2_badAt_49 : decode cX2_badAt 49 = .ok (.iload_n 1, 1) := by decide +kernel
theorem dX2_badAt_50 : decode cX2_badAt 50 = .ok (.invokevirtual 88, 3) := by decide +kernel
theorem dX2_badAt_53 : decode cX2_badAt 53 = .ok (.ifCond .ne 5, 3) := by decide +kernel
theorem dX2_badAt_56 : decode cX2_badAt 56 = .ok (.iload_n 1, 1) := by decide +kernel
theorem dX2_badAt_57 : decode cX2_badAt 57 = .ok (.ireturn, 1) := by decide +kernel
theorem dX2_badAt_58 : decode cX2_badAt 58 = .ok (.iinc 1 1, 3) := by decide +kernel
theorem dX2_badAt_61 : decode cX2_badAt 61 = .ok (.goto (-29), 3) := by decide +kernel
theorem dX2_badAt_64 : decode cX2_badAt 64 = .ok (.iconst (-1), 1) := by decide +kernel
theorem dX2_badAt_65 : decode cX2_badAt 65 = .ok (.ireturn, 1) := by decide +kernel
set_option maxRecDepth 20000 in
theorem ggX2_byteAt_X2_isByte : GoodIn wsX2_byteAt wsX2_isByte := goodIn_r _ [7, 8, 9, 10, 11, 12, 13, 14, 15, 16, 17, 18, 19, 20] (by decide +kernel) (by decide +kernel)
set_option maxRecDepth 20000 in
theorem gX2_byteAt_X2_isByte : GoodIn wsX2_byteAt (wsV RX2 97 RX2 yX2_isByte wsX2_isByte) := goodIn_app (goodIn_of _ (by decide +kernel)) ggX2_byteAt_X2_isByte
theorem dX2_byteAt_0 : decode cX2_byteAt 0 = .ok (.aload_n 0, 1) := by decide +kernel
theorem dX2_byteAt_1 : decode cX2_byteAt 1 = .ok (.aload_n 0, 1) := by decide +kernel
theorem dX2_byteAt_2 : decode cX2_byteAt 2 = .ok (.iload_n 1, 1) := by decide +kernel
theorem dX2_byteAt_3 : decode cX2_byteAt 3 = .ok (.iload_n 2, 1) := by decide +kernel
theorem dX2_byteAt_4 : decode cX2_byteAt 4 = .ok (.invokevirtual 97, 3) := by decide +kernel
theorem dX2_byteAt_7 : decode cX2_byteAt 7 = .ok (.ifCond .eq 7, 3) := by decide +kernel
theorem dX2_byteAt_10 : decode cX2_byteAt 10 = .ok (.iconst 0, 1) := by decide +kernel
theorem dX2_byteAt_11 : decode cX2_byteAt 11 = .ok (.goto 4, 3) := by decide +kernel
theorem dX2_byteAt_14 : decode cX2_byteAt 14 = .ok (.iconst 1, 1) := by decide +kernel
theorem dX2_byteAt_15 : decode cX2_byteAt 15 = .ok (.putfield 46, 3) := by decide +kernel
theorem dX2_byteAt_18 : decode cX2_byteAt 18 = .ok (.aload_n 0, 1) := by decide +kernel
theorem dX2_byteAt_19 : decode cX2_byteAt 19 = .ok (.getfield 46, 3) := by decide +kernel
theorem dX2_byteAt_22 : decode cX2_byteAt 22 = .ok (.ifCond .eq 7, 3) := by decide +kernel
theorem dX2_byteAt_25 : decode cX2_byteAt 25 = .ok (.iconst 0, 1) := by decide +kernel
theorem dX2_byteAt_26 : decode cX2_byteAt 26 = .ok (.goto 14, 3) := by decide +kernel
theorem dX2_byteAt_29 : decode cX2_byteAt 29 = .ok (.aload_n 0, 1) := by decide +kernel
theorem dX2_byteAt_30 : decode cX2_byteAt 30 = .ok (.getfield 7, 3) := by decide +kernel
theorem dX2_byteAt_33 : decode cX2_byteAt 33 = .ok (.bipush 64, 2) := by decide +kernel
theorem dX2_byteAt_35 : decode cX2_byteAt 35 = .ok (.iload_n 1, 1) := by decide +kernel
theorem dX2_byteAt_36 : decode cX2_byteAt 36 = .ok (.imul, 1) := by decide +kernel
theorem dX2_byteAt_37 : decode cX2_byteAt 37 = .ok (.iload_n 2, 1) := by decide +kernel
theorem dX2_byteAt_38 : decode cX2_byteAt 38 = .ok (.iadd, 1) := by decide +kernel
theorem dX2_byteAt_39 : decode cX2_byteAt 39 = .ok (.iaload, 1) := by decide +kernel
theorem dX2_byteAt_40 : decode cX2_byteAt 40 = .ok (.ireturn, 1) := by decide +kernel
theorem dX2_free_0 : decode cX2_free 0 = .ok (.aload_n 0, 1) := by decide +kernel
theorem dX2_free_1 : decode cX2_free 1 = .ok (.iconst 0, 1) := by decide +kernel
theorem dX2_free_2 : decode cX2_free 2 = .ok (.putfield 46, 3) := by decide +kernel
theorem dX2_free_5 : decode cX2_free 5 = .ok (.aload_n 0, 1) := by decide +kernel
theorem dX2_free_6 : decode cX2_free 6 = .ok (.getfield 32, 3) := by decide +kernel
theorem dX2_free_9 : decode cX2_free 9 = .ok (.ifCond .eq 17, 3) := by decide +kernel
theorem dX2_free_12 : decode cX2_free 12 = .ok (.aload_n 0, 1) := by decide +kernel
theorem dX2_free_13 : decode cX2_free 13 = .ok (.getfield 25, 3) := by decide +kernel
theorem dX2_free_16 : decode cX2_free 16 = .ok (.iconst 3, 1) := by decide +kernel
theorem dX2_free_17 : decode cX2_free 17 = .ok (.isub, 1) := by decide +kernel
theorem dX2_free_18 : decode cX2_free 18 = .ok (.aload_n 0, 1) := by decide +kernel
theorem dX2_free_19 : decode cX2_free 19 = .ok (.getfield 54, 3) := by decide +kernel
theorem dX2_free_22 : decode cX2_free 22 = .ok (.isub, 1) := by decide +kernel
theorem dX2_free_23 : decode cX2_free 23 = .ok (.goto 4, 3) := by decide +kernel
theorem dX2_free_26 : decode cX2_free 26 = .ok (.iconst (-1), 1) := by decide +kernel
theorem dX2_free_27 : decode cX2_free 27 = .ok (.ireturn, 1) := by decide +kernel
theorem dX2_root_0 : decode cX2_root 0 = .ok (.aload_n 0, 1) := by decide +kernel
theorem dX2_root_1 : decode cX2_root 1 = .ok (.iconst 0, 1) := by decide +kernel
theorem dX2_root_2 : decode cX2_root 2 = .ok (.putfield 46, 3) := by decide +kernel
theorem dX2_root_5 : decode cX2_root 5 = .ok (.aload_n 0, 1) := by decide +kernel
theorem dX2_root_6 : decode cX2_root 6 = .ok (.getfield 32, 3) := by decide +kernel
theorem dX2_root_9 : decode cX2_root 9 = .ok (.ifCond .eq 10, 3) := by decide +kernel
theorem dX2_root_12 : decode cX2_root 12 = .ok (.aload_n 0, 1) := by decide +kernel
theorem dX2_root_13 : decode cX2_root 13 = .ok (.getfield 29, 3) := by decide +kernel
theorem dX2_root_16 : decode cX2_root 16 = .ok (.goto 4, 3) := by decide +kernel
theorem dX2_root_19 : decode cX2_root 19 = .ok (.iconst (-1), 1) := by decide +kernel
theorem dX2_root_20 : decode cX2_root 20 = .ok (.ireturn, 1) := by decide +kernel
theorem dJx00060_init_a7421_0 : decode cJx00060_init_a7421 0 = .ok (.aload_n 0, 1) := by decide +kernel
theorem dJx00060_init_a7421_1 : decode cJx00060_init_a7421 1 = .ok (.aload_n 1, 1) := by decide +kernel
theorem dJx00060_init_a7421_2 : decode cJx00060_init_a7421 2 = .ok (.invokespecial 7, 3) := by decide +kernel
theorem dJx00060_init_a7421_5 : decode cJx00060_init_a7421 5 = .ok (.return_, 1) := by decide +kernel
theorem dJ9_max_7cf53_0 : decode cJ9_max_7cf53 0 = .ok (.iload_n 0, 1) := by decide +kernel
theorem dJ9_max_7cf53_1 : decode cJ9_max_7cf53 1 = .ok (.iload_n 1, 1) := by decide +kernel
theorem dJ9_max_7cf53_2 : decode cJ9_max_7cf53 2 = .ok (.if_icmp .lt 7, 3) := by decide +kernel
theorem dJ9_max_7cf53_5 : decode cJ9_max_7cf53 5 = .ok (.iload_n 0, 1) := by decide +kernel
theorem dJ9_max_7cf53_6 : decode cJ9_max_7cf53 6 = .ok (.goto 4, 3) := by decide +kernel
theorem dJ9_max_7cf53_9 : decode cJ9_max_7cf53 9 = .ok (.iload_n 1, 1) := by decide +kernel
theorem dJ9_max_7cf53_10 : decode cJ9_max_7cf53 10 = .ok (.ireturn, 1) := by decide +kernel
theorem dJ9_min_7cf53_0 : decode cJ9_min_7cf53 0 = .ok (.iload_n 0, 1) := by decide +kernel
theorem dJ9_min_7cf53_1 : decode cJ9_min_7cf53 1 = .ok (.iload_n 1, 1) := by decide +kernel
theorem dJ9_min_7cf53_2 : decode cJ9_min_7cf53 2 = .ok (.if_icmp .gt 7, 3) := by decide +kernel
theorem dJ9_min_7cf53_5 : decode cJ9_min_7cf53 5 = .ok (.iload_n 0, 1) := by decide +kernel
theorem dJ9_min_7cf53_6 : decode cJ9_min_7cf53 6 = .ok (.goto 4, 3) := by decide +kernel
theorem dJ9_min_7cf53_9 : decode cJ9_min_7cf53 9 = .ok (.iload_n 1, 1) := by decide +kernel
theorem dJ9_min_7cf53_10 : decode cJ9_min_7cf53 10 = .ok (.ireturn, 1) := by decide +kernel
theorem dL_cell_0 : decode cL_cell 0 = .ok (.iload_n 1, 1) := by decide +kernel
theorem dL_cell_1 : decode cL_cell 1 = .ok (.aload_n 0, 1) := by decide +kernel
theorem dL_cell_2 : decode cL_cell 2 = .ok (.arraylength, 1) := by decide +kernel
theorem dL_cell_3 : decode cL_cell 3 = .ok (.if_icmp .ge 9, 3) := by decide +kernel
theorem dL_cell_6 : decode cL_cell 6 = .ok (.aload_n 0, 1) := by decide +kernel
theorem dL_cell_7 : decode cL_cell 7 = .ok (.iload_n 1, 1) := by decide +kernel
theorem dL_cell_8 : decode cL_cell 8 = .ok (.iaload, 1) := by decide +kernel
theorem dL_cell_9 : decode cL_cell 9 = .ok (.goto 4, 3) := by decide +kernel
theorem dL_cell_12 : decode cL_cell 12 = .ok (.iconst 0, 1) := by decide +kernel
theorem dL_cell_13 : decode cL_cell 13 = .ok (.ireturn, 1) := by decide +kernel
set_option maxRecDepth 20000 in
theorem ggL_byteAt_X1_byteAt : GoodIn wsL_byteAt wsX1_byteAt := goodIn_r _ [5, 6, 7, 8, 9, 10, 11, 12, 13, 14, 15, 16, 17, 18, 19, 20, 21, 22, 23, 24, 25, 26, 27, 28, 29, 30, 31, 32, 33, 34, 35, 36, 37, 38, 39] (by decide +kernel) (by decide +kernel)
set_option maxRecDepth 20000 in
theorem gL_byteAt_X1_byteAt : GoodIn wsL_byteAt (wsV RL 7 RX1 yX1_byteAt wsX1_byteAt) := goodIn_app (goodIn_of _ (by decide +kernel)) ggL_byteAt_X1_byteAt
theorem dL_byteAt_0 : decode cL_byteAt 0 = .ok (.aload_n 3, 1) := by decide +kernel
theorem dL_byteAt_1 : decode cL_byteAt 1 = .ok (.iconst 0, 1) := by decide +kernel
theorem dL_byteAt_2 : decode cL_byteAt 2 = .ok (.aload_n 0, 1) := by decide +kernel
theorem dL_byteAt_3 : decode cL_byteAt 3 = .ok (.iload_n 1, 1) := by decide +kernel
theorem dL_byteAt_4 : decode cL_byteAt 4 = .ok (.iload_n 2, 1) := by decide +kernel
theorem dL_byteAt_5 : decode cL_byteAt 5 = .ok (.invokevirtual 7, 3) := by decide +kernel
theorem dL_byteAt_8 : decode cL_byteAt 8 = .ok (.i2l, 1) := by decide +kernel
theorem dL_byteAt_9 : decode cL_byteAt 9 = .ok (.lastore, 1) := by decide +kernel
theorem dL_byteAt_10 : decode cL_byteAt 10 = .ok (.goto 7, 3) := by decide +kernel
theorem dL_byteAt_13 : decode cL_byteAt 13 = .ok (.astore 4, 2) := by decide +kernel
theorem dL_byteAt_15 : decode cL_byteAt 15 = .ok (.iconst 1, 1) := by decide +kernel
theorem dL_byteAt_16 : decode cL_byteAt 16 = .ok (.ireturn, 1) := by decide +kernel
theorem dL_byteAt_17 : decode cL_byteAt 17 = .ok (.iconst 0, 1) := by decide +kernel
theorem dL_byteAt_18 : decode cL_byteAt 18 = .ok (.ireturn, 1) := by decide +kernel
set_option maxRecDepth 20000 in
theorem ggL_law_L_cell : GoodIn wsL_law wsL_cell := goodIn_r _ [10] (by decide +kernel) (by decide +kernel)
set_option maxRecDepth 20000 in
theorem gL_law_L_cell : GoodIn wsL_law (va_wsS RL 15 yL_cell wsL_cell) := goodIn_app (goodIn_of _ (by decide +kernel)) ggL_law_L_cell
set_option maxRecDepth 20000 in
theorem ggL_law_X1_init : GoodIn wsL_law wsX1_init := goodIn_r _ [13, 14, 15, 16, 17, 18, 19, 20, 21, 22, 23, 24, 25, 26, 27, 28, 29, 30, 31, 32, 33, 34, 35, 36, 37, 38, 39, 40, 41, 42, 43, 44, 45, 46, 47, 2, 48, 49, 50, 51, 52, 53, 54, 55, 56, 57, 58, 59, 60, 61, 62, 63, 64, 65, 66, 67, 68, 69, 70, 71, 72, 73, 74, 75, 76, 77, 78, 354, 355, 356, 357, 358, 359, 360, 373, 374, 375, 376, 377] (by decide +kernel) (by decide +kernel)
set_option maxRecDepth 20000 in
theorem gL_law_X1_init : GoodIn wsL_law (wsX1_init) := ggL_law_X1_init
set_option maxRecDepth 20000 in
theorem ggL_law_X2_init : GoodIn wsL_law wsX2_init := goodIn_r _ [81, 82, 15, 16, 17, 83, 84, 85, 86, 87, 88, 89, 90, 91, 92, 93, 94, 5, 95, 96, 97, 98, 99, 100, 101, 102, 103, 104, 105, 106, 107, 108, 109, 361, 362, 363, 364, 365, 366, 367, 368, 369, 370, 371, 372] (by decide +kernel) (by decide +kernel)
set_option maxRecDepth 20000 in
theorem gL_law_X2_init : GoodIn wsL_law (wsX2_init) := ggL_law_X2_init
set_option maxRecDepth 20000 in
theorem ggL_law_X1_feed : GoodIn wsL_law wsX1_feed := goodIn_r _ [113, 19, 18, 354, 355, 356, 357, 358, 359, 360] (by decide +kernel) (by decide +kernel)
set_option maxRecDepth 20000 in
theorem gL_law_X1_feed : GoodIn wsL_law (wsV RL 27 RX1 yX1_feed wsX1_feed) := goodIn_app (goodIn_of _ (by decide +kernel)) ggL_law_X1_feed
set_option maxRecDepth 20000 in
theorem ggL_law_X2_feed : GoodIn wsL_law wsX2_feed := goodIn_r _ [117, 118, 119, 85, 361, 362, 363, 364, 365, 366, 367, 368, 369, 370, 371, 372] (by decide +kernel) (by decide +kernel)
set_option maxRecDepth 20000 in
theorem gL_law_X2_feed : GoodIn wsL_law (wsV RL 31 RX2 yX2_feed wsX2_feed) := goodIn_app (goodIn_of _ (by decide +kernel)) ggL_law_X2_feed
set_option maxRecDepth 20000 in
theorem ggL_law_X1_put : GoodIn wsL_law wsX1_put := goodIn_r _ [123, 27, 124, 19, 21, 25, 125, 126, 127, 2, 128, 129, 130, 131, 132, 133, 134, 135, 136, 57, 58, 59, 60, 20, 137, 71, 72, 24, 73, 44, 53, 54, 55, 56, 43, 138, 139, 140, 141, 142, 37, 38, 39, 143, 144, 145, 146, 18, 147, 148, 149, 150, 151, 152, 153, 154, 155, 156, 157, 158, 75, 76, 77, 78, 35, 159, 160, 161, 162, 49, 50, 51, 52, 32, 34, 61, 62, 63, 64, 65, 66, 67, 68, 69, 70, 74, 163, 164, 165, 166, 167, 168, 169, 170, 26, 45, 46, 47, 48, 354, 355, 356, 357, 358, 359, 360, 373, 374, 375, 376, 377] (by decide +kernel) (by decide +kernel)
set_option maxRecDepth 20000 in
theorem gL_law_X1_put : GoodIn wsL_law (wsV RL 32 RX1 yX1_put wsX1_put) := goodIn_app (goodIn_of _ (by decide +kernel)) ggL_law_X1_put
set_option maxRecDepth 20000 in
theorem ggL_law_X2_put : GoodIn wsL_law wsX2_put := goodIn_r _ [174, 118, 90, 175, 119, 96, 91, 84, 89, 176, 177, 178, 5, 179, 83, 85, 180, 181, 182, 183, 184, 185, 186, 187, 88, 188, 189, 190, 191, 192, 193, 194, 195, 97, 98, 99, 100, 86, 87, 101, 102, 103, 104, 105, 106, 107, 108, 109, 92, 93, 94, 95, 196, 197, 198, 199, 361, 362, 363, 364, 365, 366, 367, 368, 369, 370, 371, 372] (by decide +kernel) (by decide +kernel)
set_option maxRecDepth 20000 in
theorem gL_law_X2_put : GoodIn wsL_law (wsV RL 36 RX2 yX2_put wsX2_put) := goodIn_app (goodIn_of _ (by decide +kernel)) ggL_law_X2_put
set_option maxRecDepth 20000 in
theorem ggL_law_X1_find : GoodIn wsL_law wsX1_find := goodIn_r _ [203, 27, 21, 204, 205, 206, 2, 207, 25, 57, 58, 59, 60, 20, 137, 71, 72, 24, 73, 44, 53, 54, 55, 56, 43, 138, 139, 140, 141, 142, 37, 38, 39, 133, 134, 135, 136, 354, 355, 356, 357, 358, 359, 360, 373, 374, 375, 376, 377] (by decide +kernel) (by decide +kernel)
set_option maxRecDepth 20000 in
theorem gL_law_X1_find : GoodIn wsL_law (wsV RL 37 RX1 yX1_find wsX1_find) := goodIn_app (goodIn_of _ (by decide +kernel)) ggL_law_X1_find
set_option maxRecDepth 20000 in
theorem ggL_law_X2_find : GoodIn wsL_law wsX2_find := goodIn_r _ [211, 118, 90, 96, 83, 84, 212, 213, 214, 5, 215, 180, 181, 182, 183, 361, 362, 363, 364, 365, 366, 367, 368, 369, 370, 371, 372] (by decide +kernel) (by decide +kernel)
set_option maxRecDepth 20000 in
theorem gL_law_X2_find : GoodIn wsL_law (wsV RL 40 RX2 yX2_find wsX2_find) := goodIn_app (goodIn_of _ (by decide +kernel)) ggL_law_X2_find
set_option maxRecDepth 20000 in
theorem ggL_law_X1_entry : GoodIn wsL_law wsX1_entry := goodIn_r _ [219, 220, 221, 222, 2, 223, 27, 21, 204, 205, 206, 207, 25, 57, 58, 59, 60, 20, 137, 71, 72, 24, 73, 44, 53, 54, 55, 56, 43, 133, 134, 135, 136, 354, 355, 356, 357, 358, 359, 360, 373, 374, 375, 376, 377] (by decide +kernel) (by decide +kernel)
set_option maxRecDepth 20000 in
theorem gL_law_X1_entry : GoodIn wsL_law (wsV RL 41 RX1 yX1_entry wsX1_entry) := goodIn_app (goodIn_of _ (by decide +kernel)) ggL_law_X1_entry
set_option maxRecDepth 20000 in
theorem ggL_law_X2_entry : GoodIn wsL_law wsX2_entry := goodIn_r _ [227, 118, 90, 96, 84, 212, 213, 214, 5, 215, 83, 180, 181, 182, 183, 361, 362, 363, 364, 365, 366, 367, 368, 369, 370, 371, 372] (by decide +kernel) (by decide +kernel)
set_option maxRecDepth 20000 in
theorem gL_law_X2_entry : GoodIn wsL_law (wsV RL 44 RX2 yX2_entry wsX2_entry) := goodIn_app (goodIn_of _ (by decide +kernel)) ggL_law_X2_entry
set_option maxRecDepth 20000 in
theorem ggL_law_X1_drop : GoodIn wsL_law wsX1_drop := goodIn_r _ [231, 25, 220, 221, 222, 2, 223, 27, 21, 75, 76, 77, 24, 78, 35, 232, 233, 234, 235, 20, 167, 168, 169, 170, 26, 45, 46, 47, 48, 49, 50, 51, 52, 32, 34, 44, 53, 54, 55, 56, 43, 57, 58, 59, 60, 61, 62, 63, 64, 65, 66, 67, 68, 69, 70, 71, 72, 73, 74, 354, 355, 356, 357, 358, 359, 360, 373, 374, 375, 376, 377] (by decide +kernel) (by decide +kernel)
set_option maxRecDepth 20000 in
theorem gL_law_X1_drop : GoodIn wsL_law (wsV RL 45 RX1 yX1_drop wsX1_drop) := goodIn_app (goodIn_of _ (by decide +kernel)) ggL_law_X1_drop
set_option maxRecDepth 20000 in
theorem ggL_law_X2_drop : GoodIn wsL_law wsX2_drop := goodIn_r _ [239, 118, 90, 96, 91, 89, 84, 92, 93, 94, 5, 95, 97, 98, 99, 100, 86, 87, 83, 101, 102, 103, 104, 105, 106, 107, 108, 109, 196, 197, 198, 199, 361, 362, 363, 364, 365, 366, 367, 368, 369, 370, 371, 372] (by decide +kernel) (by decide +kernel)
set_option maxRecDepth 20000 in
theorem gL_law_X2_drop : GoodIn wsL_law (wsV RL 48 RX2 yX2_drop wsX2_drop) := goodIn_app (goodIn_of _ (by decide +kernel)) ggL_law_X2_drop
set_option maxRecDepth 20000 in
theorem ggL_law_X1_crash : GoodIn wsL_law wsX1_crash := goodIn_r _ [243, 25, 27, 244, 245, 246, 24, 247, 35, 248, 249, 250, 251, 40, 41, 38, 42, 32, 44, 34, 354, 355, 356, 357, 358, 359, 360, 373, 374, 375, 376, 377] (by decide +kernel) (by decide +kernel)
set_option maxRecDepth 20000 in
theorem gL_law_X1_crash : GoodIn wsL_law (wsV RL 49 RX1 yX1_crash wsX1_crash) := goodIn_app (goodIn_of _ (by decide +kernel)) ggL_law_X1_crash
set_option maxRecDepth 20000 in
theorem ggL_law_X2_crash : GoodIn wsL_law wsX2_crash := goodIn_r _ [255, 118, 90, 91, 83, 86, 87, 361, 362, 363, 364, 365, 366, 367, 368, 369, 370, 371, 372] (by decide +kernel) (by decide +kernel)
set_option maxRecDepth 20000 in
theorem gL_law_X2_crash : GoodIn wsL_law (wsV RL 52 RX2 yX2_crash wsX2_crash) := goodIn_app (goodIn_of _ (by decide +kernel)) ggL_law_X2_crash
set_option maxRecDepth 20000 in
theorem ggL_law_X1_reopen : GoodIn wsL_law wsX1_reopen := goodIn_r _ [259, 25, 27, 21, 75, 76, 77, 24, 78, 35, 260, 261, 262, 2, 263, 26, 137, 71, 72, 73, 44, 53, 54, 55, 56, 43, 264, 265, 266, 267, 268, 269, 270, 271, 65, 66, 67, 68, 69, 70, 151, 152, 153, 154, 155, 156, 157, 158, 57, 58, 59, 60, 20, 163, 164, 165, 166, 272, 273, 274, 275, 133, 134, 135, 136, 276, 277, 278, 142, 37, 38, 39, 354, 355, 356, 357, 358, 359, 360, 373, 374, 375, 376, 377] (by decide +kernel) (by decide +kernel)
set_option maxRecDepth 20000 in
theorem gL_law_X1_reopen : GoodIn wsL_law (wsV RL 53 RX1 yX1_reopen wsX1_reopen) := goodIn_app (goodIn_of _ (by decide +kernel)) ggL_law_X1_reopen
set_option maxRecDepth 20000 in
theorem ggL_law_X2_reopen : GoodIn wsL_law wsX2_reopen := goodIn_r _ [282, 118, 90, 91, 83, 89, 96, 84, 283, 284, 285, 5, 286, 88, 287, 288, 289, 290, 105, 106, 107, 108, 109, 291, 292, 293, 294, 361, 362, 363, 364, 365, 366, 367, 368, 369, 370, 371, 372] (by decide +kernel) (by decide +kernel)
set_option maxRecDepth 20000 in
theorem gL_law_X2_reopen : GoodIn wsL_law (wsV RL 57 RX2 yX2_reopen wsX2_reopen) := goodIn_app (goodIn_of _ (by decide +kernel)) ggL_law_X2_reopen
set_option maxRecDepth 20000 in
theorem ggL_law_X1_poke : GoodIn wsL_law wsX1_poke := goodIn_r _ [298, 25, 299, 54, 55, 24, 56, 43, 300, 301, 302, 303, 44, 53, 354, 355, 356, 357, 358, 359, 360, 373, 374, 375, 376, 377] (by decide +kernel) (by decide +kernel)
set_option maxRecDepth 20000 in
theorem gL_law_X1_poke : GoodIn wsL_law (wsV RL 58 RX1 yX1_poke wsX1_poke) := goodIn_app (goodIn_of _ (by decide +kernel)) ggL_law_X1_poke
set_option maxRecDepth 20000 in
theorem ggL_law_X2_poke : GoodIn wsL_law wsX2_poke := goodIn_r _ [307, 118, 83, 308, 309, 310, 5, 311, 88, 361, 362, 363, 364, 365, 366, 367, 368, 369, 370, 371, 372] (by decide +kernel) (by decide +kernel)
set_option maxRecDepth 20000 in
theorem gL_law_X2_poke : GoodIn wsL_law (wsV RL 62 RX2 yX2_poke wsX2_poke) := goodIn_app (goodIn_of _ (by decide +kernel)) ggL_law_X2_poke
set_option maxRecDepth 20000 in
theorem ggL_law_X1_badAt : GoodIn wsL_law wsX1_badAt := goodIn_r _ [315, 27, 25, 26, 21, 268, 269, 270, 24, 271, 65, 66, 67, 68, 69, 70, 71, 72, 73, 44, 53, 54, 55, 56, 43, 57, 58, 59, 2, 60, 20, 276, 277, 278, 142, 37, 38, 39, 354, 355, 356, 357, 358, 359, 360, 373, 374, 375, 376, 377] (by decide +kernel) (by decide +kernel)
set_option maxRecDepth 20000 in
theorem gL_law_X1_badAt : GoodIn wsL_law (wsV RL 63 RX1 yX1_badAt wsX1_badAt) := goodIn_app (goodIn_of _ (by decide +kernel)) ggL_law_X1_badAt
set_option maxRecDepth 20000 in
theorem ggL_law_X2_badAt : GoodIn wsL_law wsX2_badAt := goodIn_r _ [319, 118, 90, 89, 88, 287, 288, 289, 5, 290, 83, 105, 106, 107, 108, 109, 188, 189, 190, 191, 96, 84, 361, 362, 363, 364, 365, 366, 367, 368, 369, 370, 371, 372] (by decide +kernel) (by decide +kernel)
set_option maxRecDepth 20000 in
theorem gL_law_X2_badAt : GoodIn wsL_law (wsV RL 66 RX2 yX2_badAt wsX2_badAt) := goodIn_app (goodIn_of _ (by decide +kernel)) ggL_law_X2_badAt
set_option maxRecDepth 20000 in
theorem ggL_law_L_byteAt : GoodIn wsL_law wsL_byteAt := goodIn_r _ [322, 323, 324, 325, 2, 326, 25, 327, 328, 329, 299, 54, 55, 24, 56, 43, 137, 71, 72, 73, 44, 53, 354, 355, 356, 357, 358, 359, 360, 378, 379, 380, 381, 382, 383, 373, 374, 375, 376, 377] (by decide +kernel) (by decide +kernel)
set_option maxRecDepth 20000 in
theorem gL_law_L_byteAt : GoodIn wsL_law (va_wsS RL 67 yL_byteAt wsL_byteAt) := goodIn_app (goodIn_of _ (by decide +kernel)) ggL_law_L_byteAt
set_option maxRecDepth 20000 in
theorem ggL_law_X2_byteAt : GoodIn wsL_law wsX2_byteAt := goodIn_r _ [333, 118, 83, 308, 309, 310, 5, 311, 88, 361, 362, 363, 364, 365, 366, 367, 368, 369, 370, 371, 372] (by decide +kernel) (by decide +kernel)
set_option maxRecDepth 20000 in
theorem gL_law_X2_byteAt : GoodIn wsL_law (wsV RL 70 RX2 yX2_byteAt wsX2_byteAt) := goodIn_app (goodIn_of _ (by decide +kernel)) ggL_law_X2_byteAt
set_option maxRecDepth 20000 in
theorem ggL_law_X2_thrown : GoodIn wsL_law wsX2_thrown := goodIn_r _ [337, 118, 361, 362, 363, 364, 365, 366, 367, 368, 369, 370, 371, 372] (by decide +kernel) (by decide +kernel)
set_option maxRecDepth 20000 in
theorem gL_law_X2_thrown : GoodIn wsL_law (wsV RL 71 RX2 yX2_thrown wsX2_thrown) := goodIn_app (goodIn_of _ (by decide +kernel)) ggL_law_X2_thrown
set_option maxRecDepth 20000 in
theorem ggL_law_X1_free : GoodIn wsL_law wsX1_free := goodIn_r _ [341, 27, 25, 21, 151, 152, 153, 24, 154, 43, 354, 355, 356, 357, 358, 359, 360, 373, 374, 375, 376, 377] (by decide +kernel) (by decide +kernel)
set_option maxRecDepth 20000 in
theorem gL_law_X1_free : GoodIn wsL_law (wsV RL 74 RX1 yX1_free wsX1_free) := goodIn_app (goodIn_of _ (by decide +kernel)) ggL_law_X1_free
set_option maxRecDepth 20000 in
theorem ggL_law_X2_free : GoodIn wsL_law wsX2_free := goodIn_r _ [345, 118, 90, 88, 96, 361, 362, 363, 364, 365, 366, 367, 368, 369, 370, 371, 372] (by decide +kernel) (by decide +kernel)
set_option maxRecDepth 20000 in
theorem gL_law_X2_free : GoodIn wsL_law (wsV RL 77 RX2 yX2_free wsX2_free) := goodIn_app (goodIn_of _ (by decide +kernel)) ggL_law_X2_free
set_option maxRecDepth 20000 in
theorem ggL_law_X1_root : GoodIn wsL_law wsX1_root := goodIn_r _ [349, 27, 26, 354, 355, 356, 357, 358, 359, 360] (by decide +kernel) (by decide +kernel)
set_option maxRecDepth 20000 in
theorem gL_law_X1_root : GoodIn wsL_law (wsV RL 78 RX1 yX1_root wsX1_root) := goodIn_app (goodIn_of _ (by decide +kernel)) ggL_law_X1_root
set_option maxRecDepth 20000 in
theorem ggL_law_X2_root : GoodIn wsL_law wsX2_root := goodIn_r _ [353, 118, 90, 89, 361, 362, 363, 364, 365, 366, 367, 368, 369, 370, 371, 372] (by decide +kernel) (by decide +kernel)
set_option maxRecDepth 20000 in
theorem gL_law_X2_root : GoodIn wsL_law (wsV RL 81 RX2 yX2_root wsX2_root) := goodIn_app (goodIn_of _ (by decide +kernel)) ggL_law_X2_root
theorem dL_law_0 : decode cL_law 0 = .ok (.new 8, 3) := by decide +kernel
theorem dL_law_3 : decode cL_law 3 = .ok (.dup, 1) := by decide +kernel
theorem dL_law_4 : decode cL_law 4 = .ok (.aload_n 0, 1) := by decide +kernel
theorem dL_law_5 : decode cL_law 5 = .ok (.iconst 0, 1) := by decide +kernel
theorem dL_law_6 : decode cL_law 6 = .ok (.invokestatic 15, 3) := by decide +kernel
theorem dL_law_9 : decode cL_law 9 = .ok (.invokespecial 21, 3) := by decide +kernel
theorem dL_law_12 : decode cL_law 12 = .ok (.astore_n 1, 1) := by decide +kernel
theorem dL_law_13 : decode cL_law 13 = .ok (.new 24, 3) := by decide +kernel
theorem dL_law_16 : decode cL_law 16 = .ok (.dup, 1) := by decide +kernel
theorem dL_law_17 : decode cL_law 17 = .ok (.aload_n 0, 1) := by decide +kernel
theorem dL_law_18 : decode cL_law 18 = .ok (.iconst 0, 1) := by decide +kernel
theorem dL_law_19 : decode cL_law 19 = .ok (.invokestatic 15, 3) := by decide +kernel
theorem dL_law_22 : decode cL_law 22 = .ok (.invokespecial 26, 3) := by decide +kernel
theorem dL_law_25 : decode cL_law 25 = .ok (.astore_n 2, 1) := by decide +kernel
theorem dL_law_26 : decode cL_law 26 = .ok (.iconst 1, 1) := by decide +kernel
theorem dL_law_27 : decode cL_law 27 = .ok (.newarray .long, 2) := by decide +kernel
theorem dL_law_29 : decode cL_law 29 = .ok (.astore_n 3, 1) := by decide +kernel
theorem dL_law_30 : decode cL_law 30 = .ok (.iconst 1, 1) := by decide +kernel
theorem dL_law_31 : decode cL_law 31 = .ok (.istore 4, 2) := by decide +kernel
theorem dL_law_33 : decode cL_law 33 = .ok (.iload 4, 2) := by decide +kernel
theorem dL_law_35 : decode cL_law 35 = .ok (.aload_n 0, 1) := by decide +kernel
theorem dL_law_36 : decode cL_law 36 = .ok (.arraylength, 1) := by decide +kernel
theorem dL_law_37 : decode cL_law 37 = .ok (.iconst 4, 1) := by decide +kernel
theorem dL_law_38 : decode cL_law 38 = .ok (.isub, 1) := by decide +kernel
theorem dL_law_39 : decode cL_law 39 = .ok (.if_icmp .gt 422, 3) := by decide +kernel
theorem dL_law_42 : decode cL_law 42 = .ok (.aload_n 0, 1) := by decide +kernel
theorem dL_law_43 : decode cL_law 43 = .ok (.iload 4, 2) := by decide +kernel
theorem dL_law_45 : decode cL_law 45 = .ok (.iaload, 1) := by decide +kernel
theorem dL_law_46 : decode cL_law 46 = .ok (.bipush 15, 2) := by decide +kernel
theorem dL_law_48 : decode cL_law 48 = .ok (.iand, 1) := by decide +kernel
theorem dL_law_49 : decode cL_law 49 = .ok (.tableswitch 406 0 11 #[63, 88, 113, 150, 187, 212, 237, 250, 299, 312, 380, 393], 63) := by decide +kernel
theorem dL_law_112 : decode cL_law 112 = .ok (.aload_n 1, 1) := by decide +kernel
theorem dL_law_113 : decode cL_law 113 = .ok (.aload_n 0, 1) := by decide +kernel
theorem dL_law_114 : decode cL_law 114 = .ok (.iload 4, 2) := by decide +kernel
theorem dL_law_116 : decode cL_law 116 = .ok (.iconst 1, 1) := by decide +kernel
theorem dL_law_117 : decode cL_law 117 = .ok (.iadd, 1) := by decide +kernel
theorem dL_law_118 : decode cL_law 118 = .ok (.iaload, 1) := by decide +kernel
theorem dL_law_119 : decode cL_law 119 = .ok (.invokevirtual 27, 3) := by decide +kernel
theorem dL_law_122 : decode cL_law 122 = .ok (.aload_n 2, 1) := by decide +kernel
theorem dL_law_123 : decode cL_law 123 = .ok (.aload_n 0, 1) := by decide +kernel
theorem dL_law_124 : decode cL_law 124 = .ok (.iload 4, 2) := by decide +kernel
theorem dL_law_126 : decode cL_law 126 = .ok (.iconst 1, 1) := by decide +kernel
theorem dL_law_127 : decode cL_law 127 = .ok (.iadd, 1) := by decide +kernel
theorem dL_law_128 : decode cL_law 128 = .ok (.iaload, 1) := by decide +kernel
theorem dL_law_129 : decode cL_law 129 = .ok (.invokevirtual 31, 3) := by decide +kernel
theorem dL_law_132 : decode cL_law 132 = .ok (.if_icmp .eq 323, 3) := by decide +kernel
theorem dL_law_135 : decode cL_law 135 = .ok (.iconst 0, 1) := by decide +kernel
theorem dL_law_136 : decode cL_law 136 = .ok (.ireturn, 1) := by decide +kernel
theorem dL_law_137 : decode cL_law 137 = .ok (.aload_n 1, 1) := by decide +kernel
theorem dL_law_138 : decode cL_law 138 = .ok (.aload_n 0, 1) := by decide +kernel
theorem dL_law_139 : decode cL_law 139 = .ok (.iload 4, 2) := by decide +kernel
theorem dL_law_141 : decode cL_law 141 = .ok (.iconst 1, 1) := by decide +kernel
theorem dL_law_142 : decode cL_law 142 = .ok (.iadd, 1) := by decide +kernel
theorem dL_law_143 : decode cL_law 143 = .ok (.iaload, 1) := by decide +kernel
theorem dL_law_144 : decode cL_law 144 = .ok (.invokevirtual 32, 3) := by decide +kernel
theorem dL_law_147 : decode cL_law 147 = .ok (.aload_n 2, 1) := by decide +kernel
theorem dL_law_148 : decode cL_law 148 = .ok (.aload_n 0, 1) := by decide +kernel
theorem dL_law_149 : decode cL_law 149 = .ok (.iload 4, 2) := by decide +kernel
theorem dL_law_151 : decode cL_law 151 = .ok (.iconst 1, 1) := by decide +kernel
theorem dL_law_152 : decode cL_law 152 = .ok (.iadd, 1) := by decide +kernel
theorem dL_law_153 : decode cL_law 153 = .ok (.iaload, 1) := by decide +kernel
theorem dL_law_154 : decode cL_law 154 = .ok (.invokevirtual 36, 3) := by decide +kernel
theorem dL_law_157 : decode cL_law 157 = .ok (.if_icmp .eq 298, 3) := by decide +kernel
theorem dL_law_160 : decode cL_law 160 = .ok (.iconst 0, 1) := by decide +kernel
theorem dL_law_161 : decode cL_law 161 = .ok (.ireturn, 1) := by decide +kernel
theorem dL_law_162 : decode cL_law 162 = .ok (.aload_n 1, 1) := by decide +kernel
theorem dL_law_163 : decode cL_law 163 = .ok (.aload_n 0, 1) := by decide +kernel
theorem dL_law_164 : decode cL_law 164 = .ok (.iload 4, 2) := by decide +kernel
theorem dL_law_166 : decode cL_law 166 = .ok (.iconst 1, 1) := by decide +kernel
theorem dL_law_167 : decode cL_law 167 = .ok (.iadd, 1) := by decide +kernel
theorem dL_law_168 : decode cL_law 168 = .ok (.iaload, 1) := by decide +kernel
theorem dL_law_169 : decode cL_law 169 = .ok (.aload_n 0, 1) := by decide +kernel
theorem dL_law_170 : decode cL_law 170 = .ok (.iload 4, 2) := by decide +kernel
theorem dL_law_172 : decode cL_law 172 = .ok (.iconst 2, 1) := by decide +kernel
theorem dL_law_173 : decode cL_law 173 = .ok (.iadd, 1) := by decide +kernel
theorem dL_law_174 : decode cL_law 174 = .ok (.iaload, 1) := by decide +kernel
theorem dL_law_175 : decode cL_law 175 = .ok (.invokevirtual 37, 3) := by decide +kernel
theorem dL_law_178 : decode cL_law 178 = .ok (.aload_n 2, 1) := by decide +kernel
theorem dL_law_179 : decode cL_law 179 = .ok (.aload_n 0, 1) := by decide +kernel
theorem dL_law_180 : decode cL_law 180 = .ok (.iload 4, 2) := by decide +kernel
theorem dL_law_182 : decode cL_law 182 = .ok (.iconst 1, 1) := by decide +kernel
theorem dL_law_183 : decode cL_law 183 = .ok (.iadd, 1) := by decide +kernel
theorem dL_law_184 : decode cL_law 184 = .ok (.iaload, 1) := by decide +kernel
theorem dL_law_185 : decode cL_law 185 = .ok (.aload_n 0, 1) := by decide +kernel
theorem dL_law_186 : decode cL_law 186 = .ok (.iload 4, 2) := by decide +kernel
theorem dL_law_188 : decode cL_law 188 = .ok (.iconst 2, 1) := by decide +kernel
theorem dL_law_189 : decode cL_law 189 = .ok (.iadd, 1) := by decide +kernel
theorem dL_law_190 : decode cL_law 190 = .ok (.iaload, 1) := by decide +kernel
theorem dL_law_191 : decode cL_law 191 = .ok (.invokevirtual 40, 3) := by decide +kernel
theorem dL_law_194 : decode cL_law 194 = .ok (.if_icmp .eq 261, 3) := by decide +kernel
theorem dL_law_197 : decode cL_law 197 = .ok (.iconst 0, 1) := by decide +kernel
theorem dL_law_198 : decode cL_law 198 = .ok (.ireturn, 1) := by decide +kernel
theorem dL_law_199 : decode cL_law 199 = .ok (.aload_n 1, 1) := by decide +kernel
theorem dL_law_200 : decode cL_law 200 = .ok (.aload_n 0, 1) := by decide +kernel
theorem dL_law_201 : decode cL_law 201 = .ok (.iload 4, 2) := by decide +kernel
theorem dL_law_203 : decode cL_law 203 = .ok (.iconst 1, 1) := by decide +kernel
theorem dL_law_204 : decode cL_law 204 = .ok (.iadd, 1) := by decide +kernel
theorem dL_law_205 : decode cL_law 205 = .ok (.iaload, 1) := by decide +kernel
theorem dL_law_206 : decode cL_law 206 = .ok (.aload_n 0, 1) := by decide +kernel
theorem dL_law_207 : decode cL_law 207 = .ok (.iload 4, 2) := by decide +kernel
theorem dL_law_209 : decode cL_law 209 = .ok (.iconst 2, 1) := by decide +kernel
theorem dL_law_210 : decode cL_law 210 = .ok (.iadd, 1) := by decide +kernel
theorem dL_law_211 : decode cL_law 211 = .ok (.iaload, 1) := by decide +kernel
theorem dL_law_212 : decode cL_law 212 = .ok (.invokevirtual 41, 3) := by decide +kernel
theorem dL_law_215 : decode cL_law 215 = .ok (.aload_n 2, 1) := by decide +kernel
theorem dL_law_216 : decode cL_law 216 = .ok (.aload_n 0, 1) := by decide +kernel
theorem dL_law_217 : decode cL_law 217 = .ok (.iload 4, 2) := by decide +kernel
theorem dL_law_219 : decode cL_law 219 = .ok (.iconst 1, 1) := by decide +kernel
theorem dL_law_220 : decode cL_law 220 = .ok (.iadd, 1) := by decide +kernel
theorem dL_law_221 : decode cL_law 221 = .ok (.iaload, 1) := by decide +kernel
theorem dL_law_222 : decode cL_law 222 = .ok (.aload_n 0, 1) := by decide +kernel
theorem dL_law_223 : decode cL_law 223 = .ok (.iload 4, 2) := by decide +kernel
theorem dL_law_225 : decode cL_law 225 = .ok (.iconst 2, 1) := by decide +kernel
theorem dL_law_226 : decode cL_law 226 = .ok (.iadd, 1) := by decide +kernel
theorem dL_law_227 : decode cL_law 227 = .ok (.iaload, 1) := by decide +kernel
theorem dL_law_228 : decode cL_law 228 = .ok (.invokevirtual 44, 3) := by decide +kernel
theorem dL_law_231 : decode cL_law 231 = .ok (.if_icmp .eq 224, 3) := by decide +kernel
theorem dL_law_234 : decode cL_law 234 = .ok (.iconst 0, 1) := by decide +kernel
theorem dL_law_235 : decode cL_law 235 = .ok (.ireturn, 1) := by decide +kernel
theorem dL_law_236 : decode cL_law 236 = .ok (.aload_n 1, 1) := by decide +kernel
theorem dL_law_237 : decode cL_law 237 = .ok (.aload_n 0, 1) := by decide +kernel
theorem dL_law_238 : decode cL_law 238 = .ok (.iload 4, 2) := by decide +kernel
theorem dL_law_240 : decode cL_law 240 = .ok (.iconst 1, 1) := by decide +kernel
theorem dL_law_241 : decode cL_law 241 = .ok (.iadd, 1) := by decide +kernel
theorem dL_law_242 : decode cL_law 242 = .ok (.iaload, 1) := by decide +kernel
theorem dL_law_243 : decode cL_law 243 = .ok (.invokevirtual 45, 3) := by decide +kernel
theorem dL_law_246 : decode cL_law 246 = .ok (.aload_n 2, 1) := by decide +kernel
theorem dL_law_247 : decode cL_law 247 = .ok (.aload_n 0, 1) := by decide +kernel
theorem dL_law_248 : decode cL_law 248 = .ok (.iload 4, 2) := by decide +kernel
theorem dL_law_250 : decode cL_law 250 = .ok (.iconst 1, 1) := by decide +kernel
theorem dL_law_251 : decode cL_law 251 = .ok (.iadd, 1) := by decide +kernel
theorem dL_law_252 : decode cL_law 252 = .ok (.iaload, 1) := by decide +kernel
theorem dL_law_253 : decode cL_law 253 = .ok (.invokevirtual 48, 3) := by decide +kernel
theorem dL_law_256 : decode cL_law 256 = .ok (.if_icmp .eq 199, 3) := by decide +kernel
theorem dL_law_259 : decode cL_law 259 = .ok (.iconst 0, 1) := by decide +kernel
theorem dL_law_260 : decode cL_law 260 = .ok (.ireturn, 1) := by decide +kernel
theorem dL_law_261 : decode cL_law 261 = .ok (.aload_n 1, 1) := by decide +kernel
theorem dL_law_262 : decode cL_law 262 = .ok (.aload_n 0, 1) := by decide +kernel
theorem dL_law_263 : decode cL_law 263 = .ok (.iload 4, 2) := by decide +kernel
theorem dL_law_265 : decode cL_law 265 = .ok (.iconst 1, 1) := by decide +kernel
theorem dL_law_266 : decode cL_law 266 = .ok (.iadd, 1) := by decide +kernel
theorem dL_law_267 : decode cL_law 267 = .ok (.iaload, 1) := by decide +kernel
theorem dL_law_268 : decode cL_law 268 = .ok (.invokevirtual 49, 3) := by decide +kernel
theorem dL_law_271 : decode cL_law 271 = .ok (.aload_n 2, 1) := by decide +kernel
theorem dL_law_272 : decode cL_law 272 = .ok (.aload_n 0, 1) := by decide +kernel
theorem dL_law_273 : decode cL_law 273 = .ok (.iload 4, 2) := by decide +kernel
theorem dL_law_275 : decode cL_law 275 = .ok (.iconst 1, 1) := by decide +kernel
theorem dL_law_276 : decode cL_law 276 = .ok (.iadd, 1) := by decide +kernel
theorem dL_law_277 : decode cL_law 277 = .ok (.iaload, 1) := by decide +kernel
theorem dL_law_278 : decode cL_law 278 = .ok (.invokevirtual 52, 3) := by decide +kernel
theorem dL_law_281 : decode cL_law 281 = .ok (.if_icmp .eq 174, 3) := by decide +kernel
theorem dL_law_284 : decode cL_law 284 = .ok (.iconst 0, 1) := by decide +kernel
theorem dL_law_285 : decode cL_law 285 = .ok (.ireturn, 1) := by decide +kernel
theorem dL_law_286 : decode cL_law 286 = .ok (.aload_n 1, 1) := by decide +kernel
theorem dL_law_287 : decode cL_law 287 = .ok (.invokevirtual 53, 3) := by decide +kernel
theorem dL_law_290 : decode cL_law 290 = .ok (.aload_n 2, 1) := by decide +kernel
theorem dL_law_291 : decode cL_law 291 = .ok (.invokevirtual 57, 3) := by decide +kernel
theorem dL_law_294 : decode cL_law 294 = .ok (.if_icmp .eq 161, 3) := by decide +kernel
theorem dL_law_297 : decode cL_law 297 = .ok (.iconst 0, 1) := by decide +kernel
theorem dL_law_298 : decode cL_law 298 = .ok (.ireturn, 1) := by decide +kernel
theorem dL_law_299 : decode cL_law 299 = .ok (.aload_n 1, 1) := by decide +kernel
theorem dL_law_300 : decode cL_law 300 = .ok (.aload_n 0, 1) := by decide +kernel
theorem dL_law_301 : decode cL_law 301 = .ok (.iload 4, 2) := by decide +kernel
theorem dL_law_303 : decode cL_law 303 = .ok (.iconst 1, 1) := by decide +kernel
theorem dL_law_304 : decode cL_law 304 = .ok (.iadd, 1) := by decide +kernel
theorem dL_law_305 : decode cL_law 305 = .ok (.iaload, 1) := by decide +kernel
theorem dL_law_306 : decode cL_law 306 = .ok (.aload_n 0, 1) := by decide +kernel
theorem dL_law_307 : decode cL_law 307 = .ok (.iload 4, 2) := by decide +kernel
theorem dL_law_309 : decode cL_law 309 = .ok (.iconst 2, 1) := by decide +kernel
theorem dL_law_310 : decode cL_law 310 = .ok (.iadd, 1) := by decide +kernel
theorem dL_law_311 : decode cL_law 311 = .ok (.iaload, 1) := by decide +kernel
theorem dL_law_312 : decode cL_law 312 = .ok (.aload_n 0, 1) := by decide +kernel
theorem dL_law_313 : decode cL_law 313 = .ok (.iload 4, 2) := by decide +kernel
theorem dL_law_315 : decode cL_law 315 = .ok (.iconst 3, 1) := by decide +kernel
theorem dL_law_316 : decode cL_law 316 = .ok (.iadd, 1) := by decide +kernel
theorem dL_law_317 : decode cL_law 317 = .ok (.iaload, 1) := by decide +kernel
theorem dL_law_318 : decode cL_law 318 = .ok (.invokevirtual 58, 3) := by decide +kernel
theorem dL_law_321 : decode cL_law 321 = .ok (.aload_n 2, 1) := by decide +kernel
theorem dL_law_322 : decode cL_law 322 = .ok (.aload_n 0, 1) := by decide +kernel
theorem dL_law_323 : decode cL_law 323 = .ok (.iload 4, 2) := by decide +kernel
theorem dL_law_325 : decode cL_law 325 = .ok (.iconst 1, 1) := by decide +kernel
theorem dL_law_326 : decode cL_law 326 = .ok (.iadd, 1) := by decide +kernel
theorem dL_law_327 : decode cL_law 327 = .ok (.iaload, 1) := by decide +kernel
theorem dL_law_328 : decode cL_law 328 = .ok (.aload_n 0, 1) := by decide +kernel
theorem dL_law_329 : decode cL_law 329 = .ok (.iload 4, 2) := by decide +kernel
theorem dL_law_331 : decode cL_law 331 = .ok (.iconst 2, 1) := by decide +kernel
theorem dL_law_332 : decode cL_law 332 = .ok (.iadd, 1) := by decide +kernel
theorem dL_law_333 : decode cL_law 333 = .ok (.iaload, 1) := by decide +kernel
theorem dL_law_334 : decode cL_law 334 = .ok (.aload_n 0, 1) := by decide +kernel
theorem dL_law_335 : decode cL_law 335 = .ok (.iload 4, 2) := by decide +kernel
theorem dL_law_337 : decode cL_law 337 = .ok (.iconst 3, 1) := by decide +kernel
theorem dL_law_338 : decode cL_law 338 = .ok (.iadd, 1) := by decide +kernel
theorem dL_law_339 : decode cL_law 339 = .ok (.iaload, 1) := by decide +kernel
theorem dL_law_340 : decode cL_law 340 = .ok (.invokevirtual 62, 3) := by decide +kernel
theorem dL_law_343 : decode cL_law 343 = .ok (.if_icmp .eq 112, 3) := by decide +kernel
theorem dL_law_346 : decode cL_law 346 = .ok (.iconst 0, 1) := by decide +kernel
theorem dL_law_347 : decode cL_law 347 = .ok (.ireturn, 1) := by decide +kernel
theorem dL_law_348 : decode cL_law 348 = .ok (.aload_n 1, 1) := by decide +kernel
theorem dL_law_349 : decode cL_law 349 = .ok (.invokevirtual 63, 3) := by decide +kernel
theorem dL_law_352 : decode cL_law 352 = .ok (.aload_n 2, 1) := by decide +kernel
theorem dL_law_353 : decode cL_law 353 = .ok (.invokevirtual 66, 3) := by decide +kernel
theorem dL_law_356 : decode cL_law 356 = .ok (.if_icmp .eq 99, 3) := by decide +kernel
theorem dL_law_359 : decode cL_law 359 = .ok (.iconst 0, 1) := by decide +kernel
theorem dL_law_360 : decode cL_law 360 = .ok (.ireturn, 1) := by decide +kernel
theorem dL_law_361 : decode cL_law 361 = .ok (.aload_n 1, 1) := by decide +kernel
theorem dL_law_362 : decode cL_law 362 = .ok (.aload_n 0, 1) := by decide +kernel
theorem dL_law_363 : decode cL_law 363 = .ok (.iload 4, 2) := by decide +kernel
theorem dL_law_365 : decode cL_law 365 = .ok (.iconst 1, 1) := by decide +kernel
theorem dL_law_366 : decode cL_law 366 = .ok (.iadd, 1) := by decide +kernel
theorem dL_law_367 : decode cL_law 367 = .ok (.iaload, 1) := by decide +kernel
theorem dL_law_368 : decode cL_law 368 = .ok (.aload_n 0, 1) := by decide +kernel
theorem dL_law_369 : decode cL_law 369 = .ok (.iload 4, 2) := by decide +kernel
theorem dL_law_371 : decode cL_law 371 = .ok (.iconst 2, 1) := by decide +kernel
theorem dL_law_372 : decode cL_law 372 = .ok (.iadd, 1) := by decide +kernel
theorem dL_law_373 : decode cL_law 373 = .ok (.iaload, 1) := by decide +kernel
theorem dL_law_374 : decode cL_law 374 = .ok (.aload_n 3, 1) := by decide +kernel
theorem dL_law_375 : decode cL_law 375 = .ok (.invokestatic 67, 3) := by decide +kernel
theorem dL_law_378 : decode cL_law 378 = .ok (.istore 5, 2) := by decide +kernel
theorem dL_law_380 : decode cL_law 380 = .ok (.aload_n 2, 1) := by decide +kernel
theorem dL_law_381 : decode cL_law 381 = .ok (.aload_n 0, 1) := by decide +kernel
theorem dL_law_382 : decode cL_law 382 = .ok (.iload 4, 2) := by decide +kernel
theorem dL_law_384 : decode cL_law 384 = .ok (.iconst 1, 1) := by decide +kernel
theorem dL_law_385 : decode cL_law 385 = .ok (.iadd, 1) := by decide +kernel
theorem dL_law_386 : decode cL_law 386 = .ok (.iaload, 1) := by decide +kernel
theorem dL_law_387 : decode cL_law 387 = .ok (.aload_n 0, 1) := by decide +kernel
theorem dL_law_388 : decode cL_law 388 = .ok (.iload 4, 2) := by decide +kernel
theorem dL_law_390 : decode cL_law 390 = .ok (.iconst 2, 1) := by decide +kernel
theorem dL_law_391 : decode cL_law 391 = .ok (.iadd, 1) := by decide +kernel
theorem dL_law_392 : decode cL_law 392 = .ok (.iaload, 1) := by decide +kernel
theorem dL_law_393 : decode cL_law 393 = .ok (.invokevirtual 70, 3) := by decide +kernel
theorem dL_law_396 : decode cL_law 396 = .ok (.istore 6, 2) := by decide +kernel
theorem dL_law_398 : decode cL_law 398 = .ok (.aload_n 2, 1) := by decide +kernel
theorem dL_law_399 : decode cL_law 399 = .ok (.invokevirtual 71, 3) := by decide +kernel
theorem dL_law_402 : decode cL_law 402 = .ok (.iload 5, 2) := by decide +kernel
theorem dL_law_404 : decode cL_law 404 = .ok (.if_icmp .eq 5, 3) := by decide +kernel
theorem dL_law_407 : decode cL_law 407 = .ok (.iconst 0, 1) := by decide +kernel
theorem dL_law_408 : decode cL_law 408 = .ok (.ireturn, 1) := by decide +kernel
theorem dL_law_409 : decode cL_law 409 = .ok (.iload 5, 2) := by decide +kernel
theorem dL_law_411 : decode cL_law 411 = .ok (.ifCond .ne 15, 3) := by decide +kernel
theorem dL_law_414 : decode cL_law 414 = .ok (.aload_n 3, 1) := by decide +kernel
theorem dL_law_415 : decode cL_law 415 = .ok (.iconst 0, 1) := by decide +kernel
theorem dL_law_416 : decode cL_law 416 = .ok (.laload, 1) := by decide +kernel
theorem dL_law_417 : decode cL_law 417 = .ok (.iload 6, 2) := by decide +kernel
theorem dL_law_419 : decode cL_law 419 = .ok (.i2l, 1) := by decide +kernel
theorem dL_law_420 : decode cL_law 420 = .ok (.lcmp, 1) := by decide +kernel
theorem dL_law_421 : decode cL_law 421 = .ok (.ifCond .eq 5, 3) := by decide +kernel
theorem dL_law_424 : decode cL_law 424 = .ok (.iconst 0, 1) := by decide +kernel
theorem dL_law_425 : decode cL_law 425 = .ok (.ireturn, 1) := by decide +kernel
theorem dL_law_426 : decode cL_law 426 = .ok (.goto 29, 3) := by decide +kernel
theorem dL_law_429 : decode cL_law 429 = .ok (.aload_n 1, 1) := by decide +kernel
theorem dL_law_430 : decode cL_law 430 = .ok (.invokevirtual 74, 3) := by decide +kernel
theorem dL_law_433 : decode cL_law 433 = .ok (.aload_n 2, 1) := by decide +kernel
theorem dL_law_434 : decode cL_law 434 = .ok (.invokevirtual 77, 3) := by decide +kernel
theorem dL_law_437 : decode cL_law 437 = .ok (.if_icmp .eq 18, 3) := by decide +kernel
theorem dL_law_440 : decode cL_law 440 = .ok (.iconst 0, 1) := by decide +kernel
theorem dL_law_441 : decode cL_law 441 = .ok (.ireturn, 1) := by decide +kernel
theorem dL_law_442 : decode cL_law 442 = .ok (.aload_n 1, 1) := by decide +kernel
theorem dL_law_443 : decode cL_law 443 = .ok (.invokevirtual 78, 3) := by decide +kernel
theorem dL_law_446 : decode cL_law 446 = .ok (.aload_n 2, 1) := by decide +kernel
theorem dL_law_447 : decode cL_law 447 = .ok (.invokevirtual 81, 3) := by decide +kernel
theorem dL_law_450 : decode cL_law 450 = .ok (.if_icmp .eq 5, 3) := by decide +kernel
theorem dL_law_453 : decode cL_law 453 = .ok (.iconst 0, 1) := by decide +kernel
theorem dL_law_454 : decode cL_law 454 = .ok (.ireturn, 1) := by decide +kernel
theorem dL_law_455 : decode cL_law 455 = .ok (.iinc 4 4, 3) := by decide +kernel
theorem dL_law_458 : decode cL_law 458 = .ok (.goto (-425), 3) := by decide +kernel
theorem dL_law_461 : decode cL_law 461 = .ok (.iconst 1, 1) := by decide +kernel
theorem dL_law_462 : decode cL_law 462 = .ok (.ireturn, 1) := by decide +kernel
abbrev vwCl : List vw_C := [(RJx00060, TJx00060, 6), (RX0, TX0, 5), (RX1, TX1, 7), (RX2, TX2, 12)]
end
section
/-! 02: my own rows over the kit's: branches in whole numbers, reads and writes as one row a call, a method's head and end -/
/-- a byte as the byte arrays hold it -/
def bb (x : Nat) : Int32 := (nI x).toInt8.toInt32
theorem bb_and {x : Nat} (h : x < 256) : bb x &&& nI 255 = nI x := sc_k8 x h
theorem bb_8 (x : Nat) : (bb x).toInt8.toInt32 = bb x := pk_vb (nI x)
theorem bb_n (x : Nat) : vp_nar .byte (bb x) = bb x := pk_vb (nI x)
theorem bb_0 : bb 0 = 0 := by decide +kernel
/-- the arrays' words of a world: bytes, ints -/
abbrev ty2 (cB cI : ClassId) : List (ClassId × FieldType) := [(cB, .byte), (cI, .int)]
theorem map_fm {α : Type} {w w' : List α} : ∀ {is : List Nat}, is.map (fun i => w[i]?) = w'.map some → is.filterMap (fun i => w[i]?) = w' := by
  intro is
  induction is generalizing w' with
  | nil => intro h; cases w' with
    | nil => rfl
    | cons a t => simp at h
  | cons i is ih => intro h; cases w' with
    | nil => simp at h
    | cons a t =>
      simp only [List.map_cons, List.cons.injEq] at h
      rw [List.filterMap_cons, h.1]
      simp only [ih h.2]
/-- a read's start -/
def rP (av : List Value) (D : va_G) (w : va_W) (tys : List (ClassId × FieldType)) : Array Value → State → Prop := va_Pc av (fun U => va_P D vwCl w U.heap ∧ va_K D vwCl tys U)
theorem rP_blind {av : List Value} {D : va_G} {w : va_W} {tys : List (ClassId × FieldType)} : FrameBlind (rP av D w tys) := by
  intro a U g mk q
  obtain ⟨q0, qP, qK⟩ := q
  exact ⟨q0, qP, va_K.moved (u := U) (U := U.calling g mk a) (Vm.Alike.refl U.vm) qK⟩
/-- a write's start and end -/
def wP (av : List Value) (D : va_G) (w : va_W) (tys : List (ClassId × FieldType)) (sz : Nat) : Array Value → State → Prop := va_Pc av (fun U => U.heap.size = sz ∧ va_P D vwCl w U.heap ∧ va_K D vwCl tys U ∧ va_D (fun _ => True) w)
theorem wP_blind {av : List Value} {D : va_G} {w : va_W} {tys : List (ClassId × FieldType)} {sz : Nat} : FrameBlind (wP av D w tys sz) := by
  intro a U g mk q
  obtain ⟨q0, q1, qP, qK, qD⟩ := q
  exact ⟨q0, q1, qP, va_K.moved (u := U) (U := U.calling g mk a) (Vm.Alike.refl U.vm) qK, qD⟩
def wB (D : va_G) (w1 : va_W) (A : Nat → Prop) : Unit → State → Prop := fun _ t => va_P D vwCl w1 t.heap ∧ va_D A w1
def wQv (D : va_G) (w1 : va_W) (A : Nat → Prop) : Array Value → State → Outcome → State → Prop := va_Qv (fun _ : Unit => True) (wB D w1 A) A
def wQi (r : Int32) (D : va_G) (w1 : va_W) (A : Nat → Prop) : Array Value → State → Outcome → State → Prop := va_Qi (fun (x : Int32) (_ : Unit) => x = r) (wB D w1 A) A
section MB
variable {p : Program} {l : Launch} {e : Env} {R : Room} {s : State} {m : MethodId} {args : Array Value} {below : List Frame} {meth : Method} {c : Code} {H : Heap} {locs : List Loc} {cells slots : Nat} {Q : State → Prop}
variable {cc : ByteArray} {pc : Nat} {ls : Array Slot} {rest : List Value}
theorem lv_as {x y : Int32} (h : x = y) (k : W p l e R s m args below meth c H locs cells slots Q (F0 m pc ls (.int y :: rest))) : W p l e R s m args below meth c H locs cells slots Q (F0 m pc ls (.int x :: rest)) := by rw [h]; exact k
variable {x y : Int32} {off : Int} {tgt : Nat} {a b : Int}
theorem jb_lt (hexec : p.tables.exec = Jvm.exec) (hb : c.code = cc) (hx : x.toInt = a) (hy : y.toInt = b) (hdg : decode cc pc = .ok (.if_icmp .lt off, 3)) (ht : (pc : Int) + off = (tgt : Int)) (kt : a < b → W p l e R s m args below meth c H locs cells slots Q (F0 m tgt ls rest)) (kf : ¬ a < b → W p l e R s m args below meth c H locs cells slots Q (F0 m (pc + 3) ls rest)) : W p l e R s m args below meth c H locs cells slots Q (F0 m pc ls (.int y :: .int x :: rest)) := by
  subst hx; subst hy
  exact lv_icmp_lt hexec hb hdg ht (fun h => kt (Int32.lt_iff_toInt_lt.mp h)) (fun h => kf (fun q => h (Int32.lt_iff_toInt_lt.mpr q)))
theorem jb_ge (hexec : p.tables.exec = Jvm.exec) (hb : c.code = cc) (hx : x.toInt = a) (hy : y.toInt = b) (hdg : decode cc pc = .ok (.if_icmp .ge off, 3)) (ht : (pc : Int) + off = (tgt : Int)) (kt : b ≤ a → W p l e R s m args below meth c H locs cells slots Q (F0 m tgt ls rest)) (kf : ¬ b ≤ a → W p l e R s m args below meth c H locs cells slots Q (F0 m (pc + 3) ls rest)) : W p l e R s m args below meth c H locs cells slots Q (F0 m pc ls (.int y :: .int x :: rest)) := by
  subst hx; subst hy
  exact lv_icmp_ge hexec hb hdg ht (fun h => kt (Int32.le_iff_toInt_le.mp h)) (fun h => kf (fun q => h (Int32.le_iff_toInt_le.mpr q)))
theorem jb_gt (hexec : p.tables.exec = Jvm.exec) (hb : c.code = cc) (hx : x.toInt = a) (hy : y.toInt = b) (hdg : decode cc pc = .ok (.if_icmp .gt off, 3)) (ht : (pc : Int) + off = (tgt : Int)) (kt : b < a → W p l e R s m args below meth c H locs cells slots Q (F0 m tgt ls rest)) (kf : ¬ b < a → W p l e R s m args below meth c H locs cells slots Q (F0 m (pc + 3) ls rest)) : W p l e R s m args below meth c H locs cells slots Q (F0 m pc ls (.int y :: .int x :: rest)) := by
  subst hx; subst hy
  exact lv_icmp_gt hexec hb hdg ht (fun h => kt (Int32.lt_iff_toInt_lt.mp h)) (fun h => kf (fun q => h (Int32.lt_iff_toInt_lt.mpr q)))
theorem jb_le (hexec : p.tables.exec = Jvm.exec) (hb : c.code = cc) (hx : x.toInt = a) (hy : y.toInt = b) (hdg : decode cc pc = .ok (.if_icmp .le off, 3)) (ht : (pc : Int) + off = (tgt : Int)) (kt : a ≤ b → W p l e R s m args below meth c H locs cells slots Q (F0 m tgt ls rest)) (kf : ¬ a ≤ b → W p l e R s m args below meth c H locs cells slots Q (F0 m (pc + 3) ls rest)) : W p l e R s m args below meth c H locs cells slots Q (F0 m pc ls (.int y :: .int x :: rest)) := by
  subst hx; subst hy
  exact lv_icmp_le hexec hb hdg ht (fun h => kt (Int32.le_iff_toInt_le.mp h)) (fun h => kf (fun q => h (Int32.le_iff_toInt_le.mpr q)))
theorem jb_eq (hexec : p.tables.exec = Jvm.exec) (hb : c.code = cc) (hx : x.toInt = a) (hy : y.toInt = b) (hdg : decode cc pc = .ok (.if_icmp .eq off, 3)) (ht : (pc : Int) + off = (tgt : Int)) (kt : a = b → W p l e R s m args below meth c H locs cells slots Q (F0 m tgt ls rest)) (kf : ¬ a = b → W p l e R s m args below meth c H locs cells slots Q (F0 m (pc + 3) ls rest)) : W p l e R s m args below meth c H locs cells slots Q (F0 m pc ls (.int y :: .int x :: rest)) := by
  subst hx; subst hy
  exact lv_icmp_eq hexec hb hdg ht (fun h => kt (by rw [h])) (fun h => kf (fun q => h (Int32.toInt_inj.mp q)))
theorem jb_ne (hexec : p.tables.exec = Jvm.exec) (hb : c.code = cc) (hx : x.toInt = a) (hy : y.toInt = b) (hdg : decode cc pc = .ok (.if_icmp .ne off, 3)) (ht : (pc : Int) + off = (tgt : Int)) (kt : ¬ a = b → W p l e R s m args below meth c H locs cells slots Q (F0 m tgt ls rest)) (kf : a = b → W p l e R s m args below meth c H locs cells slots Q (F0 m (pc + 3) ls rest)) : W p l e R s m args below meth c H locs cells slots Q (F0 m pc ls (.int y :: .int x :: rest)) := by
  subst hx; subst hy
  exact lv_icmp_ne hexec hb hdg ht (fun h => kt (fun q => h (Int32.toInt_inj.mp q))) (fun h => kf (by rw [h]))
theorem j0_lt (hexec : p.tables.exec = Jvm.exec) (hb : c.code = cc) (hx : x.toInt = a) (hdg : decode cc pc = .ok (.ifCond .lt off, 3)) (ht : (pc : Int) + off = (tgt : Int)) (kt : a < 0 → W p l e R s m args below meth c H locs cells slots Q (F0 m tgt ls rest)) (kf : ¬ a < 0 → W p l e R s m args below meth c H locs cells slots Q (F0 m (pc + 3) ls rest)) : W p l e R s m args below meth c H locs cells slots Q (F0 m pc ls (.int x :: rest)) := by
  subst hx
  exact lv_if_lt hexec hb hdg ht (fun h => kt (Int32.lt_iff_toInt_lt.mp h)) (fun h => kf (fun q => h (Int32.lt_iff_toInt_lt.mpr q)))
theorem j0_ge (hexec : p.tables.exec = Jvm.exec) (hb : c.code = cc) (hx : x.toInt = a) (hdg : decode cc pc = .ok (.ifCond .ge off, 3)) (ht : (pc : Int) + off = (tgt : Int)) (kt : 0 ≤ a → W p l e R s m args below meth c H locs cells slots Q (F0 m tgt ls rest)) (kf : ¬ 0 ≤ a → W p l e R s m args below meth c H locs cells slots Q (F0 m (pc + 3) ls rest)) : W p l e R s m args below meth c H locs cells slots Q (F0 m pc ls (.int x :: rest)) := by
  subst hx
  exact lv_if_ge hexec hb hdg ht (fun h => kt (Int32.le_iff_toInt_le.mp h)) (fun h => kf (fun q => h (Int32.le_iff_toInt_le.mpr q)))
theorem j0_eq (hexec : p.tables.exec = Jvm.exec) (hb : c.code = cc) (hx : x.toInt = a) (hdg : decode cc pc = .ok (.ifCond .eq off, 3)) (ht : (pc : Int) + off = (tgt : Int)) (kt : a = 0 → W p l e R s m args below meth c H locs cells slots Q (F0 m tgt ls rest)) (kf : ¬ a = 0 → W p l e R s m args below meth c H locs cells slots Q (F0 m (pc + 3) ls rest)) : W p l e R s m args below meth c H locs cells slots Q (F0 m pc ls (.int x :: rest)) := by
  subst hx
  exact lv_if_eq hexec hb hdg ht (fun h => kt (by rw [h]; rfl)) (fun h => kf (fun q => h (Int32.toInt_inj.mp q)))
theorem j0_ne (hexec : p.tables.exec = Jvm.exec) (hb : c.code = cc) (hx : x.toInt = a) (hdg : decode cc pc = .ok (.ifCond .ne off, 3)) (ht : (pc : Int) + off = (tgt : Int)) (kt : ¬ a = 0 → W p l e R s m args below meth c H locs cells slots Q (F0 m tgt ls rest)) (kf : a = 0 → W p l e R s m args below meth c H locs cells slots Q (F0 m (pc + 3) ls rest)) : W p l e R s m args below meth c H locs cells slots Q (F0 m pc ls (.int x :: rest)) := by
  subst hx
  exact lv_if_ne hexec hb hdg ht (fun h => kt (fun q => h (Int32.toInt_inj.mp q))) (fun h => kf (by rw [h]; rfl))
end MB
section MC
variable {p : Program} {l : Launch} {e : Env} {R : Room} {s : State} {m : MethodId} {args : Array Value} {below : List Frame} {meth : Method} {c : Code} {H : Heap} {locs : List Loc} {cells slots : Nat} {Q : State → Prop}
variable {y : MethodName} {bytes cc : ByteArray} {maxL nL n index pc : Nat} {ret : Option FieldType} {ws : List Cond} {rm : Room} {Ts : List Cond} {own C : String} {b : Addr} {As rest st0 : List Value} {ls : Array Slot} {D : va_G} {w wc wr w1 wo : va_W} {tys : List (ClassId × FieldType)} {A : Nat → Prop}
/-- a read by a method of an object -/
theorem rd_V {post : Int32 → Prop} (S : CallFix p m c cc nL s args Ts own) (hM : Met l y ws rm (rP (.ref b :: As) D wc tys) (vp_Si post) 0 0 (fun _ => False)) (cw : CallW R s args own C index y bytes maxL ret ws rm 0 0 n)
    (hK : va_K D vwCl tys s) (hP : va_P D vwCl w H) (isC : List Nat) (hC : isC.map (fun i => w[i]?) = wc.map some) {ci q0 : Nat} {q : vw_C} {fs : List Value} (hc : vwCl[ci]? = some q) (hq : q.1 = C) (he : w[q0]? = some (b, .inr (ci, fs)))
    (hn : As.length = n) (hsize : ls.size = nL) (hstack : st0 = As.reverse ++ .ref b :: rest) (hW : (rest.map fun v => v.category).sum ≤ 8) (hdg : decode cc pc = .ok (.invokevirtual index, 3)) (hf : cells ≤ R.cells ∧ slots ≤ R.slots)
    (kk : ∀ r : Int32, post r → W p l e R s m args below meth c H locs cells slots Q (F0 m (pc + 3) ls (.int r :: rest))) : W p l e R s m args below meth c H locs cells slots Q (F0 m pc ls st0) := by
  subst hq
  exact vp_callSi (W.runV S hM cw ⟨rP_blind, va_recv hK hP hc he, fun U hU hW => ⟨rfl, by rw [hU]; exact hP.sub isC (map_fm hC), va_K.moved hW.alike hK⟩⟩ rfl hn hsize hstack (lv_room hW) hdg hf) kk
/-- a read by a static method -/
theorem rd_S {post : Int32 → Prop} (S : CallFix p m c cc nL s args Ts own) (hM : Met l y ws rm (rP As D wc tys) (vp_Si post) 0 0 (fun _ => False)) (cw : CallB R s args own index y bytes maxL ret ws rm 0 0 n ∧ (Cond.static y).before args s = true)
    (hK : va_K D vwCl tys s) (hP : va_P D vwCl w H) (isC : List Nat) (hC : isC.map (fun i => w[i]?) = wc.map some)
    (hn : As.length = n) (hsize : ls.size = nL) (hstack : st0 = As.reverse ++ rest) (hW : (rest.map fun v => v.category).sum ≤ 8) (hdg : decode cc pc = .ok (.invokestatic index, 3)) (hf : cells ≤ R.cells ∧ slots ≤ R.slots)
    (kk : ∀ r : Int32, post r → W p l e R s m args below meth c H locs cells slots Q (F0 m (pc + 3) ls (.int r :: rest))) : W p l e R s m args below meth c H locs cells slots Q (F0 m pc ls st0) :=
  vp_callSi (W.runS S hM cw ⟨rP_blind, fun U hU hW => ⟨rfl, by rw [hU]; exact hP.sub isC (map_fm hC), va_K.moved hW.alike hK⟩⟩ rfl hn hsize hstack (lv_room hW) hdg hf) kk
/-- a write by a method of an object, no answer -/
theorem wr_V (S : CallFix p m c cc nL s args Ts own) (hM : Met l y ws rm (wP (.ref b :: As) D wc tys H.size) (wQv D w1 (va_A wc H.size)) 0 0 (va_A wc H.size)) (cw : CallW R s args own C index y bytes maxL ret ws rm 0 0 n)
    (hK : va_K D vwCl tys s) (hP : va_P D vwCl w H) (hD : va_D A w) (hS : va_S A s.heap H locs) (hA : ∀ q : Nat, s.heap.size ≤ q → A q) (isC isR : List Nat) (hC : isC.map (fun i => w[i]?) = wc.map some) (hcn : va_nd isC = true) (hR : isR.map (fun i => w[i]?) = wr.map some) (hn1 : va_nd isR = true) (hdis : ∀ i ∈ isR, i ∉ isC)
    (pm : List Nat) (hpm : pm.map (fun i => (wr ++ w1)[i]?) = wo.map some) (hpn : va_nd pm = true) {ci q0 : Nat} {q : vw_C} {fs : List Value} (hc : vwCl[ci]? = some q) (hq : q.1 = C) (he : w[q0]? = some (b, .inr (ci, fs)))
    (hn : As.length = n) (hsize : ls.size = nL) (hstack : st0 = As.reverse ++ .ref b :: rest) (hW : (rest.map fun v => v.category).sum ≤ 8) (hdg : decode cc pc = .ok (.invokevirtual index, 3)) (hf : cells ≤ R.cells ∧ slots ≤ R.slots)
    (kk : ∀ (H1 : Heap) (locs1 : List Loc), va_P D vwCl wo H1 → va_D A wo → va_S A s.heap H1 locs1 → W p l e R s m args below meth c H1 locs1 cells slots Q (F0 m (pc + 3) ls rest)) : W p l e R s m args below meth c H locs cells slots Q (F0 m pc ls st0) := by
  subst hq
  have hFc := va_free (wc := wc) hD hS hA isC hC
  refine va_callv (va_runV S hM cw ⟨wP_blind, va_recv hK hP hc he, fun U hU hW => ⟨rfl, by rw [hU], by rw [hU]; exact hP.sub isC (map_fm hC), va_K.moved hW.alike hK, (hD.sub isC hcn hC).weaken (fun _ _ _ _ => trivial)⟩⟩ rfl hn hsize hstack (lv_room hW) hdg hf) hS (fun q _ h => hFc q h) hFc (fun u t H1 locs1 ht hvm hw hB hz1 hk1 hS1 => ?_)
  obtain ⟨hP1, hD1⟩ := hB
  rw [ht] at hP1
  obtain ⟨hP2, hD2⟩ := va_join hP hD isC isR hC hR hn1 hdis hk1 hFc hP1 hD1
  exact kk H1 locs1 (hP2.sub pm (map_fm hpm)) (hD2.sub pm hpn hpm) hS1
/-- a write by a method of an object, with an int for an answer -/
theorem wr_Vi {r : Int32} (S : CallFix p m c cc nL s args Ts own) (hM : Met l y ws rm (wP (.ref b :: As) D wc tys H.size) (wQi r D w1 (va_A wc H.size)) 0 0 (va_A wc H.size)) (cw : CallW R s args own C index y bytes maxL ret ws rm 0 0 n)
    (hK : va_K D vwCl tys s) (hP : va_P D vwCl w H) (hD : va_D A w) (hS : va_S A s.heap H locs) (hA : ∀ q : Nat, s.heap.size ≤ q → A q) (isC isR : List Nat) (hC : isC.map (fun i => w[i]?) = wc.map some) (hcn : va_nd isC = true) (hR : isR.map (fun i => w[i]?) = wr.map some) (hn1 : va_nd isR = true) (hdis : ∀ i ∈ isR, i ∉ isC)
    (pm : List Nat) (hpm : pm.map (fun i => (wr ++ w1)[i]?) = wo.map some) (hpn : va_nd pm = true) {ci q0 : Nat} {q : vw_C} {fs : List Value} (hc : vwCl[ci]? = some q) (hq : q.1 = C) (he : w[q0]? = some (b, .inr (ci, fs)))
    (hn : As.length = n) (hsize : ls.size = nL) (hstack : st0 = As.reverse ++ .ref b :: rest) (hW : (rest.map fun v => v.category).sum ≤ 8) (hdg : decode cc pc = .ok (.invokevirtual index, 3)) (hf : cells ≤ R.cells ∧ slots ≤ R.slots)
    (kk : ∀ (H1 : Heap) (locs1 : List Loc), va_P D vwCl wo H1 → va_D A wo → va_S A s.heap H1 locs1 → W p l e R s m args below meth c H1 locs1 cells slots Q (F0 m (pc + 3) ls (.int r :: rest))) : W p l e R s m args below meth c H locs cells slots Q (F0 m pc ls st0) := by
  subst hq
  have hFc := va_free (wc := wc) hD hS hA isC hC
  refine va_calli (va_runV S hM cw ⟨wP_blind, va_recv hK hP hc he, fun U hU hW => ⟨rfl, by rw [hU], by rw [hU]; exact hP.sub isC (map_fm hC), va_K.moved hW.alike hK, (hD.sub isC hcn hC).weaken (fun _ _ _ _ => trivial)⟩⟩ rfl hn hsize hstack (lv_room hW) hdg hf) hS (fun q _ h => hFc q h) hFc (fun x u t H1 locs1 ht hvm hw hB hz1 hk1 hS1 => ?_)
  subst hw
  obtain ⟨hP1, hD1⟩ := hB
  rw [ht] at hP1
  obtain ⟨hP2, hD2⟩ := va_join hP hD isC isR hC hR hn1 hdis hk1 hFc hP1 hD1
  exact kk H1 locs1 (hP2.sub pm (map_fm hpm)) (hD2.sub pm hpn hpm) hS1
/-- ends -/
theorem rt_i {post : Int32 → Prop} {v : Int32} (hx : p.tables.exec = Jvm.exec) (hb : c.code = cc) (hr : meth.sig.returnType = some .int) (hlocks : meth.locks = false) (hdg : decode cc pc = .ok (.ireturn, 1)) (hp : post v) : W p l e R s m args below meth c s.heap [] 0 0 (MQ below (vp_Si post) args s 0 0 (fun _ => False)) (F0 m pc ls [.int v]) :=
  W.iret hx hb hr (fun t ht _ => ⟨_, rfl, hp, ht⟩) (fun q h => absurd h List.not_mem_nil) hdg hlocks
theorem rt_z {post : Int32 → Prop} {v : Int32} (hx : p.tables.exec = Jvm.exec) (hb : c.code = cc) (hr : meth.sig.returnType = some .boolean) (hlocks : meth.locks = false) (hdg : decode cc pc = .ok (.ireturn, 1)) (hn : narrow .boolean (.int v) = .int v) (hp : post v) : W p l e R s m args below meth c s.heap [] 0 0 (MQ below (vp_Si post) args s 0 0 (fun _ => False)) (F0 m pc ls [.int v]) :=
  W.zret hx hb hr hn (fun t ht _ => ⟨_, rfl, hp, ht⟩) (fun q h => absurd h List.not_mem_nil) hdg hlocks
theorem rt_v (hx : p.tables.exec = Jvm.exec) (hb : c.code = cc) (hr : meth.sig.returnType = none) (hlocks : meth.locks = false) (hP : va_P D vwCl w1 H) (hD : va_D A w1) (hS : va_S A s.heap H locs) (hdg : decode cc pc = .ok (.return_, 1)) : W p l e R s m args below meth c H locs 0 0 (MQ below (wQv D w1 A) args s 0 0 A) (F0 m pc ls []) :=
  W.vret hx hb hr (fun t ht _ => ⟨⟨(), rfl, trivial, by rw [ht]; exact hP, hD⟩, hS.F ht⟩) hS.2.2 hdg hlocks
theorem rt_wi {v r : Int32} (hx : p.tables.exec = Jvm.exec) (hb : c.code = cc) (hr : meth.sig.returnType = some .int) (hlocks : meth.locks = false) (hP : va_P D vwCl w1 H) (hD : va_D A w1) (hS : va_S A s.heap H locs) (hdg : decode cc pc = .ok (.ireturn, 1)) (hv : v = r) : W p l e R s m args below meth c H locs 0 0 (MQ below (wQi r D w1 A) args s 0 0 A) (F0 m pc ls [.int v]) :=
  W.iret hx hb hr (fun t ht _ => ⟨⟨v, (), rfl, hv, by rw [ht]; exact hP, hD⟩, hS.F ht⟩) hS.2.2 hdg hlocks
theorem rt_wz {v r : Int32} (hx : p.tables.exec = Jvm.exec) (hb : c.code = cc) (hr : meth.sig.returnType = some .boolean) (hlocks : meth.locks = false) (hP : va_P D vwCl w1 H) (hD : va_D A w1) (hS : va_S A s.heap H locs) (hdg : decode cc pc = .ok (.ireturn, 1)) (hn : narrow .boolean (.int v) = .int v) (hv : v = r) : W p l e R s m args below meth c H locs 0 0 (MQ below (wQi r D w1 A) args s 0 0 A) (F0 m pc ls [.int v]) :=
  W.zret hx hb hr hn (fun t ht _ => ⟨⟨v, (), rfl, hv, by rw [ht]; exact hP, hD⟩, hS.F ht⟩) hS.2.2 hdg hlocks
end MC
/-- heads -/
theorem met_r {l : Launch} {y : MethodName} {ws ws' : List Cond} {rm : Room} {cc : ByteArray} {maxL : Nat} {ret : Option FieldType} {av : List Value} {D : va_G} {w : va_W} {tys : List (ClassId × FieldType)} {post : Int32 → Prop} (hy : plainName y.cls = true) (hw : ws = .code y cc maxL ret :: ws') (hlen : (lg_sl av).length ≤ maxL)
    (body : ∀ (p : Program) (e : Env) (s : State) (m : MethodId) (below : List Frame) (meth : Method) (c : Code), p.tables.exec = Jvm.exec → c.code = cc → c.maxLocals = maxL → meth.sig.returnType = ret → meth.locks = false → s.vm.findClass y.cls = some m.cls → (∀ x ∈ ws, x.before av.toArray s = true) → va_P D vwCl w s.heap → va_K D vwCl tys s → ∀ ls : Array Slot, lv_has ls maxL (lv_args 0 av) →
      W p l e rm s m av.toArray below meth c s.heap [] 0 0 (MQ below (vp_Si post) av.toArray s 0 0 (fun _ => False)) (F0 m 0 ls [])) : Met l y ws rm (rP av D w tys) (vp_Si post) 0 0 (fun _ => False) := by
  refine Met.ofW (cc := cc) (maxL := maxL) (ret := ret) hy hw ?_
  intro p e s m args below meth c s₁ B hml hv
  obtain ⟨rfl, hP, hK⟩ := hv
  have hl := lv_entry av hlen
  rw [lg_entry_eq]
  exact body p e s m below meth c B.exec B.bytes hml B.returns B.notSynchronized (findClass_of_methodNamed B.named) (atoms_spec (ws := ws) B.pre) hP hK _ hl
theorem met_w {l : Launch} {y : MethodName} {ws ws' : List Cond} {rm : Room} {cc : ByteArray} {maxL : Nat} {ret : Option FieldType} {av : List Value} {D : va_G} {w w1 : va_W} {tys : List (ClassId × FieldType)} {sz : Nat} (hy : plainName y.cls = true) (hw : ws = .code y cc maxL ret :: ws') (hlen : (lg_sl av).length ≤ maxL)
    (body : ∀ (p : Program) (e : Env) (s : State) (m : MethodId) (below : List Frame) (meth : Method) (c : Code), p.tables.exec = Jvm.exec → c.code = cc → c.maxLocals = maxL → meth.sig.returnType = ret → meth.locks = false → s.vm.findClass y.cls = some m.cls → (∀ x ∈ ws, x.before av.toArray s = true) → va_P D vwCl w s.heap → va_K D vwCl tys s → ∀ A : Nat → Prop, va_D A w → (∀ q : Nat, s.heap.size ≤ q → A q) → va_S A s.heap s.heap [] → ∀ ls : Array Slot, lv_has ls maxL (lv_args 0 av) →
      W p l e rm s m av.toArray below meth c s.heap [] 0 0 (MQ below (wQv D w1 A) av.toArray s 0 0 A) (F0 m 0 ls [])) : Met l y ws rm (wP av D w tys sz) (wQv D w1 (va_A w sz)) 0 0 (va_A w sz) := by
  refine Met.ofW (cc := cc) (maxL := maxL) (ret := ret) hy hw ?_
  intro p e s m args below meth c s₁ B hml hv
  obtain ⟨rfl, hsz, hP, hK, hD0⟩ := hv
  subst hsz
  have hl := lv_entry av hlen
  rw [lg_entry_eq]
  exact body p e s m below meth c B.exec B.bytes hml B.returns B.notSynchronized (findClass_of_methodNamed B.named) (atoms_spec (ws := ws) B.pre) hP hK _ (hD0.self (sz := s.heap.size)) (fun q h => Or.inr h) va_S.rf _ hl
theorem met_wi {l : Launch} {y : MethodName} {ws ws' : List Cond} {rm : Room} {cc : ByteArray} {maxL : Nat} {ret : Option FieldType} {av : List Value} {D : va_G} {w w1 : va_W} {tys : List (ClassId × FieldType)} {sz : Nat} {r : Int32} (hy : plainName y.cls = true) (hw : ws = .code y cc maxL ret :: ws') (hlen : (lg_sl av).length ≤ maxL)
    (body : ∀ (p : Program) (e : Env) (s : State) (m : MethodId) (below : List Frame) (meth : Method) (c : Code), p.tables.exec = Jvm.exec → c.code = cc → c.maxLocals = maxL → meth.sig.returnType = ret → meth.locks = false → s.vm.findClass y.cls = some m.cls → (∀ x ∈ ws, x.before av.toArray s = true) → va_P D vwCl w s.heap → va_K D vwCl tys s → ∀ A : Nat → Prop, va_D A w → (∀ q : Nat, s.heap.size ≤ q → A q) → va_S A s.heap s.heap [] → ∀ ls : Array Slot, lv_has ls maxL (lv_args 0 av) →
      W p l e rm s m av.toArray below meth c s.heap [] 0 0 (MQ below (wQi r D w1 A) av.toArray s 0 0 A) (F0 m 0 ls [])) : Met l y ws rm (wP av D w tys sz) (wQi r D w1 (va_A w sz)) 0 0 (va_A w sz) := by
  refine Met.ofW (cc := cc) (maxL := maxL) (ret := ret) hy hw ?_
  intro p e s m args below meth c s₁ B hml hv
  obtain ⟨rfl, hsz, hP, hK, hD0⟩ := hv
  subst hsz
  have hl := lv_entry av hlen
  rw [lg_entry_eq]
  exact body p e s m below meth c B.exec B.bytes hml B.returns B.notSynchronized (findClass_of_methodNamed B.named) (atoms_spec (ws := ws) B.pre) hP hK _ (hD0.self (sz := s.heap.size)) (fun q h => Or.inr h) va_S.rf _ hl
end
section
/-! 03: the worlds of the class and of the reference, in naturals -/
def aI (f : Nat → Nat) : Nat → Int32 := fun j => nI (f j)
def aB (f : Nat → Nat) : Nat → Int32 := fun j => bb (f j)
theorem upd_aI {f : Nat → Nat} {k x : Nat} : upd (aI f) k (nI x) = aI (va_up f k x) := by
  funext j; unfold upd aI va_up; split <;> rfl
theorem upd_aB {f : Nat → Nat} {k x : Nat} : upd (aB f) k (bb x) = aB (va_up f k x) := by
  funext j; unfold upd aB va_up; split <;> rfl
/-- a change's log: the bytes, the places written, what was there, how many -/
abbrev Lg : Type := (Nat → Nat) × (Nat → Nat) × (Nat → Nat) × Nat
/-- PuzzleBook$Store: n blocks, the bytes g, the latest change's places, former bytes and count -/
abbrev sW (h hb hc hf : Nat) (cB cI : ClassId) (n : Nat) (L : Lg) : va_W := [(h, .inr (1, [.int (nI n), .ref hb, .ref hc, .ref hf, .int (nI L.2.2.2)])), (hb, .inl (cB, 64 * n, .inl (aB L.1))), (hc, .inl (cI, 129, .inl (aI L.2.1))), (hf, .inl (cB, 129, .inl (aB L.2.2.1)))]
/-- PuzzleBook: its Store; what is fed; open or not; the turn; the entries' blocks -/
abbrev bW (h0 h1 h2 h hb hc hf : Nat) (cB cI : ClassId) (n : Nat) (L : Lg) (fd : Nat → Nat) (fc op tn : Nat) (eb : Nat → Nat) (ec : Nat) : va_W := [(h0, .inr (2, [.ref h, .ref h1, .int (nI fc), .int (nI op), .int (nI tn), .ref h2, .int (nI ec)])), (h1, .inl (cI, 48, .inl (aI fd))), (h2, .inl (cI, 40, .inl (aI eb))), (h, .inr (1, [.int (nI n), .ref hb, .ref hc, .ref hf, .int (nI L.2.2.2)])), (hb, .inl (cB, 64 * n, .inl (aB L.1))), (hc, .inl (cI, 129, .inl (aI L.2.1))), (hf, .inl (cB, 129, .inl (aB L.2.2.1)))]
/-- PuzzleBookModel -/
abbrev mW (m0 m1 m2 m3 m4 m5 : Nat) (_cB cI : ClassId) (n : Nat) (L : Lg) (fd : Nat → Nat) (fc op tn : Nat) (eb : Nat → Nat) (ec th : Nat) : va_W := [(m0, .inr (3, [.int (nI n), .ref m1, .int (nI op), .int (nI tn), .int (nI ec), .int (nI th), .ref m2, .ref m3, .int (nI fc), .ref m4, .ref m5, .int (nI L.2.2.2)])), (m1, .inl (cI, 4096, .inl (aI L.1))), (m2, .inl (cI, 40, .inl (aI eb))), (m3, .inl (cI, 48, .inl (aI fd))), (m4, .inl (cI, 129, .inl (aI L.2.1))), (m5, .inl (cI, 129, .inl (aI L.2.2.1)))]
section MA
variable {p : Program} {l : Launch} {e : Env} {R : Room} {s : State} {m : MethodId} {args : Array Value} {below : List Frame} {meth : Method} {c : Code} {H H0 : Heap} {locs : List Loc} {cells slots : Nat} {Q : State → Prop}
variable {cc : ByteArray} {pc : Nat} {ls : Array Slot} {rest : List Value} {D : va_G} {tys : List (ClassId × FieldType)} {ws : va_W} {A : Nat → Prop} {a : Nat} {cA : ClassId} {n : Nat} {f : Nat → Nat} {k x : Nat}
theorem ld_i (hexec : p.tables.exec = Jvm.exec) (hb : c.code = cc) (hK : va_K D vwCl tys s) (hP : va_P D vwCl ws H) (q0 t0 : Nat) (ha : ws[q0]? = some (a, .inl (cA, n, .inl (aI f)))) (ht : tys[t0]? = some (cA, .int)) (hk : k < n) (hn : n < 2 ^ 31) (hdg : decode cc pc = .ok (.iaload, 1))
    (kk : W p l e R s m args below meth c H locs cells slots Q (F0 m (pc + 1) ls (.int (nI (f k)) :: rest))) : W p l e R s m args below meth c H locs cells slots Q (F0 m pc ls (.int (nI k) :: .ref a :: rest)) := by
  refine va_iald hexec hb hK hP q0 t0 ha ht (vp_in_nI hk hn) hdg ?_
  rw [nI_clamp (by omega)]
  exact kk
theorem ld_b (hexec : p.tables.exec = Jvm.exec) (hb : c.code = cc) (hK : va_K D vwCl tys s) (hP : va_P D vwCl ws H) (q0 t0 : Nat) (ha : ws[q0]? = some (a, .inl (cA, n, .inl (aB f)))) (ht : tys[t0]? = some (cA, .byte)) (hk : k < n) (hn : n < 2 ^ 31) (hdg : decode cc pc = .ok (.baload, 1))
    (kk : W p l e R s m args below meth c H locs cells slots Q (F0 m (pc + 1) ls (.int (bb (f k)) :: rest))) : W p l e R s m args below meth c H locs cells slots Q (F0 m pc ls (.int (nI k) :: .ref a :: rest)) := by
  refine va_bald hexec hb hK hP q0 t0 ha ht (vp_in_nI hk hn) hdg ?_
  rw [nI_clamp (by omega)]
  exact kk
theorem st_i (hexec : p.tables.exec = Jvm.exec) (hb : c.code = cc) (hK : va_K D vwCl tys s) (hP : va_P D vwCl ws H) (hD : va_D A ws) (hS : va_S A H0 H locs) (q0 t0 : Nat) (ha : ws[q0]? = some (a, .inl (cA, n, .inl (aI f)))) (ht : tys[t0]? = some (cA, .int)) (hk : k < n) (hn : n < 2 ^ 31) (hdg : decode cc pc = .ok (.iastore, 1))
    (kk : ∀ (H1 : Heap) (locs1 : List Loc), va_P D vwCl (ws.set q0 (a, .inl (cA, n, .inl (aI (va_up f k x))))) H1 → va_D A (ws.set q0 (a, .inl (cA, n, .inl (aI (va_up f k x))))) → va_S A H0 H1 locs1 → W p l e R s m args below meth c H1 locs1 cells slots Q (F0 m (pc + 1) ls rest)) : W p l e R s m args below meth c H locs cells slots Q (F0 m pc ls (.int (nI x) :: .int (nI k) :: .ref a :: rest)) := by
  refine va_iast hexec hb hK hP hD hS q0 t0 ha ht (vp_in_nI hk hn) hdg (fun H1 locs1 => ?_)
  rw [nI_clamp (by omega), upd_aI]
  exact kk H1 locs1
theorem st_b {v : Int32} (hexec : p.tables.exec = Jvm.exec) (hb : c.code = cc) (hK : va_K D vwCl tys s) (hP : va_P D vwCl ws H) (hD : va_D A ws) (hS : va_S A H0 H locs) (q0 t0 : Nat) (ha : ws[q0]? = some (a, .inl (cA, n, .inl (aB f)))) (ht : tys[t0]? = some (cA, .byte)) (hk : k < n) (hn : n < 2 ^ 31) (hv : vp_nar .byte v = bb x) (hdg : decode cc pc = .ok (.bastore, 1))
    (kk : ∀ (H1 : Heap) (locs1 : List Loc), va_P D vwCl (ws.set q0 (a, .inl (cA, n, .inl (aB (va_up f k x))))) H1 → va_D A (ws.set q0 (a, .inl (cA, n, .inl (aB (va_up f k x))))) → va_S A H0 H1 locs1 → W p l e R s m args below meth c H1 locs1 cells slots Q (F0 m (pc + 1) ls rest)) : W p l e R s m args below meth c H locs cells slots Q (F0 m pc ls (.int v :: .int (nI k) :: .ref a :: rest)) := by
  refine va_bast hexec hb hK hP hD hS q0 t0 ha ht (vp_in_nI hk hn) hdg (fun H1 locs1 => ?_)
  rw [nI_clamp (by omega), hv, upd_aB]
  exact kk H1 locs1
theorem al_i {a0 : (Nat → Int32) ⊕ (Nat → Int64) ⊕ (Nat → UInt32) ⊕ (Nat → UInt64) ⊕ (Nat → Option Nat)} {ty : FieldType} (hexec : p.tables.exec = Jvm.exec) (hb : c.code = cc) (hK : va_K D vwCl tys s) (hP : va_P D vwCl ws H) (q0 t0 : Nat) (ha : ws[q0]? = some (a, .inl (cA, n, a0))) (ht : tys[t0]? = some (cA, ty)) (hdg : decode cc pc = .ok (.arraylength, 1))
    (kk : W p l e R s m args below meth c H locs cells slots Q (F0 m (pc + 1) ls (.int (nI n) :: rest))) : W p l e R s m args below meth c H locs cells slots Q (F0 m pc ls (.ref a :: rest)) := by
  exact va_alen hexec hb hK hP q0 t0 ha ht rfl hdg kk
end MA
end
section
/-! 04: the sum, the log, in naturals -/
def mixS (s : Int32) (x : Nat) : Int32 := (((s ^^^ nI x) <<< (nI 17 &&& 31)) ||| (((s ^^^ nI x).toUInt32 >>> ((nI 15).toUInt32 &&& Int32.toUInt32 31)).toInt32)) * (-2048144789)
/-- the sum over the first k bytes from the place p on -/
def smS (g : Nat → Nat) (p : Nat) : Nat → Int32
  | 0 => 1
  | k + 1 => mixS (smS g p k) (g (p + k))
/-- byte k of a sum -/
def sby (s : Int32) (k : Nat) : Nat := s.toBitVec.toNat / 2 ^ (8 * k) % 256
theorem sby_lt (s : Int32) (k : Nat) : sby s k < 256 := Nat.mod_lt _ (by decide)
/-- the block at the place p has its sum -/
def okS (g : Nat → Nat) (p : Nat) : Prop := ∀ k, k < 4 → g (p + 60 + k) = sby (smS g p 60) k
/-- one byte written -/
def w1 (L : Lg) (pl x : Nat) : Lg := (va_up L.1 pl x, va_up L.2.1 L.2.2.2 pl, va_up L.2.2.1 L.2.2.2 (L.1 pl), L.2.2.2 + 1)
/-- k bytes written from a place on -/
def wN (L : Lg) (base : Nat) (v : Nat → Nat) : Nat → Lg
  | 0 => L
  | k + 1 => w1 (wN L base v k) (base + k) (v k)
def wS (L : Lg) (p : Nat) : Lg := wN L (p + 60) (sby (smS L.1 p 60)) 4
/-- a new change begins -/
def w0 (L : Lg) : Lg := (L.1, L.2.1, L.2.2.1, 0)
theorem wN_c (L : Lg) (base : Nat) (v : Nat → Nat) : ∀ k, (wN L base v k).2.2.2 = L.2.2.2 + k
  | 0 => rfl
  | k + 1 => by show (wN L base v k).2.2.2 + 1 = _; rw [wN_c L base v k]; omega
theorem wN_lt {L : Lg} {base : Nat} {v : Nat → Nat} (hg : ∀ j, L.1 j < 256) (hv : ∀ j, v j < 256) : ∀ k, ∀ j, (wN L base v k).1 j < 256
  | 0 => hg
  | k + 1 => fun j => by
    show va_up _ _ _ j < 256
    unfold va_up; split
    · exact hv k
    · exact wN_lt hg hv k j
/-- a byte of a sum, as it is told and as it is written -/
theorem sby_and (s : Int32) (k : Nat) (hk : k < 4) : (s.toUInt32 >>> ((nI (8 * k)).toUInt32 &&& Int32.toUInt32 31)).toInt32 &&& nI 255 = nI (sby s k) := by
  have h1 : (((nI (8 * k)).toUInt32 &&& Int32.toUInt32 31).toBitVec % 32).toNat = 8 * k := by
    rcases (show k = 0 ∨ k = 1 ∨ k = 2 ∨ k = 3 by omega) with rfl | rfl | rfl | rfl <;> decide +kernel
  rw [pk_and _ (m := nI 255) 8 (by decide +kernel), pk_ushr _ _ _ h1]
  rfl
theorem and_b (x : Int32) : x.toInt8.toInt32 = (x &&& nI 255).toInt8.toInt32 := by
  have h := Int32.toInt8_and x (nI 255)
  rw [h]
  have h2 : (nI 255).toInt8 = -1 := by decide +kernel
  rw [h2]
  simp
theorem sby_b (s : Int32) (k : Nat) (hk : k < 4) : (s.toUInt32 >>> ((nI (8 * k)).toUInt32 &&& Int32.toUInt32 31)).toInt32.toInt8.toInt32 = bb (sby s k) := by
  rw [and_b, sby_and s k hk]
  rfl
theorem nI_b {x : Nat} : (nI x).toInt8.toInt32 = bb (x % 256) := by
  rw [and_b, show nI x &&& nI 255 = nI (x % 256) from by
    have h := pk_and (nI x) (m := nI 255) 8 (by decide +kernel)
    rw [h]
    congr 1
    show (Int32.ofNat x).toBitVec.toNat % 256 = x % 256
    have : (Int32.ofNat x).toBitVec.toNat = x % 2 ^ 32 := by rfl
    rw [this]
    omega]
  rfl
end
section
/-! 05: PuzzleBook$Store, its leaves (laid by wip/whole/gen/gen_store.py) -/
theorem nI_xor (x y : Nat) : nI x ^^^ nI y = nI (x ^^^ y) := by
  apply Int32.toBitVec_inj.mp
  show BitVec.ofNat 32 x ^^^ BitVec.ofNat 32 y = BitVec.ofNat 32 (x ^^^ y)
  rw [BitVec.ofNat_xor]
theorem alt_b (x y : Nat) : (bb x ^^^ nI y).toInt8.toInt32 = bb (x ^^^ y) := by
  unfold bb
  rw [← nI_xor, Int32.toInt8_xor, Int32.toInt8_xor]
  simp
/-- a byte xored by a mask -/
def wX (L : Lg) (pl mk : Nat) : Lg := (va_up L.1 pl (L.1 pl ^^^ mk), L.2.1, L.2.2.1, L.2.2.2)
theorem nI_max {a b : Nat} (ha : a < 2 ^ 31) (hb : b < 2 ^ 31) : (if nI a < nI b then nI b else nI a) = nI (max a b) := by
  by_cases h : a < b
  · rw [if_pos ((nI_ltI ha hb).mpr h), Nat.max_eq_right (by omega)]
  · rw [if_neg (fun q => h ((nI_ltI ha hb).mp q)), Nat.max_eq_left (by omega)]
theorem nI_min {a b : Nat} (ha : a < 2 ^ 31) (hb : b < 2 ^ 31) : (if nI b < nI a then nI b else nI a) = nI (min a b) := by
  by_cases h : b < a
  · rw [if_pos ((nI_ltI hb ha).mpr h), Nat.min_eq_right (by omega)]
  · rw [if_neg (fun q => h ((nI_ltI hb ha).mp q)), Nat.min_eq_left (by omega)]
/-- 1 where it holds, 0 where it doesn't -/
noncomputable def b01 (P : Prop) : Nat := @ite Nat P (Classical.propDecidable P) 1 0
theorem b01_t {P : Prop} (h : P) : b01 P = 1 := if_pos h
theorem b01_f {P : Prop} (h : ¬ P) : b01 P = 0 := if_neg h
/-- the bytes when j of the writes from kp on are undone, the first first -/
def unA (L : Lg) (kp : Nat) : Nat → Nat → Nat
  | 0 => L.1
  | j + 1 => va_up (unA L kp j) (L.2.1 (kp + j)) (L.2.2.1 (kp + j))
def wU (L : Lg) (kp : Nat) : Lg := (unA L kp (L.2.2.2 - kp), L.2.1, L.2.2.1, 0)
set_option maxRecDepth 100000 in
set_option maxHeartbeats 4000000 in
/-- blockCount() -/
theorem c_X0_blockCount (l : Launch) (D : va_G) (a0 a1 a2 a3 : Nat) (cB cI : ClassId) (n : Nat) (L : Lg)   : Met l yX0_blockCount wsX0_blockCount ({ frames := 0, cells := 0, slots := 0, locals := 0 }) (rP [.ref a0] D (sW a0 a1 a2 a3 cB cI n L) (ty2 cB cI)) (vp_Si (fun r => r = nI n)) 0 0 (fun _ => False) := by
  refine met_r (by decide) rfl (Nat.le_of_ble_eq_true rfl) ?_
  intro p e s m below meth c hx hb hml hr hlocks hown hts hP hK ls hl
  have hown : s.vm.findClass RX0 = some m.cls := hown
  have hinX0 : ∀ w ∈ u_ws RX0 TX0 5, w ∈ wsX0_blockCount := by decide +kernel
  have hl : lv_has ls 1 [(0, .ref a0)] := hl
  refine lv_aload_n hx hb dX0_blockCount_0 rfl (lv_at hl 0 rfl) ?_
  refine va_get (D := D) (ci := 1) (v := .int (nI n)) (C := RX0) (T := TX0) (N := 5) hx hb hts hinX0 hown hK hP 0 rfl rfl 0 (by decide) (hts (.fieldLink RX0 32 "PuzzleBook$Store" "blocks" "I") (by decide +kernel)) (fun _ h9 => h9) rfl dX0_blockCount_1 ?_
  exact rt_i hx hb hr hlocks dX0_blockCount_4 rfl
set_option maxRecDepth 100000 in
set_option maxHeartbeats 4000000 in
/-- writtenBytes() -/
theorem c_X0_writtenBytes (l : Launch) (D : va_G) (a0 a1 a2 a3 : Nat) (cB cI : ClassId) (n : Nat) (L : Lg)   : Met l yX0_writtenBytes wsX0_writtenBytes ({ frames := 0, cells := 0, slots := 0, locals := 0 }) (rP [.ref a0] D (sW a0 a1 a2 a3 cB cI n L) (ty2 cB cI)) (vp_Si (fun r => r = nI L.2.2.2)) 0 0 (fun _ => False) := by
  refine met_r (by decide) rfl (Nat.le_of_ble_eq_true rfl) ?_
  intro p e s m below meth c hx hb hml hr hlocks hown hts hP hK ls hl
  have hown : s.vm.findClass RX0 = some m.cls := hown
  have hinX0 : ∀ w ∈ u_ws RX0 TX0 5, w ∈ wsX0_writtenBytes := by decide +kernel
  have hl : lv_has ls 1 [(0, .ref a0)] := hl
  refine lv_aload_n hx hb dX0_writtenBytes_0 rfl (lv_at hl 0 rfl) ?_
  refine va_get (D := D) (ci := 1) (v := .int (nI L.2.2.2)) (C := RX0) (T := TX0) (N := 5) hx hb hts hinX0 hown hK hP 0 rfl rfl 4 (by decide) (hts (.fieldLink RX0 19 "PuzzleBook$Store" "changed" "I") (by decide +kernel)) (fun _ h9 => h9) rfl dX0_writtenBytes_1 ?_
  exact rt_i hx hb hr hlocks dX0_writtenBytes_4 rfl
set_option maxRecDepth 100000 in
set_option maxHeartbeats 4000000 in
/-- has(block, i) -/
theorem c_X0_has (l : Launch) (D : va_G) (a0 a1 a2 a3 : Nat) (cB cI : ClassId) (n : Nat) (L : Lg) (bv iv : Int32) (bz iz : Int) (hn : n ≤ 64) (h1 : bv.toInt = bz) (h2 : iv.toInt = iz) : Met l yX0_has wsX0_has ({ frames := 0, cells := 0, slots := 0, locals := 0 }) (rP [.ref a0, .int bv, .int iv] D (sW a0 a1 a2 a3 cB cI n L) (ty2 cB cI)) (vp_Si (fun r => r = nI (b01 (0 ≤ bz ∧ bz < (n : Int) ∧ 0 ≤ iz ∧ iz < 64)))) 0 0 (fun _ => False) := by
  refine met_r (by decide) rfl (Nat.le_of_ble_eq_true rfl) ?_
  intro p e s m below meth c hx hb hml hr hlocks hown hts hP hK ls hl
  have hown : s.vm.findClass RX0 = some m.cls := hown
  have hinX0 : ∀ w ∈ u_ws RX0 TX0 5, w ∈ wsX0_has := by decide +kernel
  have hl : lv_has ls 3 [(0, .ref a0), (1, .int bv), (2, .int iv)] := hl
  refine lv_iload_n hx hb dX0_has_0 rfl (lv_at hl 1 rfl) ?_
  refine j0_lt (tgt := 26) hx hb h1 dX0_has_1 (by decide) (fun c1 => ?_) (fun c1 => ?_)
  · skip
    refine lv_iconst (v := nI 0) hx hb dX0_has_26 (by decide +kernel) ?_
    exact rt_z hx hb hr hlocks dX0_has_27 (by decide +kernel) (by rw [b01_f (by omega)])
  · skip
    refine lv_iload_n hx hb dX0_has_4 rfl (lv_at hl 1 rfl) ?_
    refine lv_aload_n hx hb dX0_has_5 rfl (lv_at hl 0 rfl) ?_
    refine va_get (D := D) (ci := 1) (v := .int (nI n)) (C := RX0) (T := TX0) (N := 5) hx hb hts hinX0 hown hK hP 0 rfl rfl 0 (by decide) (hts (.fieldLink RX0 32 "PuzzleBook$Store" "blocks" "I") (by decide +kernel)) (fun _ h9 => h9) rfl dX0_has_6 ?_
    refine jb_ge (tgt := 26) hx hb h1 (nI_toInt (n := n) (by omega)) dX0_has_9 (by decide) (fun c2 => ?_) (fun c2 => ?_)
    · skip
      refine lv_iconst (v := nI 0) hx hb dX0_has_26 (by decide +kernel) ?_
      exact rt_z hx hb hr hlocks dX0_has_27 (by decide +kernel) (by rw [b01_f (by omega)])
    · skip
      refine lv_iload_n hx hb dX0_has_12 rfl (lv_at hl 2 rfl) ?_
      refine j0_lt (tgt := 26) hx hb h2 dX0_has_13 (by decide) (fun c3 => ?_) (fun c3 => ?_)
      · skip
        refine lv_iconst (v := nI 0) hx hb dX0_has_26 (by decide +kernel) ?_
        exact rt_z hx hb hr hlocks dX0_has_27 (by decide +kernel) (by rw [b01_f (by omega)])
      · skip
        refine lv_iload_n hx hb dX0_has_16 rfl (lv_at hl 2 rfl) ?_
        refine lv_bipush (v := nI 64) hx hb dX0_has_17 (by decide +kernel) ?_
        refine jb_ge (tgt := 26) hx hb h2 (nI_toInt (n := 64) (by decide)) dX0_has_19 (by decide) (fun c4 => ?_) (fun c4 => ?_)
        · skip
          refine lv_iconst (v := nI 0) hx hb dX0_has_26 (by decide +kernel) ?_
          exact rt_z hx hb hr hlocks dX0_has_27 (by decide +kernel) (by rw [b01_f (by omega)])
        · skip
          refine lv_iconst (v := nI 1) hx hb dX0_has_22 (by decide +kernel) ?_
          refine lv_goto (tgt := 27) hx hb dX0_has_23 (by decide) ?_
          exact rt_z hx hb hr hlocks dX0_has_27 (by decide +kernel) (by rw [b01_t (by omega)])
set_option maxRecDepth 100000 in
set_option maxHeartbeats 4000000 in
/-- read(block, i), of a byte that is there -/
theorem c_X0_read (l : Launch) (D : va_G) (a0 a1 a2 a3 : Nat) (cB cI : ClassId) (n : Nat) (L : Lg) (bk i : Nat) (hn : n ≤ 64) (hg : ∀ j, L.1 j < 256) (h1 : bk < n) (h2 : i < 64) : Met l yX0_read wsX0_read ({ frames := 1, cells := 0, slots := 0, locals := 22 }) (rP [.ref a0, .int (nI bk), .int (nI i)] D (sW a0 a1 a2 a3 cB cI n L) (ty2 cB cI)) (vp_Si (fun r => r = nI (L.1 (64 * bk + i)))) 0 0 (fun _ => False) := by
  refine met_r (by decide) rfl (Nat.le_of_ble_eq_true rfl) ?_
  intro p e s m below meth c hx hb hml hr hlocks hown hts hP hK ls hl
  have hown : s.vm.findClass RX0 = some m.cls := hown
  have hinX0 : ∀ w ∈ u_ws RX0 TX0 5, w ∈ wsX0_read := by decide +kernel
  have hl : lv_has ls 3 [(0, .ref a0), (1, .int (nI bk)), (2, .int (nI i))] := hl
  refine lv_aload_n hx hb dX0_read_0 rfl (lv_at hl 0 rfl) ?_
  refine lv_iload_n hx hb dX0_read_1 rfl (lv_at hl 1 rfl) ?_
  refine lv_iload_n hx hb dX0_read_2 rfl (lv_at hl 2 rfl) ?_
  refine rd_V (As := [.int (nI bk), .int (nI i)]) (rest := []) ⟨hx, hb, hml, hown, hts⟩ (c_X0_has l D a0 a1 a2 a3 cB cI n L (nI bk) (nI i) ((bk : Nat) : Int) ((i : Nat) : Int) hn (nI_toInt (by omega)) (nI_toInt (by omega))) (cwV 2 hts gX0_read_X0_has rfl rfl rfl (by decide +kernel) ⟨Nat.le_of_ble_eq_true rfl, Nat.le_of_ble_eq_true rfl⟩) hK hP [0, 1, 2, 3] rfl (ci := 1) rfl rfl (q0 := 0) rfl rfl hl.1 rfl (Nat.le_of_ble_eq_true rfl) dX0_read_3 ⟨Nat.zero_le _, Nat.zero_le _⟩ (fun r1 hr1 => ?_)
  subst hr1
  refine lv_as (y := nI 1) (congrArg nI (b01_t (by omega))) ?_
  refine j0_eq (tgt := 27) hx hb (nI_toInt (n := 1) (by decide)) dX0_read_6 (by decide) (fun c2 => absurd c2 (by omega)) (fun c2 => ?_)
  refine lv_aload_n hx hb dX0_read_9 rfl (lv_at hl 0 rfl) ?_
  refine va_get (D := D) (ci := 1) (v := .ref a1) (C := RX0) (T := TX0) (N := 5) hx hb hts hinX0 hown hK hP 0 rfl rfl 1 (by decide) (hts (.fieldLink RX0 35 "PuzzleBook$Store" "bytes" "[B") (by decide +kernel)) (fun _ h9 => h9) rfl dX0_read_10 ?_
  refine lv_iload_n hx hb dX0_read_13 rfl (lv_at hl 1 rfl) ?_
  refine lv_bipush (v := nI 64) hx hb dX0_read_14 (by decide +kernel) ?_
  refine lv_imul hx hb dX0_read_16 ?_
  refine lv_as (y := nI (64 * bk)) ((pk_mul _ _).trans (congrArg nI (Nat.mul_comm _ _))) ?_
  refine lv_iload_n hx hb dX0_read_17 rfl (lv_at hl 2 rfl) ?_
  refine lv_iadd hx hb dX0_read_18 ?_
  refine lv_as (y := nI ((64 * bk) + i)) (nI_add _ _) ?_
  refine ld_b (f := L.1) (k := (64 * bk) + i) hx hb hK hP 1 0 rfl rfl (by omega) (by omega) dX0_read_19 ?_
  refine lv_sipush (v := nI 255) hx hb dX0_read_20 (by decide +kernel) ?_
  refine lv_iand hx hb dX0_read_23 ?_
  refine lv_as (y := nI (L.1 (64 * bk + i))) (bb_and (hg _)) ?_
  refine lv_goto (tgt := 28) hx hb dX0_read_24 (by decide) ?_
  exact rt_i hx hb hr hlocks dX0_read_28 rfl
set_option maxRecDepth 100000 in
set_option maxHeartbeats 4000000 in
/-- alter(block, i, mask), of a byte that is there -/
theorem c_X0_alter (l : Launch) (D : va_G) (a0 a1 a2 a3 : Nat) (cB cI : ClassId) (n : Nat) (L : Lg) (bk i mk : Nat) (sz : Nat) (hn : n ≤ 64) (h1 : bk < n) (h2 : i < 64) : Met l yX0_alter wsX0_alter ({ frames := 1, cells := 0, slots := 0, locals := 22 }) (wP [.ref a0, .int (nI bk), .int (nI i), .int (nI mk)] D (sW a0 a1 a2 a3 cB cI n L) (ty2 cB cI) sz) (wQv D (sW a0 a1 a2 a3 cB cI n (wX L (64 * bk + i) mk)) (va_A (sW a0 a1 a2 a3 cB cI n L) sz)) 0 0 (va_A (sW a0 a1 a2 a3 cB cI n L) sz) := by
  refine met_w (by decide) rfl (Nat.le_of_ble_eq_true rfl) ?_
  intro p e s m below meth c hx hb hml hr hlocks hown hts hP hK A hD hA hS ls hl
  have hown : s.vm.findClass RX0 = some m.cls := hown
  have hinX0 : ∀ w ∈ u_ws RX0 TX0 5, w ∈ wsX0_alter := by decide +kernel
  have hl : lv_has ls 5 [(0, .ref a0), (1, .int (nI bk)), (2, .int (nI i)), (3, .int (nI mk))] := hl
  refine lv_aload_n hx hb dX0_alter_0 rfl (lv_at hl 0 rfl) ?_
  refine lv_iload_n hx hb dX0_alter_1 rfl (lv_at hl 1 rfl) ?_
  refine lv_iload_n hx hb dX0_alter_2 rfl (lv_at hl 2 rfl) ?_
  refine rd_V (As := [.int (nI bk), .int (nI i)]) (rest := []) ⟨hx, hb, hml, hown, hts⟩ (c_X0_has l D a0 a1 a2 a3 cB cI n L (nI bk) (nI i) ((bk : Nat) : Int) ((i : Nat) : Int) hn (nI_toInt (by omega)) (nI_toInt (by omega))) (cwV 2 hts gX0_alter_X0_has rfl rfl rfl (by decide +kernel) ⟨Nat.le_of_ble_eq_true rfl, Nat.le_of_ble_eq_true rfl⟩) hK hP [0, 1, 2, 3] rfl (ci := 1) rfl rfl (q0 := 0) rfl rfl hl.1 rfl (Nat.le_of_ble_eq_true rfl) dX0_alter_3 ⟨Nat.zero_le _, Nat.zero_le _⟩ (fun r1 hr1 => ?_)
  subst hr1
  refine lv_as (y := nI 1) (congrArg nI (b01_t (by omega))) ?_
  refine j0_eq (tgt := 34) hx hb (nI_toInt (n := 1) (by decide)) dX0_alter_6 (by decide) (fun c2 => absurd c2 (by omega)) (fun c2 => ?_)
  refine lv_iload_n hx hb dX0_alter_9 rfl (lv_at hl 1 rfl) ?_
  refine lv_bipush (v := nI 64) hx hb dX0_alter_10 (by decide +kernel) ?_
  refine lv_imul hx hb dX0_alter_12 ?_
  refine lv_as (y := nI (64 * bk)) ((pk_mul _ _).trans (congrArg nI (Nat.mul_comm _ _))) ?_
  refine lv_iload_n hx hb dX0_alter_13 rfl (lv_at hl 2 rfl) ?_
  refine lv_iadd hx hb dX0_alter_14 ?_
  refine lv_as (y := nI ((64 * bk) + i)) (nI_add _ _) ?_
  refine lv_istore (lv' := [(4, .int (nI ((64 * bk) + i))), (0, .ref a0), (1, .int (nI bk)), (2, .int (nI i)), (3, .int (nI mk))]) hx hb dX0_alter_15 hl (by decide) rfl (fun ls hl => ?_)
  refine lv_aload_n hx hb dX0_alter_17 rfl (lv_at hl 1 rfl) ?_
  refine va_get (D := D) (ci := 1) (v := .ref a1) (C := RX0) (T := TX0) (N := 5) hx hb hts hinX0 hown hK hP 0 rfl rfl 1 (by decide) (hts (.fieldLink RX0 35 "PuzzleBook$Store" "bytes" "[B") (by decide +kernel)) (fun _ h9 => h9) rfl dX0_alter_18 ?_
  refine lv_iload hx hb dX0_alter_21 (lv_at hl 0 rfl) ?_
  refine lv_aload_n hx hb dX0_alter_23 rfl (lv_at hl 1 rfl) ?_
  refine va_get (D := D) (ci := 1) (v := .ref a1) (C := RX0) (T := TX0) (N := 5) hx hb hts hinX0 hown hK hP 0 rfl rfl 1 (by decide) (hts (.fieldLink RX0 35 "PuzzleBook$Store" "bytes" "[B") (by decide +kernel)) (fun _ h9 => h9) rfl dX0_alter_24 ?_
  refine lv_iload hx hb dX0_alter_27 (lv_at hl 0 rfl) ?_
  refine ld_b (f := L.1) (k := (64 * bk) + i) hx hb hK hP 1 0 rfl rfl (by omega) (by omega) dX0_alter_29 ?_
  refine lv_iload_n hx hb dX0_alter_30 rfl (lv_at hl 4 rfl) ?_
  refine lv_ixor hx hb dX0_alter_31 ?_
  refine lv_i2b (v := ((bb (L.1 ((64 * bk) + i))) ^^^ nI mk).toInt8.toInt32) hx hb dX0_alter_32 rfl ?_
  refine st_b (f := L.1) (k := (64 * bk) + i) (x := L.1 (64 * bk + i) ^^^ mk) hx hb hK hP hD hS 1 0 rfl rfl (by omega) (by omega) (by rw [pk_vb]; exact alt_b _ _) dX0_alter_33 (fun H locs hP hD hS => ?_)
  have hP : va_P D vwCl (sW a0 a1 a2 a3 cB cI n (va_up L.1 ((64 * bk) + i) (L.1 (64 * bk + i) ^^^ mk), L.2.1, L.2.2.1, L.2.2.2)) H := hP
  have hD : va_D A (sW a0 a1 a2 a3 cB cI n (va_up L.1 ((64 * bk) + i) (L.1 (64 * bk + i) ^^^ mk), L.2.1, L.2.2.1, L.2.2.2)) := hD
  exact rt_v hx hb hr hlocks hP hD hS dX0_alter_34
set_option maxRecDepth 100000 in
set_option maxHeartbeats 4000000 in
/-- beginChange() -/
theorem c_X0_beginChange (l : Launch) (D : va_G) (a0 a1 a2 a3 : Nat) (cB cI : ClassId) (n : Nat) (L : Lg)  (sz : Nat)  : Met l yX0_beginChange wsX0_beginChange ({ frames := 0, cells := 0, slots := 0, locals := 0 }) (wP [.ref a0] D (sW a0 a1 a2 a3 cB cI n L) (ty2 cB cI) sz) (wQv D (sW a0 a1 a2 a3 cB cI n (w0 L)) (va_A (sW a0 a1 a2 a3 cB cI n L) sz)) 0 0 (va_A (sW a0 a1 a2 a3 cB cI n L) sz) := by
  refine met_w (by decide) rfl (Nat.le_of_ble_eq_true rfl) ?_
  intro p e s m below meth c hx hb hml hr hlocks hown hts hP hK A hD hA hS ls hl
  have hown : s.vm.findClass RX0 = some m.cls := hown
  have hinX0 : ∀ w ∈ u_ws RX0 TX0 5, w ∈ wsX0_beginChange := by decide +kernel
  have hl : lv_has ls 1 [(0, .ref a0)] := hl
  refine lv_aload_n hx hb dX0_beginChange_0 rfl (lv_at hl 0 rfl) ?_
  refine lv_iconst (v := nI 0) hx hb dX0_beginChange_1 (by decide +kernel) ?_
  refine va_put (D := D) (ci := 1) (v := .int (nI 0)) (ty := .int) (C := RX0) (T := TX0) (N := 5) hx hb hts hinX0 tyX0 tyX0_ok nmX0 hown hK hP hD hS 0 rfl rfl 4 (by decide) (hts (.fieldLink RX0 19 "PuzzleBook$Store" "changed" "I") (by decide +kernel)) (fun _ h9 => h9) rfl (by decide +kernel) rfl rfl (Nat.le_of_ble_eq_true rfl) dX0_beginChange_2 (fun H locs hP hD hS => ?_)
  have hP : va_P D vwCl (sW a0 a1 a2 a3 cB cI n (L.1, L.2.1, L.2.2.1, 0)) H := hP
  have hD : va_D A (sW a0 a1 a2 a3 cB cI n (L.1, L.2.1, L.2.2.1, 0)) := hD
  exact rt_v hx hb hr hlocks hP hD hS dX0_beginChange_5
set_option maxRecDepth 100000 in
set_option maxHeartbeats 4000000 in
/-- write(block, i, value): x is the byte of the value -/
theorem c_X0_write (l : Launch) (D : va_G) (a0 a1 a2 a3 : Nat) (cB cI : ClassId) (n : Nat) (L : Lg) (bk i : Nat) (v : Int32) (x : Nat) (sz : Nat) (hn : n ≤ 64) (h1 : bk < n) (h2 : i < 64) (hw : L.2.2.2 < 129) (hv : v.toInt8.toInt32 = bb x) : Met l yX0_write wsX0_write ({ frames := 1, cells := 0, slots := 0, locals := 22 }) (wP [.ref a0, .int (nI bk), .int (nI i), .int v] D (sW a0 a1 a2 a3 cB cI n L) (ty2 cB cI) sz) (wQv D (sW a0 a1 a2 a3 cB cI n (w1 L (64 * bk + i) x)) (va_A (sW a0 a1 a2 a3 cB cI n L) sz)) 0 0 (va_A (sW a0 a1 a2 a3 cB cI n L) sz) := by
  refine met_w (by decide) rfl (Nat.le_of_ble_eq_true rfl) ?_
  intro p e s m below meth c hx hb hml hr hlocks hown hts hP hK A hD hA hS ls hl
  have hown : s.vm.findClass RX0 = some m.cls := hown
  have hinX0 : ∀ w ∈ u_ws RX0 TX0 5, w ∈ wsX0_write := by decide +kernel
  have hl : lv_has ls 5 [(0, .ref a0), (1, .int (nI bk)), (2, .int (nI i)), (3, .int v)] := hl
  refine lv_aload_n hx hb dX0_write_0 rfl (lv_at hl 0 rfl) ?_
  refine lv_iload_n hx hb dX0_write_1 rfl (lv_at hl 1 rfl) ?_
  refine lv_iload_n hx hb dX0_write_2 rfl (lv_at hl 2 rfl) ?_
  refine rd_V (As := [.int (nI bk), .int (nI i)]) (rest := []) ⟨hx, hb, hml, hown, hts⟩ (c_X0_has l D a0 a1 a2 a3 cB cI n L (nI bk) (nI i) ((bk : Nat) : Int) ((i : Nat) : Int) hn (nI_toInt (by omega)) (nI_toInt (by omega))) (cwV 2 hts gX0_write_X0_has rfl rfl rfl (by decide +kernel) ⟨Nat.le_of_ble_eq_true rfl, Nat.le_of_ble_eq_true rfl⟩) hK hP [0, 1, 2, 3] rfl (ci := 1) rfl rfl (q0 := 0) rfl rfl hl.1 rfl (Nat.le_of_ble_eq_true rfl) dX0_write_3 ⟨Nat.zero_le _, Nat.zero_le _⟩ (fun r1 hr1 => ?_)
  subst hr1
  refine lv_as (y := nI 1) (congrArg nI (b01_t (by omega))) ?_
  refine j0_eq (tgt := 26) hx hb (nI_toInt (n := 1) (by decide)) dX0_write_6 (by decide) (fun c2 => absurd c2 (by omega)) (fun c2 => ?_)
  refine lv_aload_n hx hb dX0_write_9 rfl (lv_at hl 0 rfl) ?_
  refine va_get (D := D) (ci := 1) (v := .int (nI L.2.2.2)) (C := RX0) (T := TX0) (N := 5) hx hb hts hinX0 hown hK hP 0 rfl rfl 4 (by decide) (hts (.fieldLink RX0 19 "PuzzleBook$Store" "changed" "I") (by decide +kernel)) (fun _ h9 => h9) rfl dX0_write_10 ?_
  refine j0_lt (tgt := 26) hx hb (nI_toInt (n := L.2.2.2) (by omega)) dX0_write_13 (by decide) (fun c3 => absurd c3 (by omega)) (fun c3 => ?_)
  refine lv_aload_n hx hb dX0_write_16 rfl (lv_at hl 0 rfl) ?_
  refine va_get (D := D) (ci := 1) (v := .int (nI L.2.2.2)) (C := RX0) (T := TX0) (N := 5) hx hb hts hinX0 hown hK hP 0 rfl rfl 4 (by decide) (hts (.fieldLink RX0 19 "PuzzleBook$Store" "changed" "I") (by decide +kernel)) (fun _ h9 => h9) rfl dX0_write_17 ?_
  refine lv_sipush (v := nI 129) hx hb dX0_write_20 (by decide +kernel) ?_
  refine jb_lt (tgt := 27) hx hb (nI_toInt (n := L.2.2.2) (by omega)) (nI_toInt (n := 129) (by decide)) dX0_write_23 (by decide) (fun c4 => ?_) (fun c4 => absurd c4 (by omega))
  refine lv_iload_n hx hb dX0_write_27 rfl (lv_at hl 1 rfl) ?_
  refine lv_bipush (v := nI 64) hx hb dX0_write_28 (by decide +kernel) ?_
  refine lv_imul hx hb dX0_write_30 ?_
  refine lv_as (y := nI (64 * bk)) ((pk_mul _ _).trans (congrArg nI (Nat.mul_comm _ _))) ?_
  refine lv_iload_n hx hb dX0_write_31 rfl (lv_at hl 2 rfl) ?_
  refine lv_iadd hx hb dX0_write_32 ?_
  refine lv_as (y := nI ((64 * bk) + i)) (nI_add _ _) ?_
  refine lv_istore (lv' := [(4, .int (nI ((64 * bk) + i))), (0, .ref a0), (1, .int (nI bk)), (2, .int (nI i)), (3, .int v)]) hx hb dX0_write_33 hl (by decide) rfl (fun ls hl => ?_)
  refine lv_aload_n hx hb dX0_write_35 rfl (lv_at hl 1 rfl) ?_
  refine va_get (D := D) (ci := 1) (v := .ref a2) (C := RX0) (T := TX0) (N := 5) hx hb hts hinX0 hown hK hP 0 rfl rfl 2 (by decide) (hts (.fieldLink RX0 9 "PuzzleBook$Store" "changedPlaces" "[I") (by decide +kernel)) (fun _ h9 => h9) rfl dX0_write_36 ?_
  refine lv_aload_n hx hb dX0_write_39 rfl (lv_at hl 1 rfl) ?_
  refine va_get (D := D) (ci := 1) (v := .int (nI L.2.2.2)) (C := RX0) (T := TX0) (N := 5) hx hb hts hinX0 hown hK hP 0 rfl rfl 4 (by decide) (hts (.fieldLink RX0 19 "PuzzleBook$Store" "changed" "I") (by decide +kernel)) (fun _ h9 => h9) rfl dX0_write_40 ?_
  refine lv_iload hx hb dX0_write_43 (lv_at hl 0 rfl) ?_
  refine st_i (f := L.2.1) (k := L.2.2.2) (x := (64 * bk) + i) hx hb hK hP hD hS 2 1 rfl rfl (by omega) (by decide) dX0_write_45 (fun H locs hP hD hS => ?_)
  have hP : va_P D vwCl (sW a0 a1 a2 a3 cB cI n (L.1, va_up L.2.1 L.2.2.2 ((64 * bk) + i), L.2.2.1, L.2.2.2)) H := hP
  have hD : va_D A (sW a0 a1 a2 a3 cB cI n (L.1, va_up L.2.1 L.2.2.2 ((64 * bk) + i), L.2.2.1, L.2.2.2)) := hD
  refine lv_aload_n hx hb dX0_write_46 rfl (lv_at hl 1 rfl) ?_
  refine va_get (D := D) (ci := 1) (v := .ref a3) (C := RX0) (T := TX0) (N := 5) hx hb hts hinX0 hown hK hP 0 rfl rfl 3 (by decide) (hts (.fieldLink RX0 15 "PuzzleBook$Store" "formerBytes" "[B") (by decide +kernel)) (fun _ h9 => h9) rfl dX0_write_47 ?_
  refine lv_aload_n hx hb dX0_write_50 rfl (lv_at hl 1 rfl) ?_
  refine va_get (D := D) (ci := 1) (v := .int (nI L.2.2.2)) (C := RX0) (T := TX0) (N := 5) hx hb hts hinX0 hown hK hP 0 rfl rfl 4 (by decide) (hts (.fieldLink RX0 19 "PuzzleBook$Store" "changed" "I") (by decide +kernel)) (fun _ h9 => h9) rfl dX0_write_51 ?_
  refine lv_aload_n hx hb dX0_write_54 rfl (lv_at hl 1 rfl) ?_
  refine va_get (D := D) (ci := 1) (v := .ref a1) (C := RX0) (T := TX0) (N := 5) hx hb hts hinX0 hown hK hP 0 rfl rfl 1 (by decide) (hts (.fieldLink RX0 35 "PuzzleBook$Store" "bytes" "[B") (by decide +kernel)) (fun _ h9 => h9) rfl dX0_write_55 ?_
  refine lv_iload hx hb dX0_write_58 (lv_at hl 0 rfl) ?_
  refine ld_b (f := L.1) (k := (64 * bk) + i) hx hb hK hP 1 0 rfl rfl (by omega) (by omega) dX0_write_60 ?_
  refine st_b (f := L.2.2.1) (k := L.2.2.2) (x := (L.1 ((64 * bk) + i))) hx hb hK hP hD hS 3 0 rfl rfl (by omega) (by decide) (bb_n _) dX0_write_61 (fun H locs hP hD hS => ?_)
  have hP : va_P D vwCl (sW a0 a1 a2 a3 cB cI n (L.1, va_up L.2.1 L.2.2.2 ((64 * bk) + i), va_up L.2.2.1 L.2.2.2 (L.1 ((64 * bk) + i)), L.2.2.2)) H := hP
  have hD : va_D A (sW a0 a1 a2 a3 cB cI n (L.1, va_up L.2.1 L.2.2.2 ((64 * bk) + i), va_up L.2.2.1 L.2.2.2 (L.1 ((64 * bk) + i)), L.2.2.2)) := hD
  refine lv_aload_n hx hb dX0_write_62 rfl (lv_at hl 1 rfl) ?_
  refine lv_dup hx hb dX0_write_63 rfl ?_
  refine va_get (D := D) (ci := 1) (v := .int (nI L.2.2.2)) (C := RX0) (T := TX0) (N := 5) hx hb hts hinX0 hown hK hP 0 rfl rfl 4 (by decide) (hts (.fieldLink RX0 19 "PuzzleBook$Store" "changed" "I") (by decide +kernel)) (fun _ h9 => h9) rfl dX0_write_64 ?_
  refine lv_iconst (v := nI 1) hx hb dX0_write_67 (by decide +kernel) ?_
  refine lv_iadd hx hb dX0_write_68 ?_
  refine lv_as (y := nI (L.2.2.2 + 1)) (nI_add _ _) ?_
  refine va_put (D := D) (ci := 1) (v := .int (nI (L.2.2.2 + 1))) (ty := .int) (C := RX0) (T := TX0) (N := 5) hx hb hts hinX0 tyX0 tyX0_ok nmX0 hown hK hP hD hS 0 rfl rfl 4 (by decide) (hts (.fieldLink RX0 19 "PuzzleBook$Store" "changed" "I") (by decide +kernel)) (fun _ h9 => h9) rfl (by decide +kernel) rfl rfl (Nat.le_of_ble_eq_true rfl) dX0_write_69 (fun H locs hP hD hS => ?_)
  have hP : va_P D vwCl (sW a0 a1 a2 a3 cB cI n (L.1, va_up L.2.1 L.2.2.2 ((64 * bk) + i), va_up L.2.2.1 L.2.2.2 (L.1 ((64 * bk) + i)), L.2.2.2 + 1)) H := hP
  have hD : va_D A (sW a0 a1 a2 a3 cB cI n (L.1, va_up L.2.1 L.2.2.2 ((64 * bk) + i), va_up L.2.2.1 L.2.2.2 (L.1 ((64 * bk) + i)), L.2.2.2 + 1)) := hD
  refine lv_aload_n hx hb dX0_write_72 rfl (lv_at hl 1 rfl) ?_
  refine va_get (D := D) (ci := 1) (v := .ref a1) (C := RX0) (T := TX0) (N := 5) hx hb hts hinX0 hown hK hP 0 rfl rfl 1 (by decide) (hts (.fieldLink RX0 35 "PuzzleBook$Store" "bytes" "[B") (by decide +kernel)) (fun _ h9 => h9) rfl dX0_write_73 ?_
  refine lv_iload hx hb dX0_write_76 (lv_at hl 0 rfl) ?_
  refine lv_iload_n hx hb dX0_write_78 rfl (lv_at hl 4 rfl) ?_
  refine lv_i2b (v := v.toInt8.toInt32) hx hb dX0_write_79 rfl ?_
  refine st_b (f := L.1) (k := (64 * bk) + i) (x := x) hx hb hK hP hD hS 1 0 rfl rfl (by omega) (by omega) (by rw [pk_vb]; exact hv) dX0_write_80 (fun H locs hP hD hS => ?_)
  have hP : va_P D vwCl (sW a0 a1 a2 a3 cB cI n (va_up L.1 ((64 * bk) + i) x, va_up L.2.1 L.2.2.2 ((64 * bk) + i), va_up L.2.2.1 L.2.2.2 (L.1 ((64 * bk) + i)), L.2.2.2 + 1)) H := hP
  have hD : va_D A (sW a0 a1 a2 a3 cB cI n (va_up L.1 ((64 * bk) + i) x, va_up L.2.1 L.2.2.2 ((64 * bk) + i), va_up L.2.2.1 L.2.2.2 (L.1 ((64 * bk) + i)), L.2.2.2 + 1)) := hD
  exact rt_v hx hb hr hlocks hP hD hS dX0_write_81
set_option maxRecDepth 100000 in
set_option maxHeartbeats 4000000 in
/-- sumOf(block) -/
theorem c_X0_sumOf (l : Launch) (D : va_G) (a0 a1 a2 a3 : Nat) (cB cI : ClassId) (n : Nat) (L : Lg) (bk : Nat) (hn : n ≤ 64) (hg : ∀ j, L.1 j < 256) (h1 : bk < n) : Met l yX0_sumOf wsX0_sumOf ({ frames := 2, cells := 0, slots := 0, locals := 44 }) (rP [.ref a0, .int (nI bk)] D (sW a0 a1 a2 a3 cB cI n L) (ty2 cB cI)) (vp_Si (fun r => r = smS L.1 (64 * bk) 60)) 0 0 (fun _ => False) := by
  refine met_r (by decide) rfl (Nat.le_of_ble_eq_true rfl) ?_
  intro p e s m below meth c hx hb hml hr hlocks hown hts hP hK ls hl
  have hown : s.vm.findClass RX0 = some m.cls := hown
  have hinX0 : ∀ w ∈ u_ws RX0 TX0 5, w ∈ wsX0_sumOf := by decide +kernel
  have hl : lv_has ls 5 [(0, .ref a0), (1, .int (nI bk))] := hl
  have loop : ∀ (fu k : Nat) (sv : Int32), k ≤ 60 → 60 - k < fu → sv = smS L.1 (64 * bk) k → ∀ ls : Array Slot, lv_has ls 5 [(3, .int (nI k)), (2, .int sv), (0, .ref a0), (1, .int (nI bk))] → W p l e ({ frames := 2, cells := 0, slots := 0, locals := 44 }) s m [.ref a0, .int (nI bk)].toArray below meth c s.heap [] 0 0 (MQ below (vp_Si (fun r => r = smS L.1 (64 * bk) 60)) [.ref a0, .int (nI bk)].toArray s 0 0 (fun _ => False)) (F0 m 4 ls []) := by
    intro fu
    induction fu with
    | zero => intro k sv hk hf; omega
    | succ fu ih =>
      intro k sv hk hf hs ls hl
      refine lv_iload_n hx hb dX0_sumOf_4 rfl (lv_at hl 0 rfl) ?_
      refine lv_bipush (v := nI 60) hx hb dX0_sumOf_5 (by decide +kernel) ?_
      refine jb_ge (tgt := 41) hx hb (nI_toInt (n := k) (by omega)) (nI_toInt (n := 60) (by decide)) dX0_sumOf_7 (by decide) (fun c1 => ?_) (fun c1 => ?_)
      · skip
        refine lv_iload_n hx hb dX0_sumOf_41 rfl (lv_at hl 1 rfl) ?_
        have hk9 : k = 60 := by omega
        subst hk9
        exact rt_i hx hb hr hlocks dX0_sumOf_42 hs
      · skip
        refine lv_iload_n hx hb dX0_sumOf_10 rfl (lv_at hl 1 rfl) ?_
        refine lv_aload_n hx hb dX0_sumOf_11 rfl (lv_at hl 2 rfl) ?_
        refine lv_iload_n hx hb dX0_sumOf_12 rfl (lv_at hl 3 rfl) ?_
        refine lv_iload_n hx hb dX0_sumOf_13 rfl (lv_at hl 0 rfl) ?_
        refine rd_V (As := [.int (nI bk), .int (nI k)]) (rest := [.int sv]) ⟨hx, hb, hml, hown, hts⟩ (c_X0_read l D a0 a1 a2 a3 cB cI n L bk k hn hg h1 (by omega)) (cwV 2 hts gX0_sumOf_X0_read rfl rfl rfl (by decide +kernel) ⟨Nat.le_of_ble_eq_true rfl, Nat.le_of_ble_eq_true rfl⟩) hK hP [0, 1, 2, 3] rfl (ci := 1) rfl rfl (q0 := 0) rfl rfl hl.1 rfl (Nat.le_of_ble_eq_true rfl) dX0_sumOf_14 ⟨Nat.zero_le _, Nat.zero_le _⟩ (fun r2 hr2 => ?_)
        subst hr2
        refine lv_ixor hx hb dX0_sumOf_17 ?_
        refine lv_istore (lv' := [(4, .int (sv ^^^ nI (L.1 (64 * bk + k)))), (3, .int (nI k)), (2, .int sv), (0, .ref a0), (1, .int (nI bk))]) hx hb dX0_sumOf_18 hl (by decide) rfl (fun ls hl => ?_)
        refine lv_iload hx hb dX0_sumOf_20 (lv_at hl 0 rfl) ?_
        refine lv_bipush (v := nI 17) hx hb dX0_sumOf_22 (by decide +kernel) ?_
        refine lv_ishl hx hb dX0_sumOf_24 ?_
        refine lv_iload hx hb dX0_sumOf_25 (lv_at hl 0 rfl) ?_
        refine lv_bipush (v := nI 15) hx hb dX0_sumOf_27 (by decide +kernel) ?_
        refine lv_iushr (v := ((sv ^^^ nI (L.1 (64 * bk + k))).toUInt32 >>> ((nI 15).toUInt32 &&& Int32.toUInt32 31)).toInt32) hx hb dX0_sumOf_29 rfl ?_
        refine lv_ior hx hb dX0_sumOf_30 ?_
        refine lv_ldc (v := (-2048144789)) hx hb hown (hts (.constant RX0 53 (-2048144789)) (by decide +kernel)) dX0_sumOf_31 ?_
        refine lv_imul hx hb dX0_sumOf_33 ?_
        refine lv_istore_n (lv' := [(2, .int ((((sv ^^^ nI (L.1 (64 * bk + k))) <<< (nI 17 &&& 31)) ||| (((sv ^^^ nI (L.1 (64 * bk + k))).toUInt32 >>> ((nI 15).toUInt32 &&& Int32.toUInt32 31)).toInt32)) * (-2048144789))), (4, .int (sv ^^^ nI (L.1 (64 * bk + k)))), (3, .int (nI k)), (0, .ref a0), (1, .int (nI bk))]) hx hb dX0_sumOf_34 rfl hl (by decide) rfl (fun ls hl => ?_)
        refine lv_iinc (v := nI (k + 1)) (lv' := [(3, .int (nI (k + 1))), (2, .int ((((sv ^^^ nI (L.1 (64 * bk + k))) <<< (nI 17 &&& 31)) ||| (((sv ^^^ nI (L.1 (64 * bk + k))).toUInt32 >>> ((nI 15).toUInt32 &&& Int32.toUInt32 31)).toInt32)) * (-2048144789))), (4, .int (sv ^^^ nI (L.1 (64 * bk + k)))), (0, .ref a0), (1, .int (nI bk))]) hx hb dX0_sumOf_35 hl (k := 2) rfl (nI_add _ 1) (by decide) rfl (fun ls hl => ?_)
        refine lv_goto (tgt := 4) hx hb dX0_sumOf_38 (by decide) ?_
        exact ih (k + 1) _ (by omega) (by omega) (by rw [hs]; rfl) ls (lv_sub hl [0, 1, 3, 4] rfl)
  refine lv_iconst (v := nI 1) hx hb dX0_sumOf_0 (by decide +kernel) ?_
  refine lv_istore_n (lv' := [(2, .int (nI 1)), (0, .ref a0), (1, .int (nI bk))]) hx hb dX0_sumOf_1 rfl hl (by decide) rfl (fun ls hl => ?_)
  refine lv_iconst (v := nI 0) hx hb dX0_sumOf_2 (by decide +kernel) ?_
  refine lv_istore_n (lv' := [(3, .int (nI 0)), (2, .int (nI 1)), (0, .ref a0), (1, .int (nI bk))]) hx hb dX0_sumOf_3 rfl hl (by decide) rfl (fun ls hl => ?_)
  exact loop 61 0 _ (by omega) (by omega) rfl ls (lv_sub hl [0, 1, 2, 3] rfl)
set_option maxRecDepth 100000 in
set_option maxHeartbeats 4000000 in
/-- writeSum(block) -/
theorem c_X0_writeSum (l : Launch) (D : va_G) (a0 a1 a2 a3 : Nat) (cB cI : ClassId) (n : Nat) (L : Lg) (bk : Nat) (sz : Nat) (hn : n ≤ 64) (hg : ∀ j, L.1 j < 256) (h1 : bk < n) (hw : L.2.2.2 + 4 ≤ 129) : Met l yX0_writeSum wsX0_writeSum ({ frames := 3, cells := 0, slots := 0, locals := 68 }) (wP [.ref a0, .int (nI bk)] D (sW a0 a1 a2 a3 cB cI n L) (ty2 cB cI) sz) (wQv D (sW a0 a1 a2 a3 cB cI n (wS L (64 * bk))) (va_A (sW a0 a1 a2 a3 cB cI n L) sz)) 0 0 (va_A (sW a0 a1 a2 a3 cB cI n L) sz) := by
  refine met_w (by decide) rfl (Nat.le_of_ble_eq_true rfl) ?_
  intro p e s m below meth c hx hb hml hr hlocks hown hts hP hK A hD hA hS ls hl
  have hown : s.vm.findClass RX0 = some m.cls := hown
  have hinX0 : ∀ w ∈ u_ws RX0 TX0 5, w ∈ wsX0_writeSum := by decide +kernel
  have hl : lv_has ls 4 [(0, .ref a0), (1, .int (nI bk))] := hl
  have loop : ∀ (fu k : Nat), k ≤ 4 → 4 - k < fu → ∀ (H : Heap) (locs : List Loc), va_P D vwCl (sW a0 a1 a2 a3 cB cI n (wN L (64 * bk + 60) (sby (smS L.1 (64 * bk) 60)) k)) H → va_D A (sW a0 a1 a2 a3 cB cI n (wN L (64 * bk + 60) (sby (smS L.1 (64 * bk) 60)) k)) → va_S A s.heap H locs → ∀ ls : Array Slot, lv_has ls 4 [(3, .int (nI (60 + k))), (2, .int (smS L.1 (64 * bk) 60)), (0, .ref a0), (1, .int (nI bk))] → W p l e ({ frames := 3, cells := 0, slots := 0, locals := 68 }) s m [.ref a0, .int (nI bk)].toArray below meth c H locs 0 0 (MQ below (wQv D (sW a0 a1 a2 a3 cB cI n (wS L (64 * bk))) A) [.ref a0, .int (nI bk)].toArray s 0 0 A) (F0 m 9 ls []) := by
    intro fu
    induction fu with
    | zero => intro k hk hf; omega
    | succ fu ih =>
      intro k hk hf H locs hP hD hS ls hl
      refine lv_iload_n hx hb dX0_writeSum_9 rfl (lv_at hl 0 rfl) ?_
      refine lv_bipush (v := nI 64) hx hb dX0_writeSum_10 (by decide +kernel) ?_
      refine jb_ge (tgt := 36) hx hb (nI_toInt (n := 60 + k) (by omega)) (nI_toInt (n := 64) (by decide)) dX0_writeSum_12 (by decide) (fun c1 => ?_) (fun c1 => ?_)
      · skip
        have hk9 : k = 4 := by omega
        subst hk9
        exact rt_v hx hb hr hlocks hP hD hS dX0_writeSum_36
      · skip
        refine lv_aload_n hx hb dX0_writeSum_15 rfl (lv_at hl 2 rfl) ?_
        refine lv_iload_n hx hb dX0_writeSum_16 rfl (lv_at hl 3 rfl) ?_
        refine lv_iload_n hx hb dX0_writeSum_17 rfl (lv_at hl 0 rfl) ?_
        refine lv_iload_n hx hb dX0_writeSum_18 rfl (lv_at hl 1 rfl) ?_
        refine lv_bipush (v := nI 8) hx hb dX0_writeSum_19 (by decide +kernel) ?_
        refine lv_iload_n hx hb dX0_writeSum_21 rfl (lv_at hl 0 rfl) ?_
        refine lv_bipush (v := nI 60) hx hb dX0_writeSum_22 (by decide +kernel) ?_
        refine lv_isub hx hb dX0_writeSum_24 ?_
        refine lv_as (y := nI ((60 + k) - 60)) (pk_sub (by omega)) ?_
        refine lv_imul hx hb dX0_writeSum_25 ?_
        refine lv_as (y := nI (8 * ((60 + k) - 60))) (pk_mul _ _) ?_
        refine lv_as (y := nI (8 * k)) (congrArg nI (by omega)) ?_
        refine lv_iushr (v := ((smS L.1 (64 * bk) 60).toUInt32 >>> ((nI (8 * k)).toUInt32 &&& Int32.toUInt32 31)).toInt32) hx hb dX0_writeSum_26 rfl ?_
        refine wr_V (wr := []) (wo := (sW a0 a1 a2 a3 cB cI n (w1 (wN L (64 * bk + 60) (sby (smS L.1 (64 * bk) 60)) k) (64 * bk + (60 + k)) ((sby (smS L.1 (64 * bk) 60)) k)))) (As := [.int (nI bk), .int (nI (60 + k)), .int (((smS L.1 (64 * bk) 60).toUInt32 >>> ((nI (8 * k)).toUInt32 &&& Int32.toUInt32 31)).toInt32)]) (rest := []) ⟨hx, hb, hml, hown, hts⟩ (c_X0_write l D a0 a1 a2 a3 cB cI n (wN L (64 * bk + 60) (sby (smS L.1 (64 * bk) 60)) k) bk (60 + k) (((smS L.1 (64 * bk) 60).toUInt32 >>> ((nI (8 * k)).toUInt32 &&& Int32.toUInt32 31)).toInt32) ((sby (smS L.1 (64 * bk) 60)) k) H.size  hn h1 (by omega) (by rw [wN_c]; omega) (sby_b _ k (by omega))) (cwV 3 hts gX0_writeSum_X0_write rfl rfl rfl (by decide +kernel) ⟨Nat.le_of_ble_eq_true rfl, Nat.le_of_ble_eq_true rfl⟩) hK hP hD hS hA [0, 1, 2, 3] [] rfl rfl rfl rfl (by decide) [0, 1, 2, 3] rfl rfl (ci := 1) rfl rfl (q0 := 0) rfl rfl hl.1 rfl (Nat.le_of_ble_eq_true rfl) dX0_writeSum_27 ⟨Nat.zero_le _, Nat.zero_le _⟩ (fun H locs hP hD hS => ?_)
        have e9 : w1 (wN L (64 * bk + 60) (sby (smS L.1 (64 * bk) 60)) k) (64 * bk + (60 + k)) ((sby (smS L.1 (64 * bk) 60)) k) = wN L (64 * bk + 60) (sby (smS L.1 (64 * bk) 60)) (k + 1) := by show w1 _ _ _ = w1 _ _ _; rw [show 64 * bk + (60 + k) = 64 * bk + 60 + k by omega]
        rw [e9] at hP hD
        refine lv_iinc (v := nI (60 + k + 1)) (lv' := [(3, .int (nI (60 + k + 1))), (2, .int (smS L.1 (64 * bk) 60)), (0, .ref a0), (1, .int (nI bk))]) hx hb dX0_writeSum_30 hl (k := 0) rfl (nI_add _ 1) (by decide) rfl (fun ls hl => ?_)
        refine lv_goto (tgt := 9) hx hb dX0_writeSum_33 (by decide) ?_
        exact ih (k + 1) (by omega) (by omega) H locs hP hD hS ls (lv_sub hl [0, 1, 2, 3] rfl)
  refine lv_aload_n hx hb dX0_writeSum_0 rfl (lv_at hl 0 rfl) ?_
  refine lv_iload_n hx hb dX0_writeSum_1 rfl (lv_at hl 1 rfl) ?_
  refine rd_V (As := [.int (nI bk)]) (rest := []) ⟨hx, hb, hml, hown, hts⟩ (c_X0_sumOf l D a0 a1 a2 a3 cB cI n L bk hn hg h1) (cwV 1 hts gX0_writeSum_X0_sumOf rfl rfl rfl (by decide +kernel) ⟨Nat.le_of_ble_eq_true rfl, Nat.le_of_ble_eq_true rfl⟩) hK hP [0, 1, 2, 3] rfl (ci := 1) rfl rfl (q0 := 0) rfl rfl hl.1 rfl (Nat.le_of_ble_eq_true rfl) dX0_writeSum_2 ⟨Nat.zero_le _, Nat.zero_le _⟩ (fun r2 hr2 => ?_)
  subst hr2
  refine lv_istore_n (lv' := [(2, .int (smS L.1 (64 * bk) 60)), (0, .ref a0), (1, .int (nI bk))]) hx hb dX0_writeSum_5 rfl hl (by decide) rfl (fun ls hl => ?_)
  refine lv_bipush (v := nI 60) hx hb dX0_writeSum_6 (by decide +kernel) ?_
  refine lv_istore_n (lv' := [(3, .int (nI 60)), (2, .int (smS L.1 (64 * bk) 60)), (0, .ref a0), (1, .int (nI bk))]) hx hb dX0_writeSum_8 rfl hl (by decide) rfl (fun ls hl => ?_)
  exact loop 5 0 (by omega) (by omega) s.heap [] hP hD hS ls (lv_sub hl [0, 1, 2, 3] rfl)
set_option maxRecDepth 100000 in
set_option maxHeartbeats 4000000 in
/-- hasRightSum(block) -/
theorem c_X0_hasRightSum (l : Launch) (D : va_G) (a0 a1 a2 a3 : Nat) (cB cI : ClassId) (n : Nat) (L : Lg) (bk : Nat) (hn : n ≤ 64) (hg : ∀ j, L.1 j < 256) (h1 : bk < n) : Met l yX0_hasRightSum wsX0_hasRightSum ({ frames := 3, cells := 0, slots := 0, locals := 68 }) (rP [.ref a0, .int (nI bk)] D (sW a0 a1 a2 a3 cB cI n L) (ty2 cB cI)) (vp_Si (fun r => r = nI (b01 (okS L.1 (64 * bk))))) 0 0 (fun _ => False) := by
  refine met_r (by decide) rfl (Nat.le_of_ble_eq_true rfl) ?_
  intro p e s m below meth c hx hb hml hr hlocks hown hts hP hK ls hl
  have hown : s.vm.findClass RX0 = some m.cls := hown
  have hinX0 : ∀ w ∈ u_ws RX0 TX0 5, w ∈ wsX0_hasRightSum := by decide +kernel
  have hl : lv_has ls 4 [(0, .ref a0), (1, .int (nI bk))] := hl
  have loop : ∀ (fu k : Nat), k ≤ 4 → 4 - k < fu → (∀ j, j < k → L.1 (64 * bk + 60 + j) = (sby (smS L.1 (64 * bk) 60)) j) → ∀ ls : Array Slot, lv_has ls 4 [(3, .int (nI (60 + k))), (2, .int (smS L.1 (64 * bk) 60)), (0, .ref a0), (1, .int (nI bk))] → W p l e ({ frames := 3, cells := 0, slots := 0, locals := 68 }) s m [.ref a0, .int (nI bk)].toArray below meth c s.heap [] 0 0 (MQ below (vp_Si (fun r => r = nI (b01 (okS L.1 (64 * bk))))) [.ref a0, .int (nI bk)].toArray s 0 0 (fun _ => False)) (F0 m 9 ls []) := by
    intro fu
    induction fu with
    | zero => intro k hk hf; omega
    | succ fu ih =>
      intro k hk hf hi ls hl
      refine lv_iload_n hx hb dX0_hasRightSum_9 rfl (lv_at hl 0 rfl) ?_
      refine lv_bipush (v := nI 64) hx hb dX0_hasRightSum_10 (by decide +kernel) ?_
      refine jb_ge (tgt := 45) hx hb (nI_toInt (n := 60 + k) (by omega)) (nI_toInt (n := 64) (by decide)) dX0_hasRightSum_12 (by decide) (fun c1 => ?_) (fun c1 => ?_)
      · skip
        refine lv_iconst (v := nI 1) hx hb dX0_hasRightSum_45 (by decide +kernel) ?_
        have hk9 : k = 4 := by omega
        subst hk9
        exact rt_z hx hb hr hlocks dX0_hasRightSum_46 (by decide +kernel) (by rw [b01_t (show okS L.1 (64 * bk) from hi)])
      · skip
        refine lv_aload_n hx hb dX0_hasRightSum_15 rfl (lv_at hl 2 rfl) ?_
        refine lv_iload_n hx hb dX0_hasRightSum_16 rfl (lv_at hl 3 rfl) ?_
        refine lv_iload_n hx hb dX0_hasRightSum_17 rfl (lv_at hl 0 rfl) ?_
        refine rd_V (As := [.int (nI bk), .int (nI (60 + k))]) (rest := []) ⟨hx, hb, hml, hown, hts⟩ (c_X0_read l D a0 a1 a2 a3 cB cI n L bk (60 + k) hn hg h1 (by omega)) (cwV 2 hts gX0_hasRightSum_X0_read rfl rfl rfl (by decide +kernel) ⟨Nat.le_of_ble_eq_true rfl, Nat.le_of_ble_eq_true rfl⟩) hK hP [0, 1, 2, 3] rfl (ci := 1) rfl rfl (q0 := 0) rfl rfl hl.1 rfl (Nat.le_of_ble_eq_true rfl) dX0_hasRightSum_18 ⟨Nat.zero_le _, Nat.zero_le _⟩ (fun r2 hr2 => ?_)
        subst hr2
        have g9 := hg (64 * bk + (60 + k))
        have s9 := sby_lt (smS L.1 (64 * bk) 60) k
        have e9 : 64 * bk + 60 + k = 64 * bk + (60 + k) := by omega
        refine lv_iload_n hx hb dX0_hasRightSum_21 rfl (lv_at hl 1 rfl) ?_
        refine lv_bipush (v := nI 8) hx hb dX0_hasRightSum_22 (by decide +kernel) ?_
        refine lv_iload_n hx hb dX0_hasRightSum_24 rfl (lv_at hl 0 rfl) ?_
        refine lv_bipush (v := nI 60) hx hb dX0_hasRightSum_25 (by decide +kernel) ?_
        refine lv_isub hx hb dX0_hasRightSum_27 ?_
        refine lv_as (y := nI ((60 + k) - 60)) (pk_sub (by omega)) ?_
        refine lv_imul hx hb dX0_hasRightSum_28 ?_
        refine lv_as (y := nI (8 * ((60 + k) - 60))) (pk_mul _ _) ?_
        refine lv_as (y := nI (8 * k)) (congrArg nI (by omega)) ?_
        refine lv_iushr (v := ((smS L.1 (64 * bk) 60).toUInt32 >>> ((nI (8 * k)).toUInt32 &&& Int32.toUInt32 31)).toInt32) hx hb dX0_hasRightSum_29 rfl ?_
        refine lv_sipush (v := nI 255) hx hb dX0_hasRightSum_30 (by decide +kernel) ?_
        refine lv_iand hx hb dX0_hasRightSum_33 ?_
        refine lv_as (y := nI ((sby (smS L.1 (64 * bk) 60)) k)) (sby_and _ k (by omega)) ?_
        refine jb_eq (tgt := 39) hx hb (nI_toInt (n := L.1 (64 * bk + (60 + k))) (by omega)) (nI_toInt (n := (sby (smS L.1 (64 * bk) 60)) k) (by omega)) dX0_hasRightSum_34 (by decide) (fun cq => ?_) (fun cq => ?_)
        · skip
          refine lv_iinc (v := nI (60 + k + 1)) (lv' := [(3, .int (nI (60 + k + 1))), (2, .int (smS L.1 (64 * bk) 60)), (0, .ref a0), (1, .int (nI bk))]) hx hb dX0_hasRightSum_39 hl (k := 0) rfl (nI_add _ 1) (by decide) rfl (fun ls hl => ?_)
          refine lv_goto (tgt := 9) hx hb dX0_hasRightSum_42 (by decide) ?_
          exact ih (k + 1) (by omega) (by omega) (fun j hj => (Nat.lt_or_eq_of_le (Nat.le_of_lt_succ hj)).elim (hi j) (fun q => by rw [q, e9]; exact Int.ofNat_inj.mp cq)) ls (lv_sub hl [0, 1, 2, 3] rfl)
        · skip
          refine lv_iconst (v := nI 0) hx hb dX0_hasRightSum_37 (by decide +kernel) ?_
          exact rt_z hx hb hr hlocks dX0_hasRightSum_38 (by decide +kernel) (by rw [b01_f (fun h => cq (by have h2 := h k (by omega); rw [e9] at h2; rw [h2]))])
  refine lv_aload_n hx hb dX0_hasRightSum_0 rfl (lv_at hl 0 rfl) ?_
  refine lv_iload_n hx hb dX0_hasRightSum_1 rfl (lv_at hl 1 rfl) ?_
  refine rd_V (As := [.int (nI bk)]) (rest := []) ⟨hx, hb, hml, hown, hts⟩ (c_X0_sumOf l D a0 a1 a2 a3 cB cI n L bk hn hg h1) (cwV 1 hts gX0_hasRightSum_X0_sumOf rfl rfl rfl (by decide +kernel) ⟨Nat.le_of_ble_eq_true rfl, Nat.le_of_ble_eq_true rfl⟩) hK hP [0, 1, 2, 3] rfl (ci := 1) rfl rfl (q0 := 0) rfl rfl hl.1 rfl (Nat.le_of_ble_eq_true rfl) dX0_hasRightSum_2 ⟨Nat.zero_le _, Nat.zero_le _⟩ (fun r3 hr3 => ?_)
  subst hr3
  refine lv_istore_n (lv' := [(2, .int (smS L.1 (64 * bk) 60)), (0, .ref a0), (1, .int (nI bk))]) hx hb dX0_hasRightSum_5 rfl hl (by decide) rfl (fun ls hl => ?_)
  refine lv_bipush (v := nI 60) hx hb dX0_hasRightSum_6 (by decide +kernel) ?_
  refine lv_istore_n (lv' := [(3, .int (nI 60)), (2, .int (smS L.1 (64 * bk) 60)), (0, .ref a0), (1, .int (nI bk))]) hx hb dX0_hasRightSum_8 rfl hl (by decide) rfl (fun ls hl => ?_)
  exact loop 5 0 (by omega) (by omega) (fun j hj => absurd hj (Nat.not_lt_zero j)) ls (lv_sub hl [0, 1, 2, 3] rfl)
set_option maxRecDepth 100000 in
set_option maxHeartbeats 4000000 in
/-- undoAllBut(kept) -/
theorem c_X0_undoAllBut (l : Launch) (D : va_G) (a0 a1 a2 a3 : Nat) (cB cI : ClassId) (n : Nat) (L : Lg) (kp : Nat) (sz : Nat) (hn : n ≤ 64) (h1 : kp ≤ L.2.2.2) (h2 : L.2.2.2 ≤ 129) (hp : ∀ k, k < L.2.2.2 → L.2.1 k < 64 * n) : Met l yX0_undoAllBut wsX0_undoAllBut ({ frames := 1, cells := 0, slots := 0, locals := 21 }) (wP [.ref a0, .int (nI kp)] D (sW a0 a1 a2 a3 cB cI n L) (ty2 cB cI) sz) (wQv D (sW a0 a1 a2 a3 cB cI n (wU L kp)) (va_A (sW a0 a1 a2 a3 cB cI n L) sz)) 0 0 (va_A (sW a0 a1 a2 a3 cB cI n L) sz) := by
  refine met_w (by decide) rfl (Nat.le_of_ble_eq_true rfl) ?_
  intro p e s m below meth c hx hb hml hr hlocks hown hts hP hK A hD hA hS ls hl
  have hown : s.vm.findClass RX0 = some m.cls := hown
  have hinX0 : ∀ w ∈ u_ws RX0 TX0 5, w ∈ wsX0_undoAllBut := by decide +kernel
  have hl : lv_has ls 4 [(0, .ref a0), (1, .int (nI kp))] := hl
  have loop : ∀ (fu j : Nat), kp + j ≤ L.2.2.2 → L.2.2.2 - (kp + j) < fu → ∀ (H : Heap) (locs : List Loc), va_P D vwCl (sW a0 a1 a2 a3 cB cI n (unA L kp j, L.2.1, L.2.2.1, L.2.2.2)) H → va_D A (sW a0 a1 a2 a3 cB cI n (unA L kp j, L.2.1, L.2.2.1, L.2.2.2)) → va_S A s.heap H locs → ∀ ls : Array Slot, lv_has ls 4 [(2, .int (nI (kp + j))), (0, .ref a0), (1, .int (nI kp))] → W p l e ({ frames := 1, cells := 0, slots := 0, locals := 21 }) s m [.ref a0, .int (nI kp)].toArray below meth c H locs 0 0 (MQ below (wQv D (sW a0 a1 a2 a3 cB cI n (wU L kp)) A) [.ref a0, .int (nI kp)].toArray s 0 0 A) (F0 m 6 ls []) := by
    intro fu
    induction fu with
    | zero => intro j hk hf; omega
    | succ fu ih =>
      intro j hk hf H locs hP hD hS ls hl
      refine lv_iload_n hx hb dX0_undoAllBut_6 rfl (lv_at hl 0 rfl) ?_
      refine lv_aload_n hx hb dX0_undoAllBut_7 rfl (lv_at hl 1 rfl) ?_
      refine va_get (D := D) (ci := 1) (v := .int (nI L.2.2.2)) (C := RX0) (T := TX0) (N := 5) hx hb hts hinX0 hown hK hP 0 rfl rfl 4 (by decide) (hts (.fieldLink RX0 19 "PuzzleBook$Store" "changed" "I") (by decide +kernel)) (fun _ h9 => h9) rfl dX0_undoAllBut_8 ?_
      refine jb_ge (tgt := 59) hx hb (nI_toInt (n := kp + j) (by omega)) (nI_toInt (n := L.2.2.2) (by omega)) dX0_undoAllBut_11 (by decide) (fun c1 => ?_) (fun c1 => ?_)
      · skip
        refine lv_aload_n hx hb dX0_undoAllBut_59 rfl (lv_at hl 1 rfl) ?_
        refine lv_iconst (v := nI 0) hx hb dX0_undoAllBut_60 (by decide +kernel) ?_
        refine va_put (D := D) (ci := 1) (v := .int (nI 0)) (ty := .int) (C := RX0) (T := TX0) (N := 5) hx hb hts hinX0 tyX0 tyX0_ok nmX0 hown hK hP hD hS 0 rfl rfl 4 (by decide) (hts (.fieldLink RX0 19 "PuzzleBook$Store" "changed" "I") (by decide +kernel)) (fun _ h9 => h9) rfl (by decide +kernel) rfl rfl (Nat.le_of_ble_eq_true rfl) dX0_undoAllBut_61 (fun H locs hP hD hS => ?_)
        have hP : va_P D vwCl (sW a0 a1 a2 a3 cB cI n (unA L kp j, L.2.1, L.2.2.1, 0)) H := hP
        have hD : va_D A (sW a0 a1 a2 a3 cB cI n (unA L kp j, L.2.1, L.2.2.1, 0)) := hD
        have hk9 : L.2.2.2 - kp = j := by omega
        have e9 : wU L kp = (unA L kp j, L.2.1, L.2.2.1, 0) := by unfold wU; rw [hk9]
        rw [e9]
        exact rt_v hx hb hr hlocks hP hD hS dX0_undoAllBut_64
      · skip
        refine lv_iload_n hx hb dX0_undoAllBut_14 rfl (lv_at hl 0 rfl) ?_
        refine lv_sipush (v := nI 129) hx hb dX0_undoAllBut_15 (by decide +kernel) ?_
        refine jb_ge (tgt := 59) hx hb (nI_toInt (n := kp + j) (by omega)) (nI_toInt (n := 129) (by decide)) dX0_undoAllBut_18 (by decide) (fun c2 => absurd c2 (by omega)) (fun c2 => ?_)
        have p9 := hp (kp + j) (by omega)
        refine lv_aload_n hx hb dX0_undoAllBut_21 rfl (lv_at hl 1 rfl) ?_
        refine va_get (D := D) (ci := 1) (v := .ref a2) (C := RX0) (T := TX0) (N := 5) hx hb hts hinX0 hown hK hP 0 rfl rfl 2 (by decide) (hts (.fieldLink RX0 9 "PuzzleBook$Store" "changedPlaces" "[I") (by decide +kernel)) (fun _ h9 => h9) rfl dX0_undoAllBut_22 ?_
        refine lv_iload_n hx hb dX0_undoAllBut_25 rfl (lv_at hl 0 rfl) ?_
        refine ld_i (f := L.2.1) (k := kp + j) hx hb hK hP 2 1 rfl rfl (by omega) (by decide) dX0_undoAllBut_26 ?_
        refine lv_istore_n (lv' := [(3, .int (nI (L.2.1 (kp + j)))), (2, .int (nI (kp + j))), (0, .ref a0), (1, .int (nI kp))]) hx hb dX0_undoAllBut_27 rfl hl (by decide) rfl (fun ls hl => ?_)
        refine lv_iload_n hx hb dX0_undoAllBut_28 rfl (lv_at hl 0 rfl) ?_
        refine j0_lt (tgt := 53) hx hb (nI_toInt (n := L.2.1 (kp + j)) (by omega)) dX0_undoAllBut_29 (by decide) (fun c3 => absurd c3 (by omega)) (fun c3 => ?_)
        refine lv_iload_n hx hb dX0_undoAllBut_32 rfl (lv_at hl 0 rfl) ?_
        refine lv_aload_n hx hb dX0_undoAllBut_33 rfl (lv_at hl 2 rfl) ?_
        refine va_get (D := D) (ci := 1) (v := .ref a1) (C := RX0) (T := TX0) (N := 5) hx hb hts hinX0 hown hK hP 0 rfl rfl 1 (by decide) (hts (.fieldLink RX0 35 "PuzzleBook$Store" "bytes" "[B") (by decide +kernel)) (fun _ h9 => h9) rfl dX0_undoAllBut_34 ?_
        refine al_i hx hb hK hP 1 0 rfl rfl dX0_undoAllBut_37 ?_
        refine jb_ge (tgt := 53) hx hb (nI_toInt (n := L.2.1 (kp + j)) (by omega)) (nI_toInt (n := (64 * n)) (by omega)) dX0_undoAllBut_38 (by decide) (fun c4 => absurd c4 (by omega)) (fun c4 => ?_)
        refine lv_aload_n hx hb dX0_undoAllBut_41 rfl (lv_at hl 2 rfl) ?_
        refine va_get (D := D) (ci := 1) (v := .ref a1) (C := RX0) (T := TX0) (N := 5) hx hb hts hinX0 hown hK hP 0 rfl rfl 1 (by decide) (hts (.fieldLink RX0 35 "PuzzleBook$Store" "bytes" "[B") (by decide +kernel)) (fun _ h9 => h9) rfl dX0_undoAllBut_42 ?_
        refine lv_iload_n hx hb dX0_undoAllBut_45 rfl (lv_at hl 0 rfl) ?_
        refine lv_aload_n hx hb dX0_undoAllBut_46 rfl (lv_at hl 2 rfl) ?_
        refine va_get (D := D) (ci := 1) (v := .ref a3) (C := RX0) (T := TX0) (N := 5) hx hb hts hinX0 hown hK hP 0 rfl rfl 3 (by decide) (hts (.fieldLink RX0 15 "PuzzleBook$Store" "formerBytes" "[B") (by decide +kernel)) (fun _ h9 => h9) rfl dX0_undoAllBut_47 ?_
        refine lv_iload_n hx hb dX0_undoAllBut_50 rfl (lv_at hl 1 rfl) ?_
        refine ld_b (f := L.2.2.1) (k := kp + j) hx hb hK hP 3 0 rfl rfl (by omega) (by decide) dX0_undoAllBut_51 ?_
        refine st_b (f := unA L kp j) (k := L.2.1 (kp + j)) (x := (L.2.2.1 (kp + j))) hx hb hK hP hD hS 1 0 rfl rfl (by omega) (by omega) (bb_n _) dX0_undoAllBut_52 (fun H locs hP hD hS => ?_)
        have hP : va_P D vwCl (sW a0 a1 a2 a3 cB cI n (va_up (unA L kp j) (L.2.1 (kp + j)) (L.2.2.1 (kp + j)), L.2.1, L.2.2.1, L.2.2.2)) H := hP
        have hD : va_D A (sW a0 a1 a2 a3 cB cI n (va_up (unA L kp j) (L.2.1 (kp + j)) (L.2.2.1 (kp + j)), L.2.1, L.2.2.1, L.2.2.2)) := hD
        refine lv_iinc (v := nI (kp + j + 1)) (lv' := [(2, .int (nI (kp + j + 1))), (3, .int (nI (L.2.1 (kp + j)))), (0, .ref a0), (1, .int (nI kp))]) hx hb dX0_undoAllBut_53 hl (k := 1) rfl (nI_add _ 1) (by decide) rfl (fun ls hl => ?_)
        refine lv_goto (tgt := 6) hx hb dX0_undoAllBut_56 (by decide) ?_
        exact ih (j + 1) (by omega) (by omega) H locs hP hD hS ls (lv_sub hl [0, 2, 3] rfl)
  refine lv_iconst (v := nI 0) hx hb dX0_undoAllBut_0 (by decide +kernel) ?_
  refine lv_iload_n hx hb dX0_undoAllBut_1 rfl (lv_at hl 1 rfl) ?_
  refine va_mmax hx hb (hml.trans hl.1.symm) hown (hts (.methodLink RX0 29 Lib.Math.max.name) (by decide +kernel)) (hts (.static Lib.Math.max.name) (by decide +kernel)) (hts (.initialized "java/lang/Math") (by decide +kernel)) (hts (.code Lib.Math.max.name Lib.Math.max.code 2 (some .int)) (by decide +kernel)) (Nat.le_of_ble_eq_true rfl) (Nat.le_of_ble_eq_true rfl) (Nat.zero_le _) (Nat.zero_le _) dX0_undoAllBut_2 ?_
  refine lv_as (y := nI (max 0 kp)) (nI_max (by omega) (by omega)) ?_
  refine lv_as (y := nI (kp + 0)) (congrArg nI (Nat.max_eq_right (Nat.zero_le _))) ?_
  refine lv_istore_n (lv' := [(2, .int (nI (kp + 0))), (0, .ref a0), (1, .int (nI kp))]) hx hb dX0_undoAllBut_5 rfl hl (by decide) rfl (fun ls hl => ?_)
  exact loop (L.2.2.2 - kp + 1) 0 (by omega) (by omega) s.heap [] hP hD hS ls (lv_sub hl [0, 1, 2] rfl)
end
section
/-! 06: what the book answers, in naturals -/
/-- the entries' blocks, 0 behind them (what is fed likewise) -/
def bO (f : Nat → Nat) (m k : Nat) : Nat := if k < m then f k else 0
theorem bO_t {f : Nat → Nat} {m k : Nat} (h : k < m) : bO f m k = f k := if_pos h
theorem bO_f {f : Nat → Nat} {m k : Nat} (h : ¬ k < m) : bO f m k = 0 := if_neg h
theorem bO_lt {f : Nat → Nat} {m N : Nat} (h0 : 0 < N) (h : ∀ k, k < m → f k < N) (k : Nat) : bO f m k < N := by
  unfold bO; split
  · exact h k ‹_›
  · exact h0
/-- an entry's name -/
def nmO (g : Nat → Nat) (b : Nat) : Nat := g (64 * b) + 256 * g (64 * b + 1)
theorem nm_or {x y : Nat} (hx : x < 256) (hy : y < 256) : nI x ||| (nI y <<< (nI 8 &&& 31)) = nI (x + 256 * y) := by
  have h1 : nI y <<< (nI 8 &&& 31) = nI (y * 2 ^ 8) := pk_shlN _ 8 (by decide +kernel) (by omega)
  rw [h1]
  apply Int32.toBitVec_inj.mp
  show BitVec.ofNat 32 x ||| BitVec.ofNat 32 (y * 2 ^ 8) = BitVec.ofNat 32 (x + 256 * y)
  rw [← BitVec.ofNat_or]
  congr 1
  have h2 := Nat.two_pow_add_eq_or_of_lt (i := 8) (b := x) hx y
  rw [Nat.or_comm, show y * 2 ^ 8 = 2 ^ 8 * y from Nat.mul_comm _ _, ← h2]
  omega
/-- byte i of an entry's row -/
def rwB (g : Nat → Nat) (b : Nat) (iz : Int) : Int32 := if 0 ≤ iz ∧ iz < ((min (g (64 * b + 2)) 48 : Nat) : Int) then nI (g (64 * b + (3 + iz.toNat))) else -1
/-- an entry has the row that is fed -/
def hF (g : Nat → Nat) (b : Nat) (fd : Nat → Nat) (fc : Nat) : Prop := g (64 * b + 2) = fc ∧ ∀ i, i < fc → g (64 * b + (3 + i)) = fd i
/-- the least place below m with P, else m -/
noncomputable def fN (P : Nat → Prop) (m : Nat) : Nat := @dite Nat (∃ k, k < m ∧ P k ∧ ∀ j, j < k → ¬ P j) (Classical.propDecidable _) (fun h => h.choose) (fun _ => m)
theorem fN_eq {P : Nat → Prop} {m k : Nat} (hk : k < m) (hp : P k) (hj : ∀ j, j < k → ¬ P j) : fN P m = k := by
  have h : ∃ k, k < m ∧ P k ∧ ∀ j, j < k → ¬ P j := ⟨k, hk, hp, hj⟩
  have e : fN P m = h.choose := by unfold fN; exact dif_pos h
  obtain ⟨a1, a2, a3⟩ := h.choose_spec
  rw [e]
  rcases Nat.lt_trichotomy h.choose k with q | q | q
  · exact absurd a2 (hj _ q)
  · exact q
  · exact absurd hp (a3 _ q)
theorem fN_no {P : Nat → Prop} {m : Nat} (h : ∀ k, k < m → ¬ P k) : fN P m = m := by
  unfold fN
  exact dif_neg (fun ⟨k, hk, hp, _⟩ => h k hk hp)
theorem fN_le (P : Nat → Prop) (m : Nat) : fN P m ≤ m := by
  by_cases h : ∃ k, k < m ∧ P k ∧ ∀ j, j < k → ¬ P j
  · obtain ⟨k, a, b, d⟩ := h
    rw [fN_eq a b d]; omega
  · unfold fN; rw [dif_neg h]; exact Nat.le_refl m
theorem fN_not {P : Nat → Prop} {m j : Nat} (h : j < fN P m) : ¬ P j := by
  by_cases h2 : ∃ k, k < m ∧ P k ∧ ∀ j, j < k → ¬ P j
  · obtain ⟨k, a, b, d⟩ := h2
    rw [fN_eq a b d] at h
    exact d j h
  · intro hp
    obtain ⟨k, hk, hl⟩ := pk_least P ⟨j, hp⟩
    have hjm : fN P m ≤ m := fN_le P m
    refine h2 ⟨k, ?_, hk, hl⟩
    rcases Nat.lt_or_ge k m with q | q
    · exact q
    · exact absurd hp (hl j (by omega))
theorem fN_is {P : Nat → Prop} {m : Nat} (h : fN P m < m) : P (fN P m) := by
  by_cases h2 : ∃ k, k < m ∧ P k ∧ ∀ j, j < k → ¬ P j
  · obtain ⟨k, a, b, d⟩ := h2
    rw [fN_eq a b d]; exact b
  · unfold fN at h; rw [dif_neg h2] at h; omega
theorem fN_congr {P Q : Nat → Prop} {m : Nat} (h : ∀ k, k < m → (P k ↔ Q k)) : fN P m = fN Q m := by
  by_cases h2 : ∃ k, k < m ∧ P k ∧ ∀ j, j < k → ¬ P j
  · obtain ⟨k, a, b, d⟩ := h2
    rw [fN_eq a b d]
    exact (fN_eq a ((h k a).mp b) (fun j hj q => d j hj ((h j (by omega)).mpr q))).symm
  · have h3 : ∀ k, k < m → ¬ P k := fun k hk hp => by
      obtain ⟨i, hi, hl⟩ := pk_least P ⟨k, hp⟩
      refine h2 ⟨i, ?_, hi, hl⟩
      rcases Nat.lt_or_ge i m with q | q
      · exact q
      · exact absurd hp (hl k (by omega))
    rw [fN_no h3, fN_no (fun k hk q => h3 k hk ((h k hk).mpr q))]
/-- a place, or -1 -/
noncomputable def fI (P : Nat → Prop) (m : Nat) : Int32 := if fN P m < m then nI (fN P m) else -1
theorem fI_t {P : Nat → Prop} {m k : Nat} (hk : k < m) (hp : P k) (hj : ∀ j, j < k → ¬ P j) : fI P m = nI k := by
  unfold fI; rw [fN_eq hk hp hj, if_pos hk]
theorem fI_f {P : Nat → Prop} {m : Nat} (h : ∀ k, k < m → ¬ P k) : fI P m = -1 := by
  unfold fI; rw [fN_no h, if_neg (Nat.lt_irrefl m)]
/-- an entry has the block -/
def tk (E : Nat → Nat) (ec b : Nat) : Prop := ∃ k, k < ec ∧ E k = b
/-- the least free block, n if there is none -/
noncomputable def lfB (E : Nat → Nat) (ec n : Nat) : Nat := 3 + fN (fun j => ¬ tk E ec (3 + j)) (n - 3)
/-- the least of the first k entries' blocks with P, 1000 if there is none -/
noncomputable def lwN (P : Nat → Prop) (E : Nat → Nat) : Nat → Nat
  | 0 => 1000
  | k + 1 => @ite Nat (P (E k)) (Classical.propDecidable _) (min (lwN P E k) (E k)) (lwN P E k)
theorem lwN_t {P : Nat → Prop} {E : Nat → Nat} {k : Nat} (h : P (E k)) : lwN P E (k + 1) = min (lwN P E k) (E k) := if_pos h
theorem lwN_f {P : Nat → Prop} {E : Nat → Nat} {k : Nat} (h : ¬ P (E k)) : lwN P E (k + 1) = lwN P E k := if_neg h
def lwI (x : Nat) : Int32 := if x = 1000 then -1 else nI x
theorem lwN_or {P : Nat → Prop} {E : Nat → Nat} (h : ∀ k, E k < 64) : ∀ k, lwN P E k = 1000 ∨ lwN P E k < 64
  | 0 => Or.inl rfl
  | k + 1 => by
    by_cases q : P (E k)
    · rw [lwN_t q]; have := h k; omega
    · rw [lwN_f q]; exact lwN_or h k
/-- byte i of the row of the last of the first k entries that has the name -/
def fdF (g E : Nat → Nat) (nz iz : Int) : Nat → Int32
  | 0 => -1
  | k + 1 => if ((nmO g (E k) : Nat) : Int) = nz then rwB g (E k) iz else fdF g E nz iz k
def q_find (g E : Nat → Nat) (op ec : Nat) (nz iz : Int) : Int32 := if op = 0 then -1 else fdF g E nz iz ec
def q_entry (g E : Nat → Nat) (op ec : Nat) (kz wz : Int) : Int32 := if op ≠ 0 ∧ 0 ≤ kz ∧ kz < (ec : Int) then (if wz = 0 then nI (nmO g (E kz.toNat)) else if wz = 1 then nI (E kz.toNat) else if wz = 2 then nI (g (64 * E kz.toNat + 2)) else -1) else -1
def q_free (op n ec : Nat) : Int32 := if op = 0 then -1 else nI n - nI 3 - nI ec
def q_root (op tn : Nat) : Int32 := if op = 0 then -1 else nI tn
noncomputable def q_bad (g E : Nat → Nat) (op tn ec : Nat) : Int32 := if op = 0 then -1 else @ite Int32 (okS g (64 * tn)) (Classical.propDecidable _) (lwI (lwN (fun b => ¬ okS g (64 * b)) E ec)) (nI tn)
/-- an entry's block is wrong -/
def wrE (g : Nat → Nat) (b : Nat) : Prop := ¬ okS g (64 * b) ∨ g (64 * b + 2) = 0 ∨ 48 < g (64 * b + 2)
theorem m1_toInt {m : Nat} (h : m < 2 ^ 30) : (nI m - nI 1).toInt = (m : Int) - 1 := pk_sub_toInt h (by decide)
theorem neg1_toInt : (-1 : Int32).toInt = -1 := by decide +kernel
theorem m1_dec {t : Nat} (h : 0 < t) : nI t - nI 1 + Int32.ofInt (-1) = nI (t - 1) - nI 1 := by
  have e : -nI 1 = Int32.ofInt (-1) := by decide +kernel
  rw [pk_sub h, Int32.sub_eq_add_neg (nI (t - 1)) (nI 1), e]
end
section
/-! 07: PuzzleBook, its reads (laid by wip/whole/gen/gen_book.py) -/
theorem lw_none {P : Nat → Prop} {E : Nat → Nat} {k : Nat} (h : lwN P E k = 1000) (hp : P (E k)) (h64 : ∀ k, E k < 64) : nI (E k) = lwI (lwN P E (k + 1)) := by
  have := h64 k
  rw [lwN_t hp, h]
  unfold lwI
  rw [if_neg (by omega)]
  congr 1
  omega
theorem lw_some {P : Nat → Prop} {E : Nat → Nat} {k : Nat} (_ : ¬ lwN P E k = 1000) (hp : P (E k)) (h64 : ∀ k, E k < 64) : nI (min (lwN P E k) (E k)) = lwI (lwN P E (k + 1)) := by
  have := h64 k
  rw [lwN_t hp]
  unfold lwI
  rw [if_neg (by omega)]
theorem lw_skip {P : Nat → Prop} {E : Nat → Nat} {k : Nat} {sv : Int32} (hp : ¬ P (E k)) (hs : sv = lwI (lwN P E k)) : sv = lwI (lwN P E (k + 1)) := by
  rw [lwN_f hp]; exact hs
theorem nmO_lt {g : Nat → Nat} (hg : ∀ j, g j < 256) (b : Nat) : nmO g b < 65536 := by
  have h1 := hg (64 * b)
  have h2 := hg (64 * b + 1)
  unfold nmO
  omega
theorem fdF_t {g E : Nat → Nat} {nz iz : Int} {m : Nat} (hm : 0 < m) (h : ((nmO g (E (m - 1)) : Nat) : Int) = nz) : fdF g E nz iz m = rwB g (E (m - 1)) iz := by
  obtain ⟨j, rfl⟩ : ∃ j, m = j + 1 := ⟨m - 1, by omega⟩
  exact if_pos h
theorem fdF_f {g E : Nat → Nat} {nz iz : Int} {m : Nat} (hm : 0 < m) (h : ¬ ((nmO g (E (m - 1)) : Nat) : Int) = nz) : fdF g E nz iz m = fdF g E nz iz (m - 1) := by
  obtain ⟨j, rfl⟩ : ∃ j, m = j + 1 := ⟨m - 1, by omega⟩
  exact if_neg h
set_option maxRecDepth 100000 in
set_option maxHeartbeats 4000000 in
/-- isEntry(k) -/
theorem c_X1_isEntry (l : Launch) (D : va_G) (b0 b1 b2 a0 a1 a2 a3 : Nat) (cB cI : ClassId) (n : Nat) (L : Lg) (fd : Nat → Nat) (fc : Nat) (op : Nat) (tn : Nat) (eb : Nat → Nat) (ec : Nat) (kv : Int32) (kz : Int) (ho : op ≤ 1) (he : ec ≤ 40) (h1 : kv.toInt = kz) : Met l yX1_isEntry wsX1_isEntry ({ frames := 0, cells := 0, slots := 0, locals := 0 }) (rP [.ref b0, .int kv] D (bW b0 b1 b2 a0 a1 a2 a3 cB cI n L fd fc op tn eb ec) (ty2 cB cI)) (vp_Si (fun r => r = nI (b01 (op ≠ 0 ∧ 0 ≤ kz ∧ kz < ((ec : Nat) : Int))))) 0 0 (fun _ => False) := by
  refine met_r (by decide) rfl (Nat.le_of_ble_eq_true rfl) ?_
  intro p e s m below meth c hx hb hml hr hlocks hown hts hP hK ls hl
  have hown : s.vm.findClass RX1 = some m.cls := hown
  have hinX1 : ∀ w ∈ u_ws RX1 TX1 7, w ∈ wsX1_isEntry := by decide +kernel
  have hl : lv_has ls 2 [(0, .ref b0), (1, .int kv)] := hl
  refine lv_aload_n hx hb dX1_isEntry_0 rfl (lv_at hl 0 rfl) ?_
  refine va_get (D := D) (ci := 2) (v := .int (nI op)) (C := RX1) (T := TX1) (N := 7) hx hb hts hinX1 hown hK hP 0 rfl rfl 3 (by decide) (hts (.fieldLink RX1 45 "PuzzleBook" "isOpen" "Z") (by decide +kernel)) (fun _ h9 => h9) rfl dX1_isEntry_1 ?_
  refine j0_eq (tgt := 23) hx hb (nI_toInt (n := op) (by omega)) dX1_isEntry_4 (by decide) (fun c1 => ?_) (fun c1 => ?_)
  · skip
    refine lv_iconst (v := nI 0) hx hb dX1_isEntry_23 (by decide +kernel) ?_
    exact rt_z hx hb hr hlocks dX1_isEntry_24 (by decide +kernel) (by rw [b01_f (by omega)])
  · skip
    refine lv_iload_n hx hb dX1_isEntry_7 rfl (lv_at hl 1 rfl) ?_
    refine j0_lt (tgt := 23) hx hb h1 dX1_isEntry_8 (by decide) (fun c2 => ?_) (fun c2 => ?_)
    · skip
      refine lv_iconst (v := nI 0) hx hb dX1_isEntry_23 (by decide +kernel) ?_
      exact rt_z hx hb hr hlocks dX1_isEntry_24 (by decide +kernel) (by rw [b01_f (by omega)])
    · skip
      refine lv_iload_n hx hb dX1_isEntry_11 rfl (lv_at hl 1 rfl) ?_
      refine lv_aload_n hx hb dX1_isEntry_12 rfl (lv_at hl 0 rfl) ?_
      refine va_get (D := D) (ci := 2) (v := .int (nI ec)) (C := RX1) (T := TX1) (N := 7) hx hb hts hinX1 hown hK hP 0 rfl rfl 6 (by decide) (hts (.fieldLink RX1 20 "PuzzleBook" "entryCount" "I") (by decide +kernel)) (fun _ h9 => h9) rfl dX1_isEntry_13 ?_
      refine jb_ge (tgt := 23) hx hb h1 (nI_toInt (n := ec) (by omega)) dX1_isEntry_16 (by decide) (fun c3 => ?_) (fun c3 => ?_)
      · skip
        refine lv_iconst (v := nI 0) hx hb dX1_isEntry_23 (by decide +kernel) ?_
        exact rt_z hx hb hr hlocks dX1_isEntry_24 (by decide +kernel) (by rw [b01_f (by omega)])
      · skip
        refine lv_iconst (v := nI 1) hx hb dX1_isEntry_19 (by decide +kernel) ?_
        refine lv_goto (tgt := 24) hx hb dX1_isEntry_20 (by decide) ?_
        exact rt_z hx hb hr hlocks dX1_isEntry_24 (by decide +kernel) (by rw [b01_t (by omega)])
set_option maxRecDepth 100000 in
set_option maxHeartbeats 4000000 in
/-- blockOf(k) -/
theorem c_X1_blockOf (l : Launch) (D : va_G) (b0 b1 b2 a0 a1 a2 a3 : Nat) (cB cI : ClassId) (n : Nat) (L : Lg) (fd : Nat → Nat) (fc : Nat) (op : Nat) (tn : Nat) (eb : Nat → Nat) (ec : Nat) (k : Nat) (hm : ec ≤ 40) (hk : k < 2 ^ 31) : Met l yX1_blockOf wsX1_blockOf ({ frames := 0, cells := 0, slots := 0, locals := 0 }) (rP [.ref b0, .int (nI k)] D (bW b0 b1 b2 a0 a1 a2 a3 cB cI n L fd fc op tn eb ec) (ty2 cB cI)) (vp_Si (fun r => r = nI (bO eb ec k))) 0 0 (fun _ => False) := by
  refine met_r (by decide) rfl (Nat.le_of_ble_eq_true rfl) ?_
  intro p e s m below meth c hx hb hml hr hlocks hown hts hP hK ls hl
  have hown : s.vm.findClass RX1 = some m.cls := hown
  have hinX1 : ∀ w ∈ u_ws RX1 TX1 7, w ∈ wsX1_blockOf := by decide +kernel
  have hl : lv_has ls 2 [(0, .ref b0), (1, .int (nI k))] := hl
  refine lv_iload_n hx hb dX1_blockOf_0 rfl (lv_at hl 1 rfl) ?_
  refine j0_lt (tgt := 30) hx hb (nI_toInt (n := k) (by omega)) dX1_blockOf_1 (by decide) (fun c1 => absurd c1 (by omega)) (fun c1 => ?_)
  refine lv_iload_n hx hb dX1_blockOf_4 rfl (lv_at hl 1 rfl) ?_
  refine lv_aload_n hx hb dX1_blockOf_5 rfl (lv_at hl 0 rfl) ?_
  refine va_get (D := D) (ci := 2) (v := .int (nI ec)) (C := RX1) (T := TX1) (N := 7) hx hb hts hinX1 hown hK hP 0 rfl rfl 6 (by decide) (hts (.fieldLink RX1 20 "PuzzleBook" "entryCount" "I") (by decide +kernel)) (fun _ h9 => h9) rfl dX1_blockOf_6 ?_
  refine jb_ge (tgt := 30) hx hb (nI_toInt (n := k) (by omega)) (nI_toInt (n := ec) (by omega)) dX1_blockOf_9 (by decide) (fun c2 => ?_) (fun c2 => ?_)
  · skip
    refine lv_iconst (v := nI 0) hx hb dX1_blockOf_30 (by decide +kernel) ?_
    exact rt_i hx hb hr hlocks dX1_blockOf_31 (by rw [bO_f (by omega)])
  · skip
    refine lv_iload_n hx hb dX1_blockOf_12 rfl (lv_at hl 1 rfl) ?_
    refine lv_aload_n hx hb dX1_blockOf_13 rfl (lv_at hl 0 rfl) ?_
    refine va_get (D := D) (ci := 2) (v := .ref b2) (C := RX1) (T := TX1) (N := 7) hx hb hts hinX1 hown hK hP 0 rfl rfl 5 (by decide) (hts (.fieldLink RX1 17 "PuzzleBook" "entryBlocks" "[I") (by decide +kernel)) (fun _ h9 => h9) rfl dX1_blockOf_14 ?_
    refine al_i hx hb hK hP 2 1 rfl rfl dX1_blockOf_17 ?_
    refine jb_ge (tgt := 30) hx hb (nI_toInt (n := k) (by omega)) (nI_toInt (n := 40) (by decide)) dX1_blockOf_18 (by decide) (fun c3 => absurd c3 (by omega)) (fun c3 => ?_)
    refine lv_aload_n hx hb dX1_blockOf_21 rfl (lv_at hl 0 rfl) ?_
    refine va_get (D := D) (ci := 2) (v := .ref b2) (C := RX1) (T := TX1) (N := 7) hx hb hts hinX1 hown hK hP 0 rfl rfl 5 (by decide) (hts (.fieldLink RX1 17 "PuzzleBook" "entryBlocks" "[I") (by decide +kernel)) (fun _ h9 => h9) rfl dX1_blockOf_22 ?_
    refine lv_iload_n hx hb dX1_blockOf_25 rfl (lv_at hl 1 rfl) ?_
    refine ld_i (f := eb) (k := k) hx hb hK hP 2 1 rfl rfl (by omega) (by decide) dX1_blockOf_26 ?_
    refine lv_goto (tgt := 31) hx hb dX1_blockOf_27 (by decide) ?_
    exact rt_i hx hb hr hlocks dX1_blockOf_31 (by rw [bO_t (by omega)])
set_option maxRecDepth 100000 in
set_option maxHeartbeats 4000000 in
/-- fedByte(k) -/
theorem c_X1_fedByte (l : Launch) (D : va_G) (b0 b1 b2 a0 a1 a2 a3 : Nat) (cB cI : ClassId) (n : Nat) (L : Lg) (fd : Nat → Nat) (fc : Nat) (op : Nat) (tn : Nat) (eb : Nat → Nat) (ec : Nat) (k : Nat) (hm : fc ≤ 48) (hk : k < 2 ^ 31) : Met l yX1_fedByte wsX1_fedByte ({ frames := 0, cells := 0, slots := 0, locals := 0 }) (rP [.ref b0, .int (nI k)] D (bW b0 b1 b2 a0 a1 a2 a3 cB cI n L fd fc op tn eb ec) (ty2 cB cI)) (vp_Si (fun r => r = nI (bO fd fc k))) 0 0 (fun _ => False) := by
  refine met_r (by decide) rfl (Nat.le_of_ble_eq_true rfl) ?_
  intro p e s m below meth c hx hb hml hr hlocks hown hts hP hK ls hl
  have hown : s.vm.findClass RX1 = some m.cls := hown
  have hinX1 : ∀ w ∈ u_ws RX1 TX1 7, w ∈ wsX1_fedByte := by decide +kernel
  have hl : lv_has ls 2 [(0, .ref b0), (1, .int (nI k))] := hl
  refine lv_iload_n hx hb dX1_fedByte_0 rfl (lv_at hl 1 rfl) ?_
  refine j0_lt (tgt := 30) hx hb (nI_toInt (n := k) (by omega)) dX1_fedByte_1 (by decide) (fun c1 => absurd c1 (by omega)) (fun c1 => ?_)
  refine lv_iload_n hx hb dX1_fedByte_4 rfl (lv_at hl 1 rfl) ?_
  refine lv_aload_n hx hb dX1_fedByte_5 rfl (lv_at hl 0 rfl) ?_
  refine va_get (D := D) (ci := 2) (v := .int (nI fc)) (C := RX1) (T := TX1) (N := 7) hx hb hts hinX1 hown hK hP 0 rfl rfl 2 (by decide) (hts (.fieldLink RX1 13 "PuzzleBook" "fedCount" "I") (by decide +kernel)) (fun _ h9 => h9) rfl dX1_fedByte_6 ?_
  refine jb_ge (tgt := 30) hx hb (nI_toInt (n := k) (by omega)) (nI_toInt (n := fc) (by omega)) dX1_fedByte_9 (by decide) (fun c2 => ?_) (fun c2 => ?_)
  · skip
    refine lv_iconst (v := nI 0) hx hb dX1_fedByte_30 (by decide +kernel) ?_
    exact rt_i hx hb hr hlocks dX1_fedByte_31 (by rw [bO_f (by omega)])
  · skip
    refine lv_iload_n hx hb dX1_fedByte_12 rfl (lv_at hl 1 rfl) ?_
    refine lv_aload_n hx hb dX1_fedByte_13 rfl (lv_at hl 0 rfl) ?_
    refine va_get (D := D) (ci := 2) (v := .ref b1) (C := RX1) (T := TX1) (N := 7) hx hb hts hinX1 hown hK hP 0 rfl rfl 1 (by decide) (hts (.fieldLink RX1 9 "PuzzleBook" "fedBytes" "[I") (by decide +kernel)) (fun _ h9 => h9) rfl dX1_fedByte_14 ?_
    refine al_i hx hb hK hP 1 1 rfl rfl dX1_fedByte_17 ?_
    refine jb_ge (tgt := 30) hx hb (nI_toInt (n := k) (by omega)) (nI_toInt (n := 48) (by decide)) dX1_fedByte_18 (by decide) (fun c3 => absurd c3 (by omega)) (fun c3 => ?_)
    refine lv_aload_n hx hb dX1_fedByte_21 rfl (lv_at hl 0 rfl) ?_
    refine va_get (D := D) (ci := 2) (v := .ref b1) (C := RX1) (T := TX1) (N := 7) hx hb hts hinX1 hown hK hP 0 rfl rfl 1 (by decide) (hts (.fieldLink RX1 9 "PuzzleBook" "fedBytes" "[I") (by decide +kernel)) (fun _ h9 => h9) rfl dX1_fedByte_22 ?_
    refine lv_iload_n hx hb dX1_fedByte_25 rfl (lv_at hl 1 rfl) ?_
    refine ld_i (f := fd) (k := k) hx hb hK hP 1 1 rfl rfl (by omega) (by decide) dX1_fedByte_26 ?_
    refine lv_goto (tgt := 31) hx hb dX1_fedByte_27 (by decide) ?_
    exact rt_i hx hb hr hlocks dX1_fedByte_31 (by rw [bO_t (by omega)])
set_option maxRecDepth 100000 in
set_option maxHeartbeats 4000000 in
/-- nameOf(k) -/
theorem c_X1_nameOf (l : Launch) (D : va_G) (b0 b1 b2 a0 a1 a2 a3 : Nat) (cB cI : ClassId) (n : Nat) (L : Lg) (fd : Nat → Nat) (fc : Nat) (op : Nat) (tn : Nat) (eb : Nat → Nat) (ec : Nat) (k : Nat) (hn : n ≤ 64) (hg : ∀ j, L.1 j < 256) (he : ec ≤ 40) (hE : ∀ k, bO eb ec k < n) (hk : k < 2 ^ 31) : Met l yX1_nameOf wsX1_nameOf ({ frames := 2, cells := 0, slots := 0, locals := 44 }) (rP [.ref b0, .int (nI k)] D (bW b0 b1 b2 a0 a1 a2 a3 cB cI n L fd fc op tn eb ec) (ty2 cB cI)) (vp_Si (fun r => r = nI (nmO L.1 (bO eb ec k)))) 0 0 (fun _ => False) := by
  refine met_r (by decide) rfl (Nat.le_of_ble_eq_true rfl) ?_
  intro p e s m below meth c hx hb hml hr hlocks hown hts hP hK ls hl
  have hown : s.vm.findClass RX1 = some m.cls := hown
  have hinX1 : ∀ w ∈ u_ws RX1 TX1 7, w ∈ wsX1_nameOf := by decide +kernel
  have hinX0 : ∀ w ∈ u_ws RX0 TX0 5, w ∈ wsX1_nameOf := by decide +kernel
  have hl : lv_has ls 3 [(0, .ref b0), (1, .int (nI k))] := hl
  refine lv_aload_n hx hb dX1_nameOf_0 rfl (lv_at hl 0 rfl) ?_
  refine lv_iload_n hx hb dX1_nameOf_1 rfl (lv_at hl 1 rfl) ?_
  refine rd_V (As := [.int (nI k)]) (rest := []) ⟨hx, hb, hml, hown, hts⟩ (c_X1_blockOf l D b0 b1 b2 a0 a1 a2 a3 cB cI n L fd fc op tn eb ec k he (by omega)) (cwV 1 hts gX1_nameOf_X1_blockOf rfl rfl rfl (by decide +kernel) ⟨Nat.le_of_ble_eq_true rfl, Nat.le_of_ble_eq_true rfl⟩) hK hP [0, 1, 2, 3, 4, 5, 6] rfl (ci := 2) rfl rfl (q0 := 0) rfl rfl hl.1 rfl (Nat.le_of_ble_eq_true rfl) dX1_nameOf_2 ⟨Nat.zero_le _, Nat.zero_le _⟩ (fun r1 hr1 => ?_)
  subst hr1
  refine lv_istore_n (lv' := [(2, .int (nI (bO eb ec k))), (0, .ref b0), (1, .int (nI k))]) hx hb dX1_nameOf_5 rfl hl (by decide) rfl (fun ls hl => ?_)
  refine lv_aload_n hx hb dX1_nameOf_6 rfl (lv_at hl 1 rfl) ?_
  refine va_get (D := D) (ci := 2) (v := .ref a0) (C := RX1) (T := TX1) (N := 7) hx hb hts hinX1 hown hK hP 0 rfl rfl 0 (by decide) (hts (.fieldLink RX1 28 "PuzzleBook" "store" "LPuzzleBook$Store;") (by decide +kernel)) (fun _ h9 => h9) rfl dX1_nameOf_7 ?_
  refine lv_iload_n hx hb dX1_nameOf_10 rfl (lv_at hl 0 rfl) ?_
  refine lv_iconst (v := nI 0) hx hb dX1_nameOf_11 (by decide +kernel) ?_
  refine rd_V (As := [.int (nI (bO eb ec k)), .int (nI 0)]) (rest := []) ⟨hx, hb, hml, hown, hts⟩ (c_X0_read l D a0 a1 a2 a3 cB cI n L (bO eb ec k) 0 hn hg (hE _) (by omega)) (cwV 2 hts gX1_nameOf_X0_read rfl rfl rfl (by decide +kernel) ⟨Nat.le_of_ble_eq_true rfl, Nat.le_of_ble_eq_true rfl⟩) hK hP [3, 4, 5, 6] rfl (ci := 1) rfl rfl (q0 := 3) rfl rfl hl.1 rfl (Nat.le_of_ble_eq_true rfl) dX1_nameOf_12 ⟨Nat.zero_le _, Nat.zero_le _⟩ (fun r2 hr2 => ?_)
  subst hr2
  refine lv_aload_n hx hb dX1_nameOf_15 rfl (lv_at hl 1 rfl) ?_
  refine va_get (D := D) (ci := 2) (v := .ref a0) (C := RX1) (T := TX1) (N := 7) hx hb hts hinX1 hown hK hP 0 rfl rfl 0 (by decide) (hts (.fieldLink RX1 28 "PuzzleBook" "store" "LPuzzleBook$Store;") (by decide +kernel)) (fun _ h9 => h9) rfl dX1_nameOf_16 ?_
  refine lv_iload_n hx hb dX1_nameOf_19 rfl (lv_at hl 0 rfl) ?_
  refine lv_iconst (v := nI 1) hx hb dX1_nameOf_20 (by decide +kernel) ?_
  refine rd_V (As := [.int (nI (bO eb ec k)), .int (nI 1)]) (rest := [.int (nI (L.1 (64 * (bO eb ec k) + 0)))]) ⟨hx, hb, hml, hown, hts⟩ (c_X0_read l D a0 a1 a2 a3 cB cI n L (bO eb ec k) 1 hn hg (hE _) (by omega)) (cwV 2 hts gX1_nameOf_X0_read rfl rfl rfl (by decide +kernel) ⟨Nat.le_of_ble_eq_true rfl, Nat.le_of_ble_eq_true rfl⟩) hK hP [3, 4, 5, 6] rfl (ci := 1) rfl rfl (q0 := 3) rfl rfl hl.1 rfl (Nat.le_of_ble_eq_true rfl) dX1_nameOf_21 ⟨Nat.zero_le _, Nat.zero_le _⟩ (fun r3 hr3 => ?_)
  subst hr3
  refine lv_bipush (v := nI 8) hx hb dX1_nameOf_24 (by decide +kernel) ?_
  refine lv_ishl hx hb dX1_nameOf_26 ?_
  refine lv_ior hx hb dX1_nameOf_27 ?_
  exact rt_i hx hb hr hlocks dX1_nameOf_28 (nm_or (hg _) (hg _))
set_option maxRecDepth 100000 in
set_option maxHeartbeats 4000000 in
/-- lengthOf(k) -/
theorem c_X1_lengthOf (l : Launch) (D : va_G) (b0 b1 b2 a0 a1 a2 a3 : Nat) (cB cI : ClassId) (n : Nat) (L : Lg) (fd : Nat → Nat) (fc : Nat) (op : Nat) (tn : Nat) (eb : Nat → Nat) (ec : Nat) (k : Nat) (hn : n ≤ 64) (hg : ∀ j, L.1 j < 256) (he : ec ≤ 40) (hE : ∀ k, bO eb ec k < n) (hk : k < 2 ^ 31) : Met l yX1_lengthOf wsX1_lengthOf ({ frames := 2, cells := 0, slots := 0, locals := 44 }) (rP [.ref b0, .int (nI k)] D (bW b0 b1 b2 a0 a1 a2 a3 cB cI n L fd fc op tn eb ec) (ty2 cB cI)) (vp_Si (fun r => r = nI (L.1 (64 * bO eb ec k + 2)))) 0 0 (fun _ => False) := by
  refine met_r (by decide) rfl (Nat.le_of_ble_eq_true rfl) ?_
  intro p e s m below meth c hx hb hml hr hlocks hown hts hP hK ls hl
  have hown : s.vm.findClass RX1 = some m.cls := hown
  have hinX1 : ∀ w ∈ u_ws RX1 TX1 7, w ∈ wsX1_lengthOf := by decide +kernel
  have hinX0 : ∀ w ∈ u_ws RX0 TX0 5, w ∈ wsX1_lengthOf := by decide +kernel
  have hl : lv_has ls 2 [(0, .ref b0), (1, .int (nI k))] := hl
  refine lv_aload_n hx hb dX1_lengthOf_0 rfl (lv_at hl 0 rfl) ?_
  refine va_get (D := D) (ci := 2) (v := .ref a0) (C := RX1) (T := TX1) (N := 7) hx hb hts hinX1 hown hK hP 0 rfl rfl 0 (by decide) (hts (.fieldLink RX1 28 "PuzzleBook" "store" "LPuzzleBook$Store;") (by decide +kernel)) (fun _ h9 => h9) rfl dX1_lengthOf_1 ?_
  refine lv_aload_n hx hb dX1_lengthOf_4 rfl (lv_at hl 0 rfl) ?_
  refine lv_iload_n hx hb dX1_lengthOf_5 rfl (lv_at hl 1 rfl) ?_
  refine rd_V (As := [.int (nI k)]) (rest := [.ref a0]) ⟨hx, hb, hml, hown, hts⟩ (c_X1_blockOf l D b0 b1 b2 a0 a1 a2 a3 cB cI n L fd fc op tn eb ec k he (by omega)) (cwV 1 hts gX1_lengthOf_X1_blockOf rfl rfl rfl (by decide +kernel) ⟨Nat.le_of_ble_eq_true rfl, Nat.le_of_ble_eq_true rfl⟩) hK hP [0, 1, 2, 3, 4, 5, 6] rfl (ci := 2) rfl rfl (q0 := 0) rfl rfl hl.1 rfl (Nat.le_of_ble_eq_true rfl) dX1_lengthOf_6 ⟨Nat.zero_le _, Nat.zero_le _⟩ (fun r1 hr1 => ?_)
  subst hr1
  refine lv_iconst (v := nI 2) hx hb dX1_lengthOf_9 (by decide +kernel) ?_
  refine rd_V (As := [.int (nI (bO eb ec k)), .int (nI 2)]) (rest := []) ⟨hx, hb, hml, hown, hts⟩ (c_X0_read l D a0 a1 a2 a3 cB cI n L (bO eb ec k) 2 hn hg (hE _) (by omega)) (cwV 2 hts gX1_lengthOf_X0_read rfl rfl rfl (by decide +kernel) ⟨Nat.le_of_ble_eq_true rfl, Nat.le_of_ble_eq_true rfl⟩) hK hP [3, 4, 5, 6] rfl (ci := 1) rfl rfl (q0 := 3) rfl rfl hl.1 rfl (Nat.le_of_ble_eq_true rfl) dX1_lengthOf_10 ⟨Nat.zero_le _, Nat.zero_le _⟩ (fun r2 hr2 => ?_)
  subst hr2
  exact rt_i hx hb hr hlocks dX1_lengthOf_13 rfl
set_option maxRecDepth 100000 in
set_option maxHeartbeats 4000000 in
/-- rowByte(k, i) -/
theorem c_X1_rowByte (l : Launch) (D : va_G) (b0 b1 b2 a0 a1 a2 a3 : Nat) (cB cI : ClassId) (n : Nat) (L : Lg) (fd : Nat → Nat) (fc : Nat) (op : Nat) (tn : Nat) (eb : Nat → Nat) (ec : Nat) (k : Nat) (iv : Int32) (iz : Int) (hn : n ≤ 64) (hg : ∀ j, L.1 j < 256) (he : ec ≤ 40) (hE : ∀ k, bO eb ec k < n) (hk : k < 2 ^ 31) (h1 : iv.toInt = iz) : Met l yX1_rowByte wsX1_rowByte ({ frames := 3, cells := 0, slots := 0, locals := 65 }) (rP [.ref b0, .int (nI k), .int iv] D (bW b0 b1 b2 a0 a1 a2 a3 cB cI n L fd fc op tn eb ec) (ty2 cB cI)) (vp_Si (fun r => r = rwB L.1 (bO eb ec k) iz)) 0 0 (fun _ => False) := by
  refine met_r (by decide) rfl (Nat.le_of_ble_eq_true rfl) ?_
  intro p e s m below meth c hx hb hml hr hlocks hown hts hP hK ls hl
  have hown : s.vm.findClass RX1 = some m.cls := hown
  have hinX1 : ∀ w ∈ u_ws RX1 TX1 7, w ∈ wsX1_rowByte := by decide +kernel
  have hinX0 : ∀ w ∈ u_ws RX0 TX0 5, w ∈ wsX1_rowByte := by decide +kernel
  have hl : lv_has ls 4 [(0, .ref b0), (1, .int (nI k)), (2, .int iv)] := hl
  refine lv_aload_n hx hb dX1_rowByte_0 rfl (lv_at hl 0 rfl) ?_
  refine lv_iload_n hx hb dX1_rowByte_1 rfl (lv_at hl 1 rfl) ?_
  refine rd_V (As := [.int (nI k)]) (rest := []) ⟨hx, hb, hml, hown, hts⟩ (c_X1_lengthOf l D b0 b1 b2 a0 a1 a2 a3 cB cI n L fd fc op tn eb ec k hn hg he hE hk) (cwV 1 hts gX1_rowByte_X1_lengthOf rfl rfl rfl (by decide +kernel) ⟨Nat.le_of_ble_eq_true rfl, Nat.le_of_ble_eq_true rfl⟩) hK hP [0, 1, 2, 3, 4, 5, 6] rfl (ci := 2) rfl rfl (q0 := 0) rfl rfl hl.1 rfl (Nat.le_of_ble_eq_true rfl) dX1_rowByte_2 ⟨Nat.zero_le _, Nat.zero_le _⟩ (fun r1 hr1 => ?_)
  subst hr1
  have g9 := hg (64 * bO eb ec k + 2)
  refine lv_bipush (v := nI 48) hx hb dX1_rowByte_5 (by decide +kernel) ?_
  refine va_mmin hx hb (hml.trans hl.1.symm) hown (hts (.methodLink RX1 123 Lib.Math.min.name) (by decide +kernel)) (hts (.static Lib.Math.min.name) (by decide +kernel)) (hts (.initialized "java/lang/Math") (by decide +kernel)) (hts (.code Lib.Math.min.name Lib.Math.min.code 2 (some .int)) (by decide +kernel)) (Nat.le_of_ble_eq_true rfl) (Nat.le_of_ble_eq_true rfl) (Nat.zero_le _) (Nat.zero_le _) dX1_rowByte_7 ?_
  refine lv_as (y := nI (min (L.1 (64 * bO eb ec k + 2)) 48)) (nI_min (by omega) (by omega)) ?_
  refine lv_istore_n (lv' := [(3, .int (nI (min (L.1 (64 * bO eb ec k + 2)) 48))), (0, .ref b0), (1, .int (nI k)), (2, .int iv)]) hx hb dX1_rowByte_10 rfl hl (by decide) rfl (fun ls hl => ?_)
  refine lv_iload_n hx hb dX1_rowByte_11 rfl (lv_at hl 3 rfl) ?_
  refine j0_lt (tgt := 38) hx hb h1 dX1_rowByte_12 (by decide) (fun c2 => ?_) (fun c2 => ?_)
  · skip
    refine lv_iconst (v := -1) hx hb dX1_rowByte_38 (by decide +kernel) ?_
    exact rt_i hx hb hr hlocks dX1_rowByte_39 (by unfold rwB; rw [if_neg (by omega)])
  · skip
    refine lv_iload_n hx hb dX1_rowByte_15 rfl (lv_at hl 3 rfl) ?_
    refine lv_iload_n hx hb dX1_rowByte_16 rfl (lv_at hl 0 rfl) ?_
    refine jb_ge (tgt := 38) hx hb h1 (nI_toInt (n := min (L.1 (64 * bO eb ec k + 2)) 48) (by omega)) dX1_rowByte_17 (by decide) (fun c3 => ?_) (fun c3 => ?_)
    · skip
      refine lv_iconst (v := -1) hx hb dX1_rowByte_38 (by decide +kernel) ?_
      exact rt_i hx hb hr hlocks dX1_rowByte_39 (by unfold rwB; rw [if_neg (by omega)])
    · skip
      obtain ⟨j, hj⟩ : ∃ j : Nat, iz = (j : Int) := ⟨iz.toNat, by omega⟩
      have hj2 : iv = nI j := Int32.toInt_inj.mp (by rw [h1, hj, nI_toInt (by omega)])
      refine lv_aload_n hx hb dX1_rowByte_20 rfl (lv_at hl 1 rfl) ?_
      refine va_get (D := D) (ci := 2) (v := .ref a0) (C := RX1) (T := TX1) (N := 7) hx hb hts hinX1 hown hK hP 0 rfl rfl 0 (by decide) (hts (.fieldLink RX1 28 "PuzzleBook" "store" "LPuzzleBook$Store;") (by decide +kernel)) (fun _ h9 => h9) rfl dX1_rowByte_21 ?_
      refine lv_aload_n hx hb dX1_rowByte_24 rfl (lv_at hl 1 rfl) ?_
      refine lv_iload_n hx hb dX1_rowByte_25 rfl (lv_at hl 2 rfl) ?_
      refine rd_V (As := [.int (nI k)]) (rest := [.ref a0]) ⟨hx, hb, hml, hown, hts⟩ (c_X1_blockOf l D b0 b1 b2 a0 a1 a2 a3 cB cI n L fd fc op tn eb ec k he (by omega)) (cwV 1 hts gX1_rowByte_X1_blockOf rfl rfl rfl (by decide +kernel) ⟨Nat.le_of_ble_eq_true rfl, Nat.le_of_ble_eq_true rfl⟩) hK hP [0, 1, 2, 3, 4, 5, 6] rfl (ci := 2) rfl rfl (q0 := 0) rfl rfl hl.1 rfl (Nat.le_of_ble_eq_true rfl) dX1_rowByte_26 ⟨Nat.zero_le _, Nat.zero_le _⟩ (fun r4 hr4 => ?_)
      subst hr4
      refine lv_iconst (v := nI 3) hx hb dX1_rowByte_29 (by decide +kernel) ?_
      refine lv_iload_n hx hb dX1_rowByte_30 rfl (lv_at hl 3 rfl) ?_
      refine lv_as (y := nI j) hj2 ?_
      refine lv_iadd hx hb dX1_rowByte_31 ?_
      refine lv_as (y := nI (3 + j)) (nI_add _ _) ?_
      refine rd_V (As := [.int (nI (bO eb ec k)), .int (nI (3 + j))]) (rest := []) ⟨hx, hb, hml, hown, hts⟩ (c_X0_read l D a0 a1 a2 a3 cB cI n L (bO eb ec k) (3 + j) hn hg (hE _) (by omega)) (cwV 2 hts gX1_rowByte_X0_read rfl rfl rfl (by decide +kernel) ⟨Nat.le_of_ble_eq_true rfl, Nat.le_of_ble_eq_true rfl⟩) hK hP [3, 4, 5, 6] rfl (ci := 1) rfl rfl (q0 := 3) rfl rfl hl.1 rfl (Nat.le_of_ble_eq_true rfl) dX1_rowByte_32 ⟨Nat.zero_le _, Nat.zero_le _⟩ (fun r5 hr5 => ?_)
      subst hr5
      refine lv_goto (tgt := 39) hx hb dX1_rowByte_35 (by decide) ?_
      exact rt_i hx hb hr hlocks dX1_rowByte_39 (by unfold rwB; rw [if_pos (by omega), hj]; rfl)
set_option maxRecDepth 100000 in
set_option maxHeartbeats 4000000 in
/-- hasFedRow(k) -/
theorem c_X1_hasFedRow (l : Launch) (D : va_G) (b0 b1 b2 a0 a1 a2 a3 : Nat) (cB cI : ClassId) (n : Nat) (L : Lg) (fd : Nat → Nat) (fc : Nat) (op : Nat) (tn : Nat) (eb : Nat → Nat) (ec : Nat) (k : Nat) (hn : n ≤ 64) (hg : ∀ j, L.1 j < 256) (he : ec ≤ 40) (hE : ∀ k, bO eb ec k < n) (hk : k < 2 ^ 31) (hf : fc ≤ 48) (hd : ∀ i, fd i < 256) : Met l yX1_hasFedRow wsX1_hasFedRow ({ frames := 4, cells := 0, slots := 0, locals := 88 }) (rP [.ref b0, .int (nI k)] D (bW b0 b1 b2 a0 a1 a2 a3 cB cI n L fd fc op tn eb ec) (ty2 cB cI)) (vp_Si (fun r => r = nI (b01 (hF L.1 (bO eb ec k) fd fc)))) 0 0 (fun _ => False) := by
  refine met_r (by decide) rfl (Nat.le_of_ble_eq_true rfl) ?_
  intro p e s m below meth c hx hb hml hr hlocks hown hts hP hK ls hl
  have hown : s.vm.findClass RX1 = some m.cls := hown
  have hinX1 : ∀ w ∈ u_ws RX1 TX1 7, w ∈ wsX1_hasFedRow := by decide +kernel
  have hinX0 : ∀ w ∈ u_ws RX0 TX0 5, w ∈ wsX1_hasFedRow := by decide +kernel
  have hl : lv_has ls 3 [(0, .ref b0), (1, .int (nI k))] := hl
  refine lv_aload_n hx hb dX1_hasFedRow_0 rfl (lv_at hl 0 rfl) ?_
  refine lv_iload_n hx hb dX1_hasFedRow_1 rfl (lv_at hl 1 rfl) ?_
  refine rd_V (As := [.int (nI k)]) (rest := []) ⟨hx, hb, hml, hown, hts⟩ (c_X1_lengthOf l D b0 b1 b2 a0 a1 a2 a3 cB cI n L fd fc op tn eb ec k hn hg he hE hk) (cwV 1 hts gX1_hasFedRow_X1_lengthOf rfl rfl rfl (by decide +kernel) ⟨Nat.le_of_ble_eq_true rfl, Nat.le_of_ble_eq_true rfl⟩) hK hP [0, 1, 2, 3, 4, 5, 6] rfl (ci := 2) rfl rfl (q0 := 0) rfl rfl hl.1 rfl (Nat.le_of_ble_eq_true rfl) dX1_hasFedRow_2 ⟨Nat.zero_le _, Nat.zero_le _⟩ (fun r1 hr1 => ?_)
  subst hr1
  have g9 := hg (64 * bO eb ec k + 2)
  refine lv_aload_n hx hb dX1_hasFedRow_5 rfl (lv_at hl 0 rfl) ?_
  refine va_get (D := D) (ci := 2) (v := .int (nI fc)) (C := RX1) (T := TX1) (N := 7) hx hb hts hinX1 hown hK hP 0 rfl rfl 2 (by decide) (hts (.fieldLink RX1 13 "PuzzleBook" "fedCount" "I") (by decide +kernel)) (fun _ h9 => h9) rfl dX1_hasFedRow_6 ?_
  have hf0 := hf
  refine jb_eq (tgt := 14) hx hb (nI_toInt (n := L.1 (64 * bO eb ec k + 2)) (by omega)) (nI_toInt (n := fc) (by omega)) dX1_hasFedRow_9 (by decide) (fun c2 => ?_) (fun c2 => ?_)
  · skip
    have hl9 : L.1 (64 * bO eb ec k + 2) = fc := Int.ofNat_inj.mp c2
    have loop : ∀ (fu i : Nat), i ≤ fc → fc - i < fu → (∀ j, j < i → L.1 (64 * bO eb ec k + (3 + j)) = fd j) → ∀ ls : Array Slot, lv_has ls 3 [(2, .int (nI i)), (0, .ref b0), (1, .int (nI k))] → W p l e ({ frames := 4, cells := 0, slots := 0, locals := 88 }) s m [.ref b0, .int (nI k)].toArray below meth c s.heap [] 0 0 (MQ below (vp_Si (fun r => r = nI (b01 (hF L.1 (bO eb ec k) fd fc)))) [.ref b0, .int (nI k)].toArray s 0 0 (fun _ => False)) (F0 m 16 ls []) := by
      intro fu
      induction fu with
      | zero => intro i hk hf; omega
      | succ fu ih =>
        intro i hi hf hj ls hl
        refine lv_iload_n hx hb dX1_hasFedRow_16 rfl (lv_at hl 0 rfl) ?_
        refine lv_aload_n hx hb dX1_hasFedRow_17 rfl (lv_at hl 1 rfl) ?_
        refine va_get (D := D) (ci := 2) (v := .int (nI fc)) (C := RX1) (T := TX1) (N := 7) hx hb hts hinX1 hown hK hP 0 rfl rfl 2 (by decide) (hts (.fieldLink RX1 13 "PuzzleBook" "fedCount" "I") (by decide +kernel)) (fun _ h9 => h9) rfl dX1_hasFedRow_18 ?_
        refine jb_ge (tgt := 46) hx hb (nI_toInt (n := i) (by omega)) (nI_toInt (n := fc) (by omega)) dX1_hasFedRow_21 (by decide) (fun c3 => ?_) (fun c3 => ?_)
        · skip
          refine lv_iconst (v := nI 1) hx hb dX1_hasFedRow_46 (by decide +kernel) ?_
          have hk9 : fc = i := by omega
          subst hk9
          exact rt_z hx hb hr hlocks dX1_hasFedRow_47 (by decide +kernel) (by rw [b01_t ⟨hl9, hj⟩])
        · skip
          refine lv_aload_n hx hb dX1_hasFedRow_24 rfl (lv_at hl 1 rfl) ?_
          refine lv_iload_n hx hb dX1_hasFedRow_25 rfl (lv_at hl 2 rfl) ?_
          refine lv_iload_n hx hb dX1_hasFedRow_26 rfl (lv_at hl 0 rfl) ?_
          refine rd_V (As := [.int (nI k), .int (nI i)]) (rest := []) ⟨hx, hb, hml, hown, hts⟩ (c_X1_rowByte l D b0 b1 b2 a0 a1 a2 a3 cB cI n L fd fc op tn eb ec k (nI i) ((i : Nat) : Int) hn hg he hE hk (nI_toInt (by omega))) (cwV 2 hts gX1_hasFedRow_X1_rowByte rfl rfl rfl (by decide +kernel) ⟨Nat.le_of_ble_eq_true rfl, Nat.le_of_ble_eq_true rfl⟩) hK hP [0, 1, 2, 3, 4, 5, 6] rfl (ci := 2) rfl rfl (q0 := 0) rfl rfl hl.1 rfl (Nat.le_of_ble_eq_true rfl) dX1_hasFedRow_27 ⟨Nat.zero_le _, Nat.zero_le _⟩ (fun r4 hr4 => ?_)
          subst hr4
          refine lv_as (y := nI (L.1 (64 * bO eb ec k + (3 + i)))) (by unfold rwB; rw [if_pos (by omega)]; rfl) ?_
          have g8 := hg (64 * bO eb ec k + (3 + i))
          have d8 := hd i
          refine lv_aload_n hx hb dX1_hasFedRow_30 rfl (lv_at hl 1 rfl) ?_
          refine lv_iload_n hx hb dX1_hasFedRow_31 rfl (lv_at hl 0 rfl) ?_
          refine rd_V (As := [.int (nI i)]) (rest := [.int (nI (L.1 (64 * bO eb ec k + (3 + i))))]) ⟨hx, hb, hml, hown, hts⟩ (c_X1_fedByte l D b0 b1 b2 a0 a1 a2 a3 cB cI n L fd fc op tn eb ec i hf0 (by omega)) (cwV 1 hts gX1_hasFedRow_X1_fedByte rfl rfl rfl (by decide +kernel) ⟨Nat.le_of_ble_eq_true rfl, Nat.le_of_ble_eq_true rfl⟩) hK hP [0, 1, 2, 3, 4, 5, 6] rfl (ci := 2) rfl rfl (q0 := 0) rfl rfl hl.1 rfl (Nat.le_of_ble_eq_true rfl) dX1_hasFedRow_32 ⟨Nat.zero_le _, Nat.zero_le _⟩ (fun r5 hr5 => ?_)
          subst hr5
          refine lv_as (y := nI (fd i)) (congrArg nI (bO_t (by omega))) ?_
          refine jb_eq (tgt := 40) hx hb (nI_toInt (n := L.1 (64 * bO eb ec k + (3 + i))) (by omega)) (nI_toInt (n := fd i) (by omega)) dX1_hasFedRow_35 (by decide) (fun c6 => ?_) (fun c6 => ?_)
          · skip
            refine lv_iinc (v := nI (i + 1)) (lv' := [(2, .int (nI (i + 1))), (0, .ref b0), (1, .int (nI k))]) hx hb dX1_hasFedRow_40 hl (k := 0) rfl (nI_add _ 1) (by decide) rfl (fun ls hl => ?_)
            refine lv_goto (tgt := 16) hx hb dX1_hasFedRow_43 (by decide) ?_
            exact ih (i + 1) (by omega) (by omega) (fun j q => (Nat.lt_or_eq_of_le (Nat.le_of_lt_succ q)).elim (hj j) (fun q => by rw [q]; exact Int.ofNat_inj.mp c6)) ls (lv_sub hl [0, 1, 2] rfl)
          · skip
            refine lv_iconst (v := nI 0) hx hb dX1_hasFedRow_38 (by decide +kernel) ?_
            exact rt_z hx hb hr hlocks dX1_hasFedRow_39 (by decide +kernel) (by rw [b01_f (fun h => c6 (by rw [h.2 i (by omega)]))])
    refine lv_iconst (v := nI 0) hx hb dX1_hasFedRow_14 (by decide +kernel) ?_
    refine lv_istore_n (lv' := [(2, .int (nI 0)), (0, .ref b0), (1, .int (nI k))]) hx hb dX1_hasFedRow_15 rfl hl (by decide) rfl (fun ls hl => ?_)
    exact loop (fc + 1) 0 (by omega) (by omega) (fun j q => absurd q (Nat.not_lt_zero j)) ls (lv_sub hl [0, 1, 2] rfl)
  · skip
    refine lv_iconst (v := nI 0) hx hb dX1_hasFedRow_12 (by decide +kernel) ?_
    exact rt_z hx hb hr hlocks dX1_hasFedRow_13 (by decide +kernel) (by rw [b01_f (fun h => c2 (by rw [h.1]))])
set_option maxRecDepth 100000 in
set_option maxHeartbeats 4000000 in
/-- firstEntryWithFedRow() -/
theorem c_X1_firstEntryWithFedRow (l : Launch) (D : va_G) (b0 b1 b2 a0 a1 a2 a3 : Nat) (cB cI : ClassId) (n : Nat) (L : Lg) (fd : Nat → Nat) (fc : Nat) (op : Nat) (tn : Nat) (eb : Nat → Nat) (ec : Nat)  (hn : n ≤ 64) (hg : ∀ j, L.1 j < 256) (he : ec ≤ 40) (hE : ∀ k, bO eb ec k < n) (hf : fc ≤ 48) (hd : ∀ i, fd i < 256) : Met l yX1_firstEntryWithFedRow wsX1_firstEntryWithFedRow ({ frames := 5, cells := 0, slots := 0, locals := 110 }) (rP [.ref b0] D (bW b0 b1 b2 a0 a1 a2 a3 cB cI n L fd fc op tn eb ec) (ty2 cB cI)) (vp_Si (fun r => r = fI (fun k => hF L.1 (bO eb ec k) fd fc) ec)) 0 0 (fun _ => False) := by
  refine met_r (by decide) rfl (Nat.le_of_ble_eq_true rfl) ?_
  intro p e s m below meth c hx hb hml hr hlocks hown hts hP hK ls hl
  have hown : s.vm.findClass RX1 = some m.cls := hown
  have hinX1 : ∀ w ∈ u_ws RX1 TX1 7, w ∈ wsX1_firstEntryWithFedRow := by decide +kernel
  have hinX0 : ∀ w ∈ u_ws RX0 TX0 5, w ∈ wsX1_firstEntryWithFedRow := by decide +kernel
  have hl : lv_has ls 2 [(0, .ref b0)] := hl
  have loop : ∀ (fu k : Nat), k ≤ ec → ec - k < fu → (∀ j, j < k → ¬ hF L.1 (bO eb ec j) fd fc) → ∀ ls : Array Slot, lv_has ls 2 [(1, .int (nI k)), (0, .ref b0)] → W p l e ({ frames := 5, cells := 0, slots := 0, locals := 110 }) s m [.ref b0].toArray below meth c s.heap [] 0 0 (MQ below (vp_Si (fun r => r = fI (fun k => hF L.1 (bO eb ec k) fd fc) ec)) [.ref b0].toArray s 0 0 (fun _ => False)) (F0 m 2 ls []) := by
    intro fu
    induction fu with
    | zero => intro k hk hf; omega
    | succ fu ih =>
      intro k hk hfu hj ls hl
      refine lv_iload_n hx hb dX1_firstEntryWithFedRow_2 rfl (lv_at hl 0 rfl) ?_
      refine lv_aload_n hx hb dX1_firstEntryWithFedRow_3 rfl (lv_at hl 1 rfl) ?_
      refine va_get (D := D) (ci := 2) (v := .int (nI ec)) (C := RX1) (T := TX1) (N := 7) hx hb hts hinX1 hown hK hP 0 rfl rfl 6 (by decide) (hts (.fieldLink RX1 20 "PuzzleBook" "entryCount" "I") (by decide +kernel)) (fun _ h9 => h9) rfl dX1_firstEntryWithFedRow_4 ?_
      refine jb_ge (tgt := 26) hx hb (nI_toInt (n := k) (by omega)) (nI_toInt (n := ec) (by omega)) dX1_firstEntryWithFedRow_7 (by decide) (fun c1 => ?_) (fun c1 => ?_)
      · skip
        refine lv_iconst (v := -1) hx hb dX1_firstEntryWithFedRow_26 (by decide +kernel) ?_
        have hk9 : ec = k := by omega
        subst hk9
        exact rt_i hx hb hr hlocks dX1_firstEntryWithFedRow_27 (fI_f (P := (fun k => hF L.1 (bO eb ec k) fd fc)) hj).symm
      · skip
        refine lv_aload_n hx hb dX1_firstEntryWithFedRow_10 rfl (lv_at hl 1 rfl) ?_
        refine lv_iload_n hx hb dX1_firstEntryWithFedRow_11 rfl (lv_at hl 0 rfl) ?_
        refine rd_V (As := [.int (nI k)]) (rest := []) ⟨hx, hb, hml, hown, hts⟩ (c_X1_hasFedRow l D b0 b1 b2 a0 a1 a2 a3 cB cI n L fd fc op tn eb ec k hn hg he hE (by omega) hf hd) (cwV 1 hts gX1_firstEntryWithFedRow_X1_hasFedRow rfl rfl rfl (by decide +kernel) ⟨Nat.le_of_ble_eq_true rfl, Nat.le_of_ble_eq_true rfl⟩) hK hP [0, 1, 2, 3, 4, 5, 6] rfl (ci := 2) rfl rfl (q0 := 0) rfl rfl hl.1 rfl (Nat.le_of_ble_eq_true rfl) dX1_firstEntryWithFedRow_12 ⟨Nat.zero_le _, Nat.zero_le _⟩ (fun r2 hr2 => ?_)
        subst hr2
        by_cases q3 : (hF L.1 (bO eb ec k) fd fc)
        · skip
          refine lv_as (y := nI 1) (congrArg nI (b01_t q3)) ?_
          refine j0_eq (tgt := 20) hx hb (nI_toInt (n := 1) (by decide)) dX1_firstEntryWithFedRow_15 (by decide) (fun c4 => absurd c4 (by omega)) (fun c4 => ?_)
          refine lv_iload_n hx hb dX1_firstEntryWithFedRow_18 rfl (lv_at hl 0 rfl) ?_
          exact rt_i hx hb hr hlocks dX1_firstEntryWithFedRow_19 (fI_t (P := (fun k => hF L.1 (bO eb ec k) fd fc)) (by omega) q3 hj).symm
        · skip
          refine lv_as (y := nI 0) (congrArg nI (b01_f q3)) ?_
          refine j0_eq (tgt := 20) hx hb (nI_toInt (n := 0) (by decide)) dX1_firstEntryWithFedRow_15 (by decide) (fun c5 => ?_) (fun c5 => absurd c5 (by omega))
          refine lv_iinc (v := nI (k + 1)) (lv' := [(1, .int (nI (k + 1))), (0, .ref b0)]) hx hb dX1_firstEntryWithFedRow_20 hl (k := 0) rfl (nI_add _ 1) (by decide) rfl (fun ls hl => ?_)
          refine lv_goto (tgt := 2) hx hb dX1_firstEntryWithFedRow_23 (by decide) ?_
          exact ih (k + 1) (by omega) (by omega) (fun j q => (Nat.lt_or_eq_of_le (Nat.le_of_lt_succ q)).elim (hj j) (fun q => by rw [q]; exact q3)) ls (lv_sub hl [0, 1] rfl)
  refine lv_iconst (v := nI 0) hx hb dX1_firstEntryWithFedRow_0 (by decide +kernel) ?_
  refine lv_istore_n (lv' := [(1, .int (nI 0)), (0, .ref b0)]) hx hb dX1_firstEntryWithFedRow_1 rfl hl (by decide) rfl (fun ls hl => ?_)
  exact loop (ec + 1) 0 (by omega) (by omega) (fun j q => absurd q (Nat.not_lt_zero j)) ls (lv_sub hl [0, 1] rfl)
set_option maxRecDepth 100000 in
set_option maxHeartbeats 4000000 in
/-- isTaken(block) -/
theorem c_X1_isTaken (l : Launch) (D : va_G) (b0 b1 b2 a0 a1 a2 a3 : Nat) (cB cI : ClassId) (n : Nat) (L : Lg) (fd : Nat → Nat) (fc : Nat) (op : Nat) (tn : Nat) (eb : Nat → Nat) (ec : Nat) (bk : Nat) (hn : n ≤ 64) (he : ec ≤ 40) (hE : ∀ k, bO eb ec k < n) (hb0 : bk < 2 ^ 31) : Met l yX1_isTaken wsX1_isTaken ({ frames := 1, cells := 0, slots := 0, locals := 21 }) (rP [.ref b0, .int (nI bk)] D (bW b0 b1 b2 a0 a1 a2 a3 cB cI n L fd fc op tn eb ec) (ty2 cB cI)) (vp_Si (fun r => r = nI (b01 (tk (bO eb ec) ec bk)))) 0 0 (fun _ => False) := by
  refine met_r (by decide) rfl (Nat.le_of_ble_eq_true rfl) ?_
  intro p e s m below meth c hx hb hml hr hlocks hown hts hP hK ls hl
  have hown : s.vm.findClass RX1 = some m.cls := hown
  have hinX1 : ∀ w ∈ u_ws RX1 TX1 7, w ∈ wsX1_isTaken := by decide +kernel
  have hl : lv_has ls 3 [(0, .ref b0), (1, .int (nI bk))] := hl
  have loop : ∀ (fu k : Nat), k ≤ ec → ec - k < fu → (∀ j, j < k → ¬ bO eb ec j = bk) → ∀ ls : Array Slot, lv_has ls 3 [(2, .int (nI k)), (0, .ref b0), (1, .int (nI bk))] → W p l e ({ frames := 1, cells := 0, slots := 0, locals := 21 }) s m [.ref b0, .int (nI bk)].toArray below meth c s.heap [] 0 0 (MQ below (vp_Si (fun r => r = nI (b01 (tk (bO eb ec) ec bk)))) [.ref b0, .int (nI bk)].toArray s 0 0 (fun _ => False)) (F0 m 2 ls []) := by
    intro fu
    induction fu with
    | zero => intro k hk hf; omega
    | succ fu ih =>
      intro k hk hfu hj ls hl
      refine lv_iload_n hx hb dX1_isTaken_2 rfl (lv_at hl 0 rfl) ?_
      refine lv_aload_n hx hb dX1_isTaken_3 rfl (lv_at hl 1 rfl) ?_
      refine va_get (D := D) (ci := 2) (v := .int (nI ec)) (C := RX1) (T := TX1) (N := 7) hx hb hts hinX1 hown hK hP 0 rfl rfl 6 (by decide) (hts (.fieldLink RX1 20 "PuzzleBook" "entryCount" "I") (by decide +kernel)) (fun _ h9 => h9) rfl dX1_isTaken_4 ?_
      refine jb_ge (tgt := 27) hx hb (nI_toInt (n := k) (by omega)) (nI_toInt (n := ec) (by omega)) dX1_isTaken_7 (by decide) (fun c1 => ?_) (fun c1 => ?_)
      · skip
        refine lv_iconst (v := nI 0) hx hb dX1_isTaken_27 (by decide +kernel) ?_
        have hk9 : ec = k := by omega
        subst hk9
        exact rt_z hx hb hr hlocks dX1_isTaken_28 (by decide +kernel) (by rw [b01_f (fun ⟨j, h, q⟩ => hj j h q)])
      · skip
        refine lv_aload_n hx hb dX1_isTaken_10 rfl (lv_at hl 1 rfl) ?_
        refine lv_iload_n hx hb dX1_isTaken_11 rfl (lv_at hl 0 rfl) ?_
        refine rd_V (As := [.int (nI k)]) (rest := []) ⟨hx, hb, hml, hown, hts⟩ (c_X1_blockOf l D b0 b1 b2 a0 a1 a2 a3 cB cI n L fd fc op tn eb ec k he (by omega)) (cwV 1 hts gX1_isTaken_X1_blockOf rfl rfl rfl (by decide +kernel) ⟨Nat.le_of_ble_eq_true rfl, Nat.le_of_ble_eq_true rfl⟩) hK hP [0, 1, 2, 3, 4, 5, 6] rfl (ci := 2) rfl rfl (q0 := 0) rfl rfl hl.1 rfl (Nat.le_of_ble_eq_true rfl) dX1_isTaken_12 ⟨Nat.zero_le _, Nat.zero_le _⟩ (fun r2 hr2 => ?_)
        subst hr2
        have e9 := hE k
        refine lv_iload_n hx hb dX1_isTaken_15 rfl (lv_at hl 2 rfl) ?_
        refine jb_ne (tgt := 21) hx hb (nI_toInt (n := bO eb ec k) (by omega)) (nI_toInt (n := bk) (by omega)) dX1_isTaken_16 (by decide) (fun c3 => ?_) (fun c3 => ?_)
        · skip
          refine lv_iinc (v := nI (k + 1)) (lv' := [(2, .int (nI (k + 1))), (0, .ref b0), (1, .int (nI bk))]) hx hb dX1_isTaken_21 hl (k := 0) rfl (nI_add _ 1) (by decide) rfl (fun ls hl => ?_)
          refine lv_goto (tgt := 2) hx hb dX1_isTaken_24 (by decide) ?_
          exact ih (k + 1) (by omega) (by omega) (fun j q => (Nat.lt_or_eq_of_le (Nat.le_of_lt_succ q)).elim (hj j) (fun q => by rw [q]; exact fun z => c3 (by rw [z]))) ls (lv_sub hl [0, 1, 2] rfl)
        · skip
          refine lv_iconst (v := nI 1) hx hb dX1_isTaken_19 (by decide +kernel) ?_
          exact rt_z hx hb hr hlocks dX1_isTaken_20 (by decide +kernel) (by rw [b01_t ⟨k, by omega, Int.ofNat_inj.mp c3⟩])
  refine lv_iconst (v := nI 0) hx hb dX1_isTaken_0 (by decide +kernel) ?_
  refine lv_istore_n (lv' := [(2, .int (nI 0)), (0, .ref b0), (1, .int (nI bk))]) hx hb dX1_isTaken_1 rfl hl (by decide) rfl (fun ls hl => ?_)
  exact loop (ec + 1) 0 (by omega) (by omega) (fun j q => absurd q (Nat.not_lt_zero j)) ls (lv_sub hl [0, 1, 2] rfl)
set_option maxRecDepth 100000 in
set_option maxHeartbeats 4000000 in
/-- leastFreeBlock() -/
theorem c_X1_leastFreeBlock (l : Launch) (D : va_G) (b0 b1 b2 a0 a1 a2 a3 : Nat) (cB cI : ClassId) (n : Nat) (L : Lg) (fd : Nat → Nat) (fc : Nat) (op : Nat) (tn : Nat) (eb : Nat → Nat) (ec : Nat)  (hn0 : 4 ≤ n) (hn : n ≤ 64) (he : ec ≤ 40) (hE : ∀ k, bO eb ec k < n) : Met l yX1_leastFreeBlock wsX1_leastFreeBlock ({ frames := 2, cells := 0, slots := 0, locals := 43 }) (rP [.ref b0] D (bW b0 b1 b2 a0 a1 a2 a3 cB cI n L fd fc op tn eb ec) (ty2 cB cI)) (vp_Si (fun r => r = if lfB (bO eb ec) ec n < n then nI (lfB (bO eb ec) ec n) else -1)) 0 0 (fun _ => False) := by
  refine met_r (by decide) rfl (Nat.le_of_ble_eq_true rfl) ?_
  intro p e s m below meth c hx hb hml hr hlocks hown hts hP hK ls hl
  have hown : s.vm.findClass RX1 = some m.cls := hown
  have hinX1 : ∀ w ∈ u_ws RX1 TX1 7, w ∈ wsX1_leastFreeBlock := by decide +kernel
  have hinX0 : ∀ w ∈ u_ws RX0 TX0 5, w ∈ wsX1_leastFreeBlock := by decide +kernel
  have hl : lv_has ls 2 [(0, .ref b0)] := hl
  have loop : ∀ (fu j : Nat), 3 + j ≤ n → n - (3 + j) < fu → (∀ i, i < j → ¬ ¬ tk (bO eb ec) ec (3 + i)) → ∀ ls : Array Slot, lv_has ls 2 [(1, .int (nI (3 + j))), (0, .ref b0)] → W p l e ({ frames := 2, cells := 0, slots := 0, locals := 43 }) s m [.ref b0].toArray below meth c s.heap [] 0 0 (MQ below (vp_Si (fun r => r = if lfB (bO eb ec) ec n < n then nI (lfB (bO eb ec) ec n) else -1)) [.ref b0].toArray s 0 0 (fun _ => False)) (F0 m 2 ls []) := by
    intro fu
    induction fu with
    | zero => intro k hk hf; omega
    | succ fu ih =>
      intro j hj hfu hi ls hl
      refine lv_iload_n hx hb dX1_leastFreeBlock_2 rfl (lv_at hl 0 rfl) ?_
      refine lv_aload_n hx hb dX1_leastFreeBlock_3 rfl (lv_at hl 1 rfl) ?_
      refine va_get (D := D) (ci := 2) (v := .ref a0) (C := RX1) (T := TX1) (N := 7) hx hb hts hinX1 hown hK hP 0 rfl rfl 0 (by decide) (hts (.fieldLink RX1 28 "PuzzleBook" "store" "LPuzzleBook$Store;") (by decide +kernel)) (fun _ h9 => h9) rfl dX1_leastFreeBlock_4 ?_
      refine rd_V (As := []) (rest := [.int (nI (3 + j))]) ⟨hx, hb, hml, hown, hts⟩ (c_X0_blockCount l D a0 a1 a2 a3 cB cI n L  ) (cwV 0 hts gX1_leastFreeBlock_X0_blockCount rfl rfl rfl (by decide +kernel) ⟨Nat.le_of_ble_eq_true rfl, Nat.le_of_ble_eq_true rfl⟩) hK hP [3, 4, 5, 6] rfl (ci := 1) rfl rfl (q0 := 3) rfl rfl hl.1 rfl (Nat.le_of_ble_eq_true rfl) dX1_leastFreeBlock_7 ⟨Nat.zero_le _, Nat.zero_le _⟩ (fun r1 hr1 => ?_)
      subst hr1
      refine jb_ge (tgt := 29) hx hb (nI_toInt (n := 3 + j) (by omega)) (nI_toInt (n := n) (by omega)) dX1_leastFreeBlock_10 (by decide) (fun c2 => ?_) (fun c2 => ?_)
      · skip
        refine lv_iconst (v := -1) hx hb dX1_leastFreeBlock_29 (by decide +kernel) ?_
        have e9 : lfB (bO eb ec) ec n = n := by unfold lfB; rw [fN_no (fun k hk => hi k (by omega))]; omega
        exact rt_i hx hb hr hlocks dX1_leastFreeBlock_30 (by rw [e9, if_neg (Nat.lt_irrefl n)])
      · skip
        refine lv_aload_n hx hb dX1_leastFreeBlock_13 rfl (lv_at hl 1 rfl) ?_
        refine lv_iload_n hx hb dX1_leastFreeBlock_14 rfl (lv_at hl 0 rfl) ?_
        refine rd_V (As := [.int (nI (3 + j))]) (rest := []) ⟨hx, hb, hml, hown, hts⟩ (c_X1_isTaken l D b0 b1 b2 a0 a1 a2 a3 cB cI n L fd fc op tn eb ec (3 + j) hn he hE (by omega)) (cwV 1 hts gX1_leastFreeBlock_X1_isTaken rfl rfl rfl (by decide +kernel) ⟨Nat.le_of_ble_eq_true rfl, Nat.le_of_ble_eq_true rfl⟩) hK hP [0, 1, 2, 3, 4, 5, 6] rfl (ci := 2) rfl rfl (q0 := 0) rfl rfl hl.1 rfl (Nat.le_of_ble_eq_true rfl) dX1_leastFreeBlock_15 ⟨Nat.zero_le _, Nat.zero_le _⟩ (fun r3 hr3 => ?_)
        subst hr3
        by_cases q4 : (tk (bO eb ec) ec (3 + j))
        · skip
          refine lv_as (y := nI 1) (congrArg nI (b01_t q4)) ?_
          refine j0_ne (tgt := 23) hx hb (nI_toInt (n := 1) (by decide)) dX1_leastFreeBlock_18 (by decide) (fun c5 => ?_) (fun c5 => absurd c5 (by omega))
          refine lv_iinc (v := nI (3 + j + 1)) (lv' := [(1, .int (nI (3 + j + 1))), (0, .ref b0)]) hx hb dX1_leastFreeBlock_23 hl (k := 0) rfl (nI_add _ 1) (by decide) rfl (fun ls hl => ?_)
          refine lv_goto (tgt := 2) hx hb dX1_leastFreeBlock_26 (by decide) ?_
          exact ih (j + 1) (by omega) (by omega) (fun i q => (Nat.lt_or_eq_of_le (Nat.le_of_lt_succ q)).elim (hi i) (fun q => by rw [q]; exact fun z => z q4)) ls (lv_sub hl [0, 1] rfl)
        · skip
          refine lv_as (y := nI 0) (congrArg nI (b01_f q4)) ?_
          refine j0_ne (tgt := 23) hx hb (nI_toInt (n := 0) (by decide)) dX1_leastFreeBlock_18 (by decide) (fun c6 => absurd c6 (by omega)) (fun c6 => ?_)
          refine lv_iload_n hx hb dX1_leastFreeBlock_21 rfl (lv_at hl 0 rfl) ?_
          have e9 : lfB (bO eb ec) ec n = 3 + j := by unfold lfB; rw [fN_eq (P := (fun j => ¬ tk (bO eb ec) ec (3 + j))) (by omega) q4 hi]
          exact rt_i hx hb hr hlocks dX1_leastFreeBlock_22 (by rw [e9, if_pos (by omega)])
  refine lv_iconst (v := nI 3) hx hb dX1_leastFreeBlock_0 (by decide +kernel) ?_
  refine lv_istore_n (lv' := [(1, .int (nI 3)), (0, .ref b0)]) hx hb dX1_leastFreeBlock_1 rfl hl (by decide) rfl (fun ls hl => ?_)
  exact loop (n + 1) 0 (by omega) (by omega) (fun j q => absurd q (Nat.not_lt_zero j)) ls (lv_sub hl [0, 1] rfl)
set_option maxRecDepth 100000 in
set_option maxHeartbeats 4000000 in
/-- lesserBlock(-1, block) -/
theorem c_X1_lesserBlock (l : Launch) (D : va_G) (cB cI : ClassId)  (bk : Nat)  : Met l yX1_lesserBlock wsX1_lesserBlock ({ frames := 1, cells := 0, slots := 0, locals := 21 }) (rP [.int (-1), .int (nI bk)] D [] (ty2 cB cI)) (vp_Si (fun r => r = nI bk)) 0 0 (fun _ => False) := by
  refine met_r (by decide) rfl (Nat.le_of_ble_eq_true rfl) ?_
  intro p e s m below meth c hx hb hml hr hlocks hown hts hP hK ls hl
  have hown : s.vm.findClass RX1 = some m.cls := hown
  have hl : lv_has ls 2 [(0, .int (-1)), (1, .int (nI bk))] := hl
  refine lv_iload_n hx hb dX1_lesserBlock_0 rfl (lv_at hl 0 rfl) ?_
  refine lv_iconst (v := -1) hx hb dX1_lesserBlock_1 (by decide +kernel) ?_
  refine jb_ne (tgt := 9) hx hb neg1_toInt neg1_toInt dX1_lesserBlock_2 (by decide) (fun c1 => absurd c1 (by omega)) (fun c1 => ?_)
  refine lv_iload_n hx hb dX1_lesserBlock_5 rfl (lv_at hl 1 rfl) ?_
  refine lv_goto (tgt := 14) hx hb dX1_lesserBlock_6 (by decide) ?_
  exact rt_i hx hb hr hlocks dX1_lesserBlock_14 rfl
set_option maxRecDepth 100000 in
set_option maxHeartbeats 4000000 in
/-- lesserBlock(least, block) -/
theorem c_X1_lesserBlock_s (l : Launch) (D : va_G) (cB cI : ClassId)  (x bk : Nat) (h1 : x < 1000) (h2 : bk < 1000) : Met l yX1_lesserBlock wsX1_lesserBlock ({ frames := 1, cells := 0, slots := 0, locals := 21 }) (rP [.int (nI x), .int (nI bk)] D [] (ty2 cB cI)) (vp_Si (fun r => r = nI (min x bk))) 0 0 (fun _ => False) := by
  refine met_r (by decide) rfl (Nat.le_of_ble_eq_true rfl) ?_
  intro p e s m below meth c hx hb hml hr hlocks hown hts hP hK ls hl
  have hown : s.vm.findClass RX1 = some m.cls := hown
  have hl : lv_has ls 2 [(0, .int (nI x)), (1, .int (nI bk))] := hl
  refine lv_iload_n hx hb dX1_lesserBlock_0 rfl (lv_at hl 0 rfl) ?_
  refine lv_iconst (v := -1) hx hb dX1_lesserBlock_1 (by decide +kernel) ?_
  refine jb_ne (tgt := 9) hx hb (nI_toInt (n := x) (by omega)) neg1_toInt dX1_lesserBlock_2 (by decide) (fun c1 => ?_) (fun c1 => absurd c1 (by omega))
  refine lv_iload_n hx hb dX1_lesserBlock_9 rfl (lv_at hl 0 rfl) ?_
  refine lv_iload_n hx hb dX1_lesserBlock_10 rfl (lv_at hl 1 rfl) ?_
  refine va_mmin hx hb (hml.trans hl.1.symm) hown (hts (.methodLink RX1 123 Lib.Math.min.name) (by decide +kernel)) (hts (.static Lib.Math.min.name) (by decide +kernel)) (hts (.initialized "java/lang/Math") (by decide +kernel)) (hts (.code Lib.Math.min.name Lib.Math.min.code 2 (some .int)) (by decide +kernel)) (Nat.le_of_ble_eq_true rfl) (Nat.le_of_ble_eq_true rfl) (Nat.zero_le _) (Nat.zero_le _) dX1_lesserBlock_11 ?_
  refine lv_as (y := nI (min x bk)) (nI_min (by omega) (by omega)) ?_
  exact rt_i hx hb hr hlocks dX1_lesserBlock_14 rfl
set_option maxRecDepth 100000 in
set_option maxHeartbeats 4000000 in
/-- leastWrongEntryBlock() -/
theorem c_X1_leastWrongEntryBlock (l : Launch) (D : va_G) (b0 b1 b2 a0 a1 a2 a3 : Nat) (cB cI : ClassId) (n : Nat) (L : Lg) (fd : Nat → Nat) (fc : Nat) (op : Nat) (tn : Nat) (eb : Nat → Nat) (ec : Nat)  (hn : n ≤ 64) (hg : ∀ j, L.1 j < 256) (he : ec ≤ 40) (hE : ∀ k, bO eb ec k < n) : Met l yX1_leastWrongEntryBlock wsX1_leastWrongEntryBlock ({ frames := 4, cells := 0, slots := 0, locals := 91 }) (rP [.ref b0] D (bW b0 b1 b2 a0 a1 a2 a3 cB cI n L fd fc op tn eb ec) (ty2 cB cI)) (vp_Si (fun r => r = lwI (lwN (wrE L.1) (bO eb ec) ec))) 0 0 (fun _ => False) := by
  refine met_r (by decide) rfl (Nat.le_of_ble_eq_true rfl) ?_
  intro p e s m below meth c hx hb hml hr hlocks hown hts hP hK ls hl
  have hown : s.vm.findClass RX1 = some m.cls := hown
  have hinX1 : ∀ w ∈ u_ws RX1 TX1 7, w ∈ wsX1_leastWrongEntryBlock := by decide +kernel
  have hinX0 : ∀ w ∈ u_ws RX0 TX0 5, w ∈ wsX1_leastWrongEntryBlock := by decide +kernel
  have hl : lv_has ls 5 [(0, .ref b0)] := hl
  have h64 : ∀ k, bO eb ec k < 64 := fun k => Nat.lt_of_lt_of_le (hE k) hn
  have loop : ∀ (fu k : Nat) (sv : Int32), k ≤ ec → ec - k < fu → sv = lwI (lwN (wrE L.1) (bO eb ec) k) → ∀ ls : Array Slot, lv_has ls 5 [(1, .int sv), (2, .int (nI k)), (0, .ref b0)] → W p l e ({ frames := 4, cells := 0, slots := 0, locals := 91 }) s m [.ref b0].toArray below meth c s.heap [] 0 0 (MQ below (vp_Si (fun r => r = lwI (lwN (wrE L.1) (bO eb ec) ec))) [.ref b0].toArray s 0 0 (fun _ => False)) (F0 m 4 ls []) := by
    intro fu
    induction fu with
    | zero => intro k sv hk hf; omega
    | succ fu ih =>
      intro k sv hk hfu hs ls hl
      refine lv_iload_n hx hb dX1_leastWrongEntryBlock_4 rfl (lv_at hl 1 rfl) ?_
      refine lv_aload_n hx hb dX1_leastWrongEntryBlock_5 rfl (lv_at hl 2 rfl) ?_
      refine va_get (D := D) (ci := 2) (v := .int (nI ec)) (C := RX1) (T := TX1) (N := 7) hx hb hts hinX1 hown hK hP 0 rfl rfl 6 (by decide) (hts (.fieldLink RX1 20 "PuzzleBook" "entryCount" "I") (by decide +kernel)) (fun _ h9 => h9) rfl dX1_leastWrongEntryBlock_6 ?_
      refine jb_ge (tgt := 60) hx hb (nI_toInt (n := k) (by omega)) (nI_toInt (n := ec) (by omega)) dX1_leastWrongEntryBlock_9 (by decide) (fun c1 => ?_) (fun c1 => ?_)
      · skip
        refine lv_iload_n hx hb dX1_leastWrongEntryBlock_60 rfl (lv_at hl 0 rfl) ?_
        have hk9 : ec = k := by omega
        subst hk9
        exact rt_i hx hb hr hlocks dX1_leastWrongEntryBlock_61 hs
      · skip
        refine lv_aload_n hx hb dX1_leastWrongEntryBlock_12 rfl (lv_at hl 2 rfl) ?_
        refine lv_iload_n hx hb dX1_leastWrongEntryBlock_13 rfl (lv_at hl 1 rfl) ?_
        refine rd_V (As := [.int (nI k)]) (rest := []) ⟨hx, hb, hml, hown, hts⟩ (c_X1_blockOf l D b0 b1 b2 a0 a1 a2 a3 cB cI n L fd fc op tn eb ec k he (by omega)) (cwV 1 hts gX1_leastWrongEntryBlock_X1_blockOf rfl rfl rfl (by decide +kernel) ⟨Nat.le_of_ble_eq_true rfl, Nat.le_of_ble_eq_true rfl⟩) hK hP [0, 1, 2, 3, 4, 5, 6] rfl (ci := 2) rfl rfl (q0 := 0) rfl rfl hl.1 rfl (Nat.le_of_ble_eq_true rfl) dX1_leastWrongEntryBlock_14 ⟨Nat.zero_le _, Nat.zero_le _⟩ (fun r2 hr2 => ?_)
        subst hr2
        refine lv_istore_n (lv' := [(3, .int (nI (bO eb ec k))), (1, .int sv), (2, .int (nI k)), (0, .ref b0)]) hx hb dX1_leastWrongEntryBlock_17 rfl hl (by decide) rfl (fun ls hl => ?_)
        refine lv_aload_n hx hb dX1_leastWrongEntryBlock_18 rfl (lv_at hl 3 rfl) ?_
        refine lv_iload_n hx hb dX1_leastWrongEntryBlock_19 rfl (lv_at hl 2 rfl) ?_
        refine rd_V (As := [.int (nI k)]) (rest := []) ⟨hx, hb, hml, hown, hts⟩ (c_X1_lengthOf l D b0 b1 b2 a0 a1 a2 a3 cB cI n L fd fc op tn eb ec k hn hg he hE (by omega)) (cwV 1 hts gX1_leastWrongEntryBlock_X1_lengthOf rfl rfl rfl (by decide +kernel) ⟨Nat.le_of_ble_eq_true rfl, Nat.le_of_ble_eq_true rfl⟩) hK hP [0, 1, 2, 3, 4, 5, 6] rfl (ci := 2) rfl rfl (q0 := 0) rfl rfl hl.1 rfl (Nat.le_of_ble_eq_true rfl) dX1_leastWrongEntryBlock_20 ⟨Nat.zero_le _, Nat.zero_le _⟩ (fun r3 hr3 => ?_)
        subst hr3
        refine lv_istore (lv' := [(4, .int (nI (L.1 (64 * bO eb ec k + 2)))), (3, .int (nI (bO eb ec k))), (1, .int sv), (2, .int (nI k)), (0, .ref b0)]) hx hb dX1_leastWrongEntryBlock_23 hl (by decide) rfl (fun ls hl => ?_)
        refine lv_aload_n hx hb dX1_leastWrongEntryBlock_25 rfl (lv_at hl 4 rfl) ?_
        refine va_get (D := D) (ci := 2) (v := .ref a0) (C := RX1) (T := TX1) (N := 7) hx hb hts hinX1 hown hK hP 0 rfl rfl 0 (by decide) (hts (.fieldLink RX1 28 "PuzzleBook" "store" "LPuzzleBook$Store;") (by decide +kernel)) (fun _ h9 => h9) rfl dX1_leastWrongEntryBlock_26 ?_
        refine lv_iload_n hx hb dX1_leastWrongEntryBlock_29 rfl (lv_at hl 1 rfl) ?_
        have g9 := hg (64 * bO eb ec k + 2)
        refine rd_V (As := [.int (nI (bO eb ec k))]) (rest := []) ⟨hx, hb, hml, hown, hts⟩ (c_X0_hasRightSum l D a0 a1 a2 a3 cB cI n L (bO eb ec k) hn hg (hE _)) (cwV 1 hts gX1_leastWrongEntryBlock_X0_hasRightSum rfl rfl rfl (by decide +kernel) ⟨Nat.le_of_ble_eq_true rfl, Nat.le_of_ble_eq_true rfl⟩) hK hP [3, 4, 5, 6] rfl (ci := 1) rfl rfl (q0 := 3) rfl rfl hl.1 rfl (Nat.le_of_ble_eq_true rfl) dX1_leastWrongEntryBlock_30 ⟨Nat.zero_le _, Nat.zero_le _⟩ (fun r4 hr4 => ?_)
        subst hr4
        by_cases q5 : (okS L.1 (64 * (bO eb ec k)))
        · skip
          refine lv_as (y := nI 1) (congrArg nI (b01_t q5)) ?_
          refine j0_eq (tgt := 48) hx hb (nI_toInt (n := 1) (by decide)) dX1_leastWrongEntryBlock_33 (by decide) (fun c6 => absurd c6 (by omega)) (fun c6 => ?_)
          refine lv_iload hx hb dX1_leastWrongEntryBlock_36 (lv_at hl 0 rfl) ?_
          refine j0_eq (tgt := 48) hx hb (nI_toInt (n := L.1 (64 * bO eb ec k + 2)) (by omega)) dX1_leastWrongEntryBlock_38 (by decide) (fun c7 => ?_) (fun c7 => ?_)
          · skip
            by_cases q9 : lwN (wrE L.1) (bO eb ec) k = 1000
            · skip
              refine lv_iload_n hx hb dX1_leastWrongEntryBlock_48 rfl (lv_at hl 2 rfl) ?_
              refine lv_as (y := (-1)) (by rw [hs]; unfold lwI; rw [if_pos q9]) ?_
              refine lv_iload_n hx hb dX1_leastWrongEntryBlock_49 rfl (lv_at hl 1 rfl) ?_
              refine rd_S (As := [.int (-1), .int (nI (bO eb ec k))]) (rest := []) ⟨hx, hb, hml, hown, hts⟩ (c_X1_lesserBlock l D  cB cI  (bO eb ec k) ) (va_cwS 2 hts gX1_leastWrongEntryBlock_X1_lesserBlock rfl rfl rfl (by decide +kernel) ⟨Nat.le_of_ble_eq_true rfl, Nat.le_of_ble_eq_true rfl⟩) hK hP [] rfl rfl hl.1 rfl (Nat.le_of_ble_eq_true rfl) dX1_leastWrongEntryBlock_50 ⟨Nat.zero_le _, Nat.zero_le _⟩ (fun r8 hr8 => ?_)
              subst hr8
              refine lv_istore_n (lv' := [(1, .int (nI (bO eb ec k))), (4, .int (nI (L.1 (64 * bO eb ec k + 2)))), (3, .int (nI (bO eb ec k))), (2, .int (nI k)), (0, .ref b0)]) hx hb dX1_leastWrongEntryBlock_53 rfl hl (by decide) rfl (fun ls hl => ?_)
              refine lv_iinc (v := nI (k + 1)) (lv' := [(2, .int (nI (k + 1))), (1, .int (nI (bO eb ec k))), (4, .int (nI (L.1 (64 * bO eb ec k + 2)))), (3, .int (nI (bO eb ec k))), (0, .ref b0)]) hx hb dX1_leastWrongEntryBlock_54 hl (k := 3) rfl (nI_add _ 1) (by decide) rfl (fun ls hl => ?_)
              refine lv_goto (tgt := 4) hx hb dX1_leastWrongEntryBlock_57 (by decide) ?_
              exact ih (k + 1) _ (by omega) (by omega) (lw_none q9 (Or.inr (Or.inl (by omega))) h64) ls (lv_sub hl [1, 0, 4] rfl)
            · skip
              have l64 := (lwN_or (P := (wrE L.1)) (E := (bO eb ec)) h64 k).resolve_left q9
              refine lv_iload_n hx hb dX1_leastWrongEntryBlock_48 rfl (lv_at hl 2 rfl) ?_
              refine lv_as (y := nI (lwN (wrE L.1) (bO eb ec) k)) (by rw [hs]; unfold lwI; rw [if_neg q9]) ?_
              refine lv_iload_n hx hb dX1_leastWrongEntryBlock_49 rfl (lv_at hl 1 rfl) ?_
              refine rd_S (As := [.int (nI (lwN (wrE L.1) (bO eb ec) k)), .int (nI (bO eb ec k))]) (rest := []) ⟨hx, hb, hml, hown, hts⟩ (c_X1_lesserBlock_s l D  cB cI  (lwN (wrE L.1) (bO eb ec) k) (bO eb ec k) (by omega) (by have := h64 k; omega)) (va_cwS 2 hts gX1_leastWrongEntryBlock_X1_lesserBlock rfl rfl rfl (by decide +kernel) ⟨Nat.le_of_ble_eq_true rfl, Nat.le_of_ble_eq_true rfl⟩) hK hP [] rfl rfl hl.1 rfl (Nat.le_of_ble_eq_true rfl) dX1_leastWrongEntryBlock_50 ⟨Nat.zero_le _, Nat.zero_le _⟩ (fun r9 hr9 => ?_)
              subst hr9
              refine lv_istore_n (lv' := [(1, .int (nI (min (lwN (wrE L.1) (bO eb ec) k) (bO eb ec k)))), (4, .int (nI (L.1 (64 * bO eb ec k + 2)))), (3, .int (nI (bO eb ec k))), (2, .int (nI k)), (0, .ref b0)]) hx hb dX1_leastWrongEntryBlock_53 rfl hl (by decide) rfl (fun ls hl => ?_)
              refine lv_iinc (v := nI (k + 1)) (lv' := [(2, .int (nI (k + 1))), (1, .int (nI (min (lwN (wrE L.1) (bO eb ec) k) (bO eb ec k)))), (4, .int (nI (L.1 (64 * bO eb ec k + 2)))), (3, .int (nI (bO eb ec k))), (0, .ref b0)]) hx hb dX1_leastWrongEntryBlock_54 hl (k := 3) rfl (nI_add _ 1) (by decide) rfl (fun ls hl => ?_)
              refine lv_goto (tgt := 4) hx hb dX1_leastWrongEntryBlock_57 (by decide) ?_
              exact ih (k + 1) _ (by omega) (by omega) (lw_some q9 (Or.inr (Or.inl (by omega))) h64) ls (lv_sub hl [1, 0, 4] rfl)
          · skip
            refine lv_iload hx hb dX1_leastWrongEntryBlock_41 (lv_at hl 0 rfl) ?_
            refine lv_bipush (v := nI 48) hx hb dX1_leastWrongEntryBlock_43 (by decide +kernel) ?_
            refine jb_le (tgt := 54) hx hb (nI_toInt (n := L.1 (64 * bO eb ec k + 2)) (by omega)) (nI_toInt (n := 48) (by decide)) dX1_leastWrongEntryBlock_45 (by decide) (fun c10 => ?_) (fun c10 => ?_)
            · skip
              refine lv_iinc (v := nI (k + 1)) (lv' := [(2, .int (nI (k + 1))), (4, .int (nI (L.1 (64 * bO eb ec k + 2)))), (3, .int (nI (bO eb ec k))), (1, .int sv), (0, .ref b0)]) hx hb dX1_leastWrongEntryBlock_54 hl (k := 3) rfl (nI_add _ 1) (by decide) rfl (fun ls hl => ?_)
              refine lv_goto (tgt := 4) hx hb dX1_leastWrongEntryBlock_57 (by decide) ?_
              exact ih (k + 1) _ (by omega) (by omega) (lw_skip (fun h => h.elim (fun z => z q5) (fun z => by omega)) hs) ls (lv_sub hl [3, 0, 4] rfl)
            · skip
              by_cases q9 : lwN (wrE L.1) (bO eb ec) k = 1000
              · skip
                refine lv_iload_n hx hb dX1_leastWrongEntryBlock_48 rfl (lv_at hl 2 rfl) ?_
                refine lv_as (y := (-1)) (by rw [hs]; unfold lwI; rw [if_pos q9]) ?_
                refine lv_iload_n hx hb dX1_leastWrongEntryBlock_49 rfl (lv_at hl 1 rfl) ?_
                refine rd_S (As := [.int (-1), .int (nI (bO eb ec k))]) (rest := []) ⟨hx, hb, hml, hown, hts⟩ (c_X1_lesserBlock l D  cB cI  (bO eb ec k) ) (va_cwS 2 hts gX1_leastWrongEntryBlock_X1_lesserBlock rfl rfl rfl (by decide +kernel) ⟨Nat.le_of_ble_eq_true rfl, Nat.le_of_ble_eq_true rfl⟩) hK hP [] rfl rfl hl.1 rfl (Nat.le_of_ble_eq_true rfl) dX1_leastWrongEntryBlock_50 ⟨Nat.zero_le _, Nat.zero_le _⟩ (fun r11 hr11 => ?_)
                subst hr11
                refine lv_istore_n (lv' := [(1, .int (nI (bO eb ec k))), (4, .int (nI (L.1 (64 * bO eb ec k + 2)))), (3, .int (nI (bO eb ec k))), (2, .int (nI k)), (0, .ref b0)]) hx hb dX1_leastWrongEntryBlock_53 rfl hl (by decide) rfl (fun ls hl => ?_)
                refine lv_iinc (v := nI (k + 1)) (lv' := [(2, .int (nI (k + 1))), (1, .int (nI (bO eb ec k))), (4, .int (nI (L.1 (64 * bO eb ec k + 2)))), (3, .int (nI (bO eb ec k))), (0, .ref b0)]) hx hb dX1_leastWrongEntryBlock_54 hl (k := 3) rfl (nI_add _ 1) (by decide) rfl (fun ls hl => ?_)
                refine lv_goto (tgt := 4) hx hb dX1_leastWrongEntryBlock_57 (by decide) ?_
                exact ih (k + 1) _ (by omega) (by omega) (lw_none q9 (Or.inr (Or.inr (by omega))) h64) ls (lv_sub hl [1, 0, 4] rfl)
              · skip
                have l64 := (lwN_or (P := (wrE L.1)) (E := (bO eb ec)) h64 k).resolve_left q9
                refine lv_iload_n hx hb dX1_leastWrongEntryBlock_48 rfl (lv_at hl 2 rfl) ?_
                refine lv_as (y := nI (lwN (wrE L.1) (bO eb ec) k)) (by rw [hs]; unfold lwI; rw [if_neg q9]) ?_
                refine lv_iload_n hx hb dX1_leastWrongEntryBlock_49 rfl (lv_at hl 1 rfl) ?_
                refine rd_S (As := [.int (nI (lwN (wrE L.1) (bO eb ec) k)), .int (nI (bO eb ec k))]) (rest := []) ⟨hx, hb, hml, hown, hts⟩ (c_X1_lesserBlock_s l D  cB cI  (lwN (wrE L.1) (bO eb ec) k) (bO eb ec k) (by omega) (by have := h64 k; omega)) (va_cwS 2 hts gX1_leastWrongEntryBlock_X1_lesserBlock rfl rfl rfl (by decide +kernel) ⟨Nat.le_of_ble_eq_true rfl, Nat.le_of_ble_eq_true rfl⟩) hK hP [] rfl rfl hl.1 rfl (Nat.le_of_ble_eq_true rfl) dX1_leastWrongEntryBlock_50 ⟨Nat.zero_le _, Nat.zero_le _⟩ (fun r12 hr12 => ?_)
                subst hr12
                refine lv_istore_n (lv' := [(1, .int (nI (min (lwN (wrE L.1) (bO eb ec) k) (bO eb ec k)))), (4, .int (nI (L.1 (64 * bO eb ec k + 2)))), (3, .int (nI (bO eb ec k))), (2, .int (nI k)), (0, .ref b0)]) hx hb dX1_leastWrongEntryBlock_53 rfl hl (by decide) rfl (fun ls hl => ?_)
                refine lv_iinc (v := nI (k + 1)) (lv' := [(2, .int (nI (k + 1))), (1, .int (nI (min (lwN (wrE L.1) (bO eb ec) k) (bO eb ec k)))), (4, .int (nI (L.1 (64 * bO eb ec k + 2)))), (3, .int (nI (bO eb ec k))), (0, .ref b0)]) hx hb dX1_leastWrongEntryBlock_54 hl (k := 3) rfl (nI_add _ 1) (by decide) rfl (fun ls hl => ?_)
                refine lv_goto (tgt := 4) hx hb dX1_leastWrongEntryBlock_57 (by decide) ?_
                exact ih (k + 1) _ (by omega) (by omega) (lw_some q9 (Or.inr (Or.inr (by omega))) h64) ls (lv_sub hl [1, 0, 4] rfl)
        · skip
          refine lv_as (y := nI 0) (congrArg nI (b01_f q5)) ?_
          refine j0_eq (tgt := 48) hx hb (nI_toInt (n := 0) (by decide)) dX1_leastWrongEntryBlock_33 (by decide) (fun c13 => ?_) (fun c13 => absurd c13 (by omega))
          by_cases q9 : lwN (wrE L.1) (bO eb ec) k = 1000
          · skip
            refine lv_iload_n hx hb dX1_leastWrongEntryBlock_48 rfl (lv_at hl 2 rfl) ?_
            refine lv_as (y := (-1)) (by rw [hs]; unfold lwI; rw [if_pos q9]) ?_
            refine lv_iload_n hx hb dX1_leastWrongEntryBlock_49 rfl (lv_at hl 1 rfl) ?_
            refine rd_S (As := [.int (-1), .int (nI (bO eb ec k))]) (rest := []) ⟨hx, hb, hml, hown, hts⟩ (c_X1_lesserBlock l D  cB cI  (bO eb ec k) ) (va_cwS 2 hts gX1_leastWrongEntryBlock_X1_lesserBlock rfl rfl rfl (by decide +kernel) ⟨Nat.le_of_ble_eq_true rfl, Nat.le_of_ble_eq_true rfl⟩) hK hP [] rfl rfl hl.1 rfl (Nat.le_of_ble_eq_true rfl) dX1_leastWrongEntryBlock_50 ⟨Nat.zero_le _, Nat.zero_le _⟩ (fun r14 hr14 => ?_)
            subst hr14
            refine lv_istore_n (lv' := [(1, .int (nI (bO eb ec k))), (4, .int (nI (L.1 (64 * bO eb ec k + 2)))), (3, .int (nI (bO eb ec k))), (2, .int (nI k)), (0, .ref b0)]) hx hb dX1_leastWrongEntryBlock_53 rfl hl (by decide) rfl (fun ls hl => ?_)
            refine lv_iinc (v := nI (k + 1)) (lv' := [(2, .int (nI (k + 1))), (1, .int (nI (bO eb ec k))), (4, .int (nI (L.1 (64 * bO eb ec k + 2)))), (3, .int (nI (bO eb ec k))), (0, .ref b0)]) hx hb dX1_leastWrongEntryBlock_54 hl (k := 3) rfl (nI_add _ 1) (by decide) rfl (fun ls hl => ?_)
            refine lv_goto (tgt := 4) hx hb dX1_leastWrongEntryBlock_57 (by decide) ?_
            exact ih (k + 1) _ (by omega) (by omega) (lw_none q9 (Or.inl q5) h64) ls (lv_sub hl [1, 0, 4] rfl)
          · skip
            have l64 := (lwN_or (P := (wrE L.1)) (E := (bO eb ec)) h64 k).resolve_left q9
            refine lv_iload_n hx hb dX1_leastWrongEntryBlock_48 rfl (lv_at hl 2 rfl) ?_
            refine lv_as (y := nI (lwN (wrE L.1) (bO eb ec) k)) (by rw [hs]; unfold lwI; rw [if_neg q9]) ?_
            refine lv_iload_n hx hb dX1_leastWrongEntryBlock_49 rfl (lv_at hl 1 rfl) ?_
            refine rd_S (As := [.int (nI (lwN (wrE L.1) (bO eb ec) k)), .int (nI (bO eb ec k))]) (rest := []) ⟨hx, hb, hml, hown, hts⟩ (c_X1_lesserBlock_s l D  cB cI  (lwN (wrE L.1) (bO eb ec) k) (bO eb ec k) (by omega) (by have := h64 k; omega)) (va_cwS 2 hts gX1_leastWrongEntryBlock_X1_lesserBlock rfl rfl rfl (by decide +kernel) ⟨Nat.le_of_ble_eq_true rfl, Nat.le_of_ble_eq_true rfl⟩) hK hP [] rfl rfl hl.1 rfl (Nat.le_of_ble_eq_true rfl) dX1_leastWrongEntryBlock_50 ⟨Nat.zero_le _, Nat.zero_le _⟩ (fun r15 hr15 => ?_)
            subst hr15
            refine lv_istore_n (lv' := [(1, .int (nI (min (lwN (wrE L.1) (bO eb ec) k) (bO eb ec k)))), (4, .int (nI (L.1 (64 * bO eb ec k + 2)))), (3, .int (nI (bO eb ec k))), (2, .int (nI k)), (0, .ref b0)]) hx hb dX1_leastWrongEntryBlock_53 rfl hl (by decide) rfl (fun ls hl => ?_)
            refine lv_iinc (v := nI (k + 1)) (lv' := [(2, .int (nI (k + 1))), (1, .int (nI (min (lwN (wrE L.1) (bO eb ec) k) (bO eb ec k)))), (4, .int (nI (L.1 (64 * bO eb ec k + 2)))), (3, .int (nI (bO eb ec k))), (0, .ref b0)]) hx hb dX1_leastWrongEntryBlock_54 hl (k := 3) rfl (nI_add _ 1) (by decide) rfl (fun ls hl => ?_)
            refine lv_goto (tgt := 4) hx hb dX1_leastWrongEntryBlock_57 (by decide) ?_
            exact ih (k + 1) _ (by omega) (by omega) (lw_some q9 (Or.inl q5) h64) ls (lv_sub hl [1, 0, 4] rfl)
  refine lv_iconst (v := -1) hx hb dX1_leastWrongEntryBlock_0 (by decide +kernel) ?_
  refine lv_istore_n (lv' := [(1, .int (-1)), (0, .ref b0)]) hx hb dX1_leastWrongEntryBlock_1 rfl hl (by decide) rfl (fun ls hl => ?_)
  refine lv_iconst (v := nI 0) hx hb dX1_leastWrongEntryBlock_2 (by decide +kernel) ?_
  refine lv_istore_n (lv' := [(2, .int (nI 0)), (1, .int (-1)), (0, .ref b0)]) hx hb dX1_leastWrongEntryBlock_3 rfl hl (by decide) rfl (fun ls hl => ?_)
  exact loop (ec + 1) 0 _ (by omega) (by omega) rfl ls (lv_sub hl [1, 0, 2] rfl)
set_option maxRecDepth 100000 in
set_option maxHeartbeats 4000000 in
/-- find(name, i) -/
theorem c_X1_find (l : Launch) (D : va_G) (b0 b1 b2 a0 a1 a2 a3 : Nat) (cB cI : ClassId) (n : Nat) (L : Lg) (fd : Nat → Nat) (fc : Nat) (op : Nat) (tn : Nat) (eb : Nat → Nat) (ec : Nat) (nv iv : Int32) (nz iz : Int) (hn : n ≤ 64) (hg : ∀ j, L.1 j < 256) (he : ec ≤ 40) (hE : ∀ k, bO eb ec k < n) (ho : op ≤ 1) (h1 : nv.toInt = nz) (h2 : iv.toInt = iz) : Met l yX1_find wsX1_find ({ frames := 4, cells := 0, slots := 0, locals := 88 }) (rP [.ref b0, .int nv, .int iv] D (bW b0 b1 b2 a0 a1 a2 a3 cB cI n L fd fc op tn eb ec) (ty2 cB cI)) (vp_Si (fun r => r = q_find L.1 (bO eb ec) op ec nz iz)) 0 0 (fun _ => False) := by
  refine met_r (by decide) rfl (Nat.le_of_ble_eq_true rfl) ?_
  intro p e s m below meth c hx hb hml hr hlocks hown hts hP hK ls hl
  have hown : s.vm.findClass RX1 = some m.cls := hown
  have hinX1 : ∀ w ∈ u_ws RX1 TX1 7, w ∈ wsX1_find := by decide +kernel
  have hinX0 : ∀ w ∈ u_ws RX0 TX0 5, w ∈ wsX1_find := by decide +kernel
  have hl : lv_has ls 4 [(0, .ref b0), (1, .int nv), (2, .int iv)] := hl
  refine lv_aload_n hx hb dX1_find_0 rfl (lv_at hl 0 rfl) ?_
  refine va_get (D := D) (ci := 2) (v := .int (nI op)) (C := RX1) (T := TX1) (N := 7) hx hb hts hinX1 hown hK hP 0 rfl rfl 3 (by decide) (hts (.fieldLink RX1 45 "PuzzleBook" "isOpen" "Z") (by decide +kernel)) (fun _ h9 => h9) rfl dX1_find_1 ?_
  refine j0_ne (tgt := 9) hx hb (nI_toInt (n := op) (by omega)) dX1_find_4 (by decide) (fun c1 => ?_) (fun c1 => ?_)
  · skip
    have loop : ∀ (fu t : Nat), t ≤ ec → t < fu → fdF L.1 (bO eb ec) nz iz ec = fdF L.1 (bO eb ec) nz iz t → ∀ ls : Array Slot, lv_has ls 4 [(3, .int (nI t - nI 1)), (0, .ref b0), (1, .int nv), (2, .int iv)] → W p l e ({ frames := 4, cells := 0, slots := 0, locals := 88 }) s m [.ref b0, .int nv, .int iv].toArray below meth c s.heap [] 0 0 (MQ below (vp_Si (fun r => r = q_find L.1 (bO eb ec) op ec nz iz)) [.ref b0, .int nv, .int iv].toArray s 0 0 (fun _ => False)) (F0 m 16 ls []) := by
      intro fu
      induction fu with
      | zero => intro t hm hf; omega
      | succ fu ih =>
        intro t hm hfu hq ls hl
        refine lv_iload_n hx hb dX1_find_16 rfl (lv_at hl 0 rfl) ?_
        refine j0_lt (tgt := 42) hx hb (m1_toInt (by omega)) dX1_find_17 (by decide) (fun c2 => ?_) (fun c2 => ?_)
        · skip
          refine lv_iconst (v := -1) hx hb dX1_find_42 (by decide +kernel) ?_
          have hk9 : 0 = t := by omega
          subst hk9
          exact rt_i hx hb hr hlocks dX1_find_43 (by unfold q_find; rw [if_neg (by omega), hq]; rfl)
        · skip
          refine lv_aload_n hx hb dX1_find_20 rfl (lv_at hl 1 rfl) ?_
          refine lv_iload_n hx hb dX1_find_21 rfl (lv_at hl 0 rfl) ?_
          refine lv_as (y := nI (t - 1)) (pk_sub (by omega)) ?_
          refine rd_V (As := [.int (nI (t - 1))]) (rest := []) ⟨hx, hb, hml, hown, hts⟩ (c_X1_nameOf l D b0 b1 b2 a0 a1 a2 a3 cB cI n L fd fc op tn eb ec (t - 1) hn hg he hE (by omega)) (cwV 1 hts gX1_find_X1_nameOf rfl rfl rfl (by decide +kernel) ⟨Nat.le_of_ble_eq_true rfl, Nat.le_of_ble_eq_true rfl⟩) hK hP [0, 1, 2, 3, 4, 5, 6] rfl (ci := 2) rfl rfl (q0 := 0) rfl rfl hl.1 rfl (Nat.le_of_ble_eq_true rfl) dX1_find_22 ⟨Nat.zero_le _, Nat.zero_le _⟩ (fun r3 hr3 => ?_)
          subst hr3
          have m9 : nmO L.1 (bO eb ec (t - 1)) < 65536 := nmO_lt hg _
          refine lv_iload_n hx hb dX1_find_25 rfl (lv_at hl 2 rfl) ?_
          refine jb_ne (tgt := 36) hx hb (nI_toInt (n := nmO L.1 (bO eb ec (t - 1))) (by omega)) h1 dX1_find_26 (by decide) (fun c4 => ?_) (fun c4 => ?_)
          · skip
            refine lv_iinc (v := (nI (t - 1) - nI 1)) (lv' := [(3, .int (nI (t - 1) - nI 1)), (0, .ref b0), (1, .int nv), (2, .int iv)]) hx hb dX1_find_36 hl (k := 0) rfl (m1_dec (by omega)) (by decide) rfl (fun ls hl => ?_)
            refine lv_goto (tgt := 16) hx hb dX1_find_39 (by decide) ?_
            exact ih (t - 1) (by omega) (by omega) (hq.trans (fdF_f (by omega) c4)) ls (lv_sub hl [0, 1, 2, 3] rfl)
          · skip
            refine lv_aload_n hx hb dX1_find_29 rfl (lv_at hl 1 rfl) ?_
            refine lv_iload_n hx hb dX1_find_30 rfl (lv_at hl 0 rfl) ?_
            refine lv_as (y := nI (t - 1)) (pk_sub (by omega)) ?_
            refine lv_iload_n hx hb dX1_find_31 rfl (lv_at hl 3 rfl) ?_
            refine rd_V (As := [.int (nI (t - 1)), .int iv]) (rest := []) ⟨hx, hb, hml, hown, hts⟩ (c_X1_rowByte l D b0 b1 b2 a0 a1 a2 a3 cB cI n L fd fc op tn eb ec (t - 1) iv iz hn hg he hE (by omega) h2) (cwV 2 hts gX1_find_X1_rowByte rfl rfl rfl (by decide +kernel) ⟨Nat.le_of_ble_eq_true rfl, Nat.le_of_ble_eq_true rfl⟩) hK hP [0, 1, 2, 3, 4, 5, 6] rfl (ci := 2) rfl rfl (q0 := 0) rfl rfl hl.1 rfl (Nat.le_of_ble_eq_true rfl) dX1_find_32 ⟨Nat.zero_le _, Nat.zero_le _⟩ (fun r5 hr5 => ?_)
            subst hr5
            exact rt_i hx hb hr hlocks dX1_find_35 (by unfold q_find; rw [if_neg (by omega), hq, fdF_t (by omega) c4])
    refine lv_aload_n hx hb dX1_find_9 rfl (lv_at hl 0 rfl) ?_
    refine va_get (D := D) (ci := 2) (v := .int (nI ec)) (C := RX1) (T := TX1) (N := 7) hx hb hts hinX1 hown hK hP 0 rfl rfl 6 (by decide) (hts (.fieldLink RX1 20 "PuzzleBook" "entryCount" "I") (by decide +kernel)) (fun _ h9 => h9) rfl dX1_find_10 ?_
    refine lv_iconst (v := nI 1) hx hb dX1_find_13 (by decide +kernel) ?_
    refine lv_isub hx hb dX1_find_14 ?_
    refine lv_istore_n (lv' := [(3, .int (nI ec - nI 1)), (0, .ref b0), (1, .int nv), (2, .int iv)]) hx hb dX1_find_15 rfl hl (by decide) rfl (fun ls hl => ?_)
    exact loop (ec + 1) ec (by omega) (by omega) rfl ls (lv_sub hl [0, 1, 2, 3] rfl)
  · skip
    refine lv_iconst (v := -1) hx hb dX1_find_7 (by decide +kernel) ?_
    exact rt_i hx hb hr hlocks dX1_find_8 (by unfold q_find; rw [if_pos (by omega)])
set_option maxRecDepth 100000 in
set_option maxHeartbeats 4000000 in
/-- entry(k, what) -/
theorem c_X1_entry (l : Launch) (D : va_G) (b0 b1 b2 a0 a1 a2 a3 : Nat) (cB cI : ClassId) (n : Nat) (L : Lg) (fd : Nat → Nat) (fc : Nat) (op : Nat) (tn : Nat) (eb : Nat → Nat) (ec : Nat) (kv wv : Int32) (kz wz : Int) (hn : n ≤ 64) (hg : ∀ j, L.1 j < 256) (he : ec ≤ 40) (hE : ∀ k, bO eb ec k < n) (ho : op ≤ 1) (h1 : kv.toInt = kz) (h2 : wv.toInt = wz) : Met l yX1_entry wsX1_entry ({ frames := 3, cells := 0, slots := 0, locals := 66 }) (rP [.ref b0, .int kv, .int wv] D (bW b0 b1 b2 a0 a1 a2 a3 cB cI n L fd fc op tn eb ec) (ty2 cB cI)) (vp_Si (fun r => r = q_entry L.1 (bO eb ec) op ec kz wz)) 0 0 (fun _ => False) := by
  refine met_r (by decide) rfl (Nat.le_of_ble_eq_true rfl) ?_
  intro p e s m below meth c hx hb hml hr hlocks hown hts hP hK ls hl
  have hown : s.vm.findClass RX1 = some m.cls := hown
  have hinX1 : ∀ w ∈ u_ws RX1 TX1 7, w ∈ wsX1_entry := by decide +kernel
  have hinX0 : ∀ w ∈ u_ws RX0 TX0 5, w ∈ wsX1_entry := by decide +kernel
  have hl : lv_has ls 3 [(0, .ref b0), (1, .int kv), (2, .int wv)] := hl
  refine lv_aload_n hx hb dX1_entry_0 rfl (lv_at hl 0 rfl) ?_
  refine lv_iload_n hx hb dX1_entry_1 rfl (lv_at hl 1 rfl) ?_
  refine rd_V (As := [.int kv]) (rest := []) ⟨hx, hb, hml, hown, hts⟩ (c_X1_isEntry l D b0 b1 b2 a0 a1 a2 a3 cB cI n L fd fc op tn eb ec kv kz ho he h1) (cwV 1 hts gX1_entry_X1_isEntry rfl rfl rfl (by decide +kernel) ⟨Nat.le_of_ble_eq_true rfl, Nat.le_of_ble_eq_true rfl⟩) hK hP [0, 1, 2, 3, 4, 5, 6] rfl (ci := 2) rfl rfl (q0 := 0) rfl rfl hl.1 rfl (Nat.le_of_ble_eq_true rfl) dX1_entry_2 ⟨Nat.zero_le _, Nat.zero_le _⟩ (fun r1 hr1 => ?_)
  subst hr1
  by_cases q2 : (op ≠ 0 ∧ 0 ≤ kz ∧ kz < ((ec : Nat) : Int))
  · skip
    refine lv_as (y := nI 1) (congrArg nI (b01_t q2)) ?_
    refine j0_ne (tgt := 10) hx hb (nI_toInt (n := 1) (by decide)) dX1_entry_5 (by decide) (fun c3 => ?_) (fun c3 => absurd c3 (by omega))
    obtain ⟨j, hj⟩ : ∃ j : Nat, kz = (j : Int) := ⟨kz.toNat, by omega⟩
    have hj2 : kv = nI j := Int32.toInt_inj.mp (by rw [h1, hj, nI_toInt (by omega)])
    have hj3 : kz.toNat = j := by omega
    refine lv_iload_n hx hb dX1_entry_10 rfl (lv_at hl 2 rfl) ?_
    by_cases w9 : wz = 0
    · skip
      refine lv_tableIn (off := 25) (tgt := 36) hx hb dX1_entry_11 (by rw [h2, w9]; decide) (by rw [h2, w9]; decide) (by rw [h2, w9]; rfl) (by decide) ?_
      refine lv_aload_n hx hb dX1_entry_36 rfl (lv_at hl 0 rfl) ?_
      refine lv_iload_n hx hb dX1_entry_37 rfl (lv_at hl 1 rfl) ?_
      refine lv_as (y := nI j) hj2 ?_
      refine rd_V (As := [.int (nI j)]) (rest := []) ⟨hx, hb, hml, hown, hts⟩ (c_X1_nameOf l D b0 b1 b2 a0 a1 a2 a3 cB cI n L fd fc op tn eb ec j hn hg he hE (by omega)) (cwV 1 hts gX1_entry_X1_nameOf rfl rfl rfl (by decide +kernel) ⟨Nat.le_of_ble_eq_true rfl, Nat.le_of_ble_eq_true rfl⟩) hK hP [0, 1, 2, 3, 4, 5, 6] rfl (ci := 2) rfl rfl (q0 := 0) rfl rfl hl.1 rfl (Nat.le_of_ble_eq_true rfl) dX1_entry_38 ⟨Nat.zero_le _, Nat.zero_le _⟩ (fun r4 hr4 => ?_)
      subst hr4
      exact rt_i hx hb hr hlocks dX1_entry_41 (by unfold q_entry; rw [if_pos q2, w9, hj3]; rfl)
    · skip
      have x0 := w9
      by_cases w9 : wz = 1
      · skip
        refine lv_tableIn (off := 31) (tgt := 42) hx hb dX1_entry_11 (by rw [h2, w9]; decide) (by rw [h2, w9]; decide) (by rw [h2, w9]; rfl) (by decide) ?_
        refine lv_aload_n hx hb dX1_entry_42 rfl (lv_at hl 0 rfl) ?_
        refine lv_iload_n hx hb dX1_entry_43 rfl (lv_at hl 1 rfl) ?_
        refine lv_as (y := nI j) hj2 ?_
        refine rd_V (As := [.int (nI j)]) (rest := []) ⟨hx, hb, hml, hown, hts⟩ (c_X1_blockOf l D b0 b1 b2 a0 a1 a2 a3 cB cI n L fd fc op tn eb ec j he (by omega)) (cwV 1 hts gX1_entry_X1_blockOf rfl rfl rfl (by decide +kernel) ⟨Nat.le_of_ble_eq_true rfl, Nat.le_of_ble_eq_true rfl⟩) hK hP [0, 1, 2, 3, 4, 5, 6] rfl (ci := 2) rfl rfl (q0 := 0) rfl rfl hl.1 rfl (Nat.le_of_ble_eq_true rfl) dX1_entry_44 ⟨Nat.zero_le _, Nat.zero_le _⟩ (fun r5 hr5 => ?_)
        subst hr5
        exact rt_i hx hb hr hlocks dX1_entry_47 (by unfold q_entry; rw [if_pos q2, w9, hj3]; rfl)
      · skip
        have x1 := w9
        by_cases w9 : wz = 2
        · skip
          refine lv_tableIn (off := 37) (tgt := 48) hx hb dX1_entry_11 (by rw [h2, w9]; decide) (by rw [h2, w9]; decide) (by rw [h2, w9]; rfl) (by decide) ?_
          refine lv_aload_n hx hb dX1_entry_48 rfl (lv_at hl 0 rfl) ?_
          refine lv_iload_n hx hb dX1_entry_49 rfl (lv_at hl 1 rfl) ?_
          refine lv_as (y := nI j) hj2 ?_
          refine rd_V (As := [.int (nI j)]) (rest := []) ⟨hx, hb, hml, hown, hts⟩ (c_X1_lengthOf l D b0 b1 b2 a0 a1 a2 a3 cB cI n L fd fc op tn eb ec j hn hg he hE (by omega)) (cwV 1 hts gX1_entry_X1_lengthOf rfl rfl rfl (by decide +kernel) ⟨Nat.le_of_ble_eq_true rfl, Nat.le_of_ble_eq_true rfl⟩) hK hP [0, 1, 2, 3, 4, 5, 6] rfl (ci := 2) rfl rfl (q0 := 0) rfl rfl hl.1 rfl (Nat.le_of_ble_eq_true rfl) dX1_entry_50 ⟨Nat.zero_le _, Nat.zero_le _⟩ (fun r6 hr6 => ?_)
          subst hr6
          exact rt_i hx hb hr hlocks dX1_entry_53 (by unfold q_entry; rw [if_pos q2, w9, hj3]; rfl)
        · skip
          have x2 := w9
          refine lv_tableOut (tgt := 54) hx hb dX1_entry_11 (by rw [h2]; omega) (by decide) ?_
          refine lv_iconst (v := -1) hx hb dX1_entry_54 (by decide +kernel) ?_
          exact rt_i hx hb hr hlocks dX1_entry_55 (by unfold q_entry; rw [if_pos q2, if_neg x0, if_neg x1, if_neg x2])
  · skip
    refine lv_as (y := nI 0) (congrArg nI (b01_f q2)) ?_
    refine j0_ne (tgt := 10) hx hb (nI_toInt (n := 0) (by decide)) dX1_entry_5 (by decide) (fun c7 => absurd c7 (by omega)) (fun c7 => ?_)
    refine lv_iconst (v := -1) hx hb dX1_entry_8 (by decide +kernel) ?_
    exact rt_i hx hb hr hlocks dX1_entry_9 (by unfold q_entry; rw [if_neg q2])
set_option maxRecDepth 100000 in
set_option maxHeartbeats 4000000 in
/-- free() -/
theorem c_X1_free (l : Launch) (D : va_G) (b0 b1 b2 a0 a1 a2 a3 : Nat) (cB cI : ClassId) (n : Nat) (L : Lg) (fd : Nat → Nat) (fc : Nat) (op : Nat) (tn : Nat) (eb : Nat → Nat) (ec : Nat)  (ho : op ≤ 1) : Met l yX1_free wsX1_free ({ frames := 1, cells := 0, slots := 0, locals := 20 }) (rP [.ref b0] D (bW b0 b1 b2 a0 a1 a2 a3 cB cI n L fd fc op tn eb ec) (ty2 cB cI)) (vp_Si (fun r => r = q_free op n ec)) 0 0 (fun _ => False) := by
  refine met_r (by decide) rfl (Nat.le_of_ble_eq_true rfl) ?_
  intro p e s m below meth c hx hb hml hr hlocks hown hts hP hK ls hl
  have hown : s.vm.findClass RX1 = some m.cls := hown
  have hinX1 : ∀ w ∈ u_ws RX1 TX1 7, w ∈ wsX1_free := by decide +kernel
  have hinX0 : ∀ w ∈ u_ws RX0 TX0 5, w ∈ wsX1_free := by decide +kernel
  have hl : lv_has ls 1 [(0, .ref b0)] := hl
  refine lv_aload_n hx hb dX1_free_0 rfl (lv_at hl 0 rfl) ?_
  refine va_get (D := D) (ci := 2) (v := .int (nI op)) (C := RX1) (T := TX1) (N := 7) hx hb hts hinX1 hown hK hP 0 rfl rfl 3 (by decide) (hts (.fieldLink RX1 45 "PuzzleBook" "isOpen" "Z") (by decide +kernel)) (fun _ h9 => h9) rfl dX1_free_1 ?_
  refine j0_eq (tgt := 24) hx hb (nI_toInt (n := op) (by omega)) dX1_free_4 (by decide) (fun c1 => ?_) (fun c1 => ?_)
  · skip
    refine lv_iconst (v := -1) hx hb dX1_free_24 (by decide +kernel) ?_
    exact rt_i hx hb hr hlocks dX1_free_25 (by unfold q_free; rw [if_pos (by omega)])
  · skip
    refine lv_aload_n hx hb dX1_free_7 rfl (lv_at hl 0 rfl) ?_
    refine va_get (D := D) (ci := 2) (v := .ref a0) (C := RX1) (T := TX1) (N := 7) hx hb hts hinX1 hown hK hP 0 rfl rfl 0 (by decide) (hts (.fieldLink RX1 28 "PuzzleBook" "store" "LPuzzleBook$Store;") (by decide +kernel)) (fun _ h9 => h9) rfl dX1_free_8 ?_
    refine rd_V (As := []) (rest := []) ⟨hx, hb, hml, hown, hts⟩ (c_X0_blockCount l D a0 a1 a2 a3 cB cI n L  ) (cwV 0 hts gX1_free_X0_blockCount rfl rfl rfl (by decide +kernel) ⟨Nat.le_of_ble_eq_true rfl, Nat.le_of_ble_eq_true rfl⟩) hK hP [3, 4, 5, 6] rfl (ci := 1) rfl rfl (q0 := 3) rfl rfl hl.1 rfl (Nat.le_of_ble_eq_true rfl) dX1_free_11 ⟨Nat.zero_le _, Nat.zero_le _⟩ (fun r2 hr2 => ?_)
    subst hr2
    refine lv_iconst (v := nI 3) hx hb dX1_free_14 (by decide +kernel) ?_
    refine lv_isub hx hb dX1_free_15 ?_
    refine lv_aload_n hx hb dX1_free_16 rfl (lv_at hl 0 rfl) ?_
    refine va_get (D := D) (ci := 2) (v := .int (nI ec)) (C := RX1) (T := TX1) (N := 7) hx hb hts hinX1 hown hK hP 0 rfl rfl 6 (by decide) (hts (.fieldLink RX1 20 "PuzzleBook" "entryCount" "I") (by decide +kernel)) (fun _ h9 => h9) rfl dX1_free_17 ?_
    refine lv_isub hx hb dX1_free_20 ?_
    refine lv_goto (tgt := 25) hx hb dX1_free_21 (by decide) ?_
    exact rt_i hx hb hr hlocks dX1_free_25 (by unfold q_free; rw [if_neg (by omega)])
set_option maxRecDepth 100000 in
set_option maxHeartbeats 4000000 in
/-- root() -/
theorem c_X1_root (l : Launch) (D : va_G) (b0 b1 b2 a0 a1 a2 a3 : Nat) (cB cI : ClassId) (n : Nat) (L : Lg) (fd : Nat → Nat) (fc : Nat) (op : Nat) (tn : Nat) (eb : Nat → Nat) (ec : Nat)  (ho : op ≤ 1) : Met l yX1_root wsX1_root ({ frames := 0, cells := 0, slots := 0, locals := 0 }) (rP [.ref b0] D (bW b0 b1 b2 a0 a1 a2 a3 cB cI n L fd fc op tn eb ec) (ty2 cB cI)) (vp_Si (fun r => r = q_root op tn)) 0 0 (fun _ => False) := by
  refine met_r (by decide) rfl (Nat.le_of_ble_eq_true rfl) ?_
  intro p e s m below meth c hx hb hml hr hlocks hown hts hP hK ls hl
  have hown : s.vm.findClass RX1 = some m.cls := hown
  have hinX1 : ∀ w ∈ u_ws RX1 TX1 7, w ∈ wsX1_root := by decide +kernel
  have hl : lv_has ls 1 [(0, .ref b0)] := hl
  refine lv_aload_n hx hb dX1_root_0 rfl (lv_at hl 0 rfl) ?_
  refine va_get (D := D) (ci := 2) (v := .int (nI op)) (C := RX1) (T := TX1) (N := 7) hx hb hts hinX1 hown hK hP 0 rfl rfl 3 (by decide) (hts (.fieldLink RX1 45 "PuzzleBook" "isOpen" "Z") (by decide +kernel)) (fun _ h9 => h9) rfl dX1_root_1 ?_
  refine j0_eq (tgt := 14) hx hb (nI_toInt (n := op) (by omega)) dX1_root_4 (by decide) (fun c1 => ?_) (fun c1 => ?_)
  · skip
    refine lv_iconst (v := -1) hx hb dX1_root_14 (by decide +kernel) ?_
    exact rt_i hx hb hr hlocks dX1_root_15 (by unfold q_root; rw [if_pos (by omega)])
  · skip
    refine lv_aload_n hx hb dX1_root_7 rfl (lv_at hl 0 rfl) ?_
    refine va_get (D := D) (ci := 2) (v := .int (nI tn)) (C := RX1) (T := TX1) (N := 7) hx hb hts hinX1 hown hK hP 0 rfl rfl 4 (by decide) (hts (.fieldLink RX1 32 "PuzzleBook" "turn" "I") (by decide +kernel)) (fun _ h9 => h9) rfl dX1_root_8 ?_
    refine lv_goto (tgt := 15) hx hb dX1_root_11 (by decide) ?_
    exact rt_i hx hb hr hlocks dX1_root_15 (by unfold q_root; rw [if_neg (by omega)])
set_option maxRecDepth 100000 in
set_option maxHeartbeats 4000000 in
/-- badAt() -/
theorem c_X1_badAt (l : Launch) (D : va_G) (b0 b1 b2 a0 a1 a2 a3 : Nat) (cB cI : ClassId) (n : Nat) (L : Lg) (fd : Nat → Nat) (fc : Nat) (op : Nat) (tn : Nat) (eb : Nat → Nat) (ec : Nat)  (hn : n ≤ 64) (hg : ∀ j, L.1 j < 256) (he : ec ≤ 40) (hE : ∀ k, bO eb ec k < n) (ho : op ≤ 1) (ht : op ≠ 0 → tn < n) : Met l yX1_badAt wsX1_badAt ({ frames := 4, cells := 0, slots := 0, locals := 91 }) (rP [.ref b0] D (bW b0 b1 b2 a0 a1 a2 a3 cB cI n L fd fc op tn eb ec) (ty2 cB cI)) (vp_Si (fun r => r = q_bad L.1 (bO eb ec) op tn ec)) 0 0 (fun _ => False) := by
  refine met_r (by decide) rfl (Nat.le_of_ble_eq_true rfl) ?_
  intro p e s m below meth c hx hb hml hr hlocks hown hts hP hK ls hl
  have hown : s.vm.findClass RX1 = some m.cls := hown
  have hinX1 : ∀ w ∈ u_ws RX1 TX1 7, w ∈ wsX1_badAt := by decide +kernel
  have hinX0 : ∀ w ∈ u_ws RX0 TX0 5, w ∈ wsX1_badAt := by decide +kernel
  have hl : lv_has ls 4 [(0, .ref b0)] := hl
  have h64 : ∀ k, bO eb ec k < 64 := fun k => Nat.lt_of_lt_of_le (hE k) hn
  refine lv_aload_n hx hb dX1_badAt_0 rfl (lv_at hl 0 rfl) ?_
  refine va_get (D := D) (ci := 2) (v := .int (nI op)) (C := RX1) (T := TX1) (N := 7) hx hb hts hinX1 hown hK hP 0 rfl rfl 3 (by decide) (hts (.fieldLink RX1 45 "PuzzleBook" "isOpen" "Z") (by decide +kernel)) (fun _ h9 => h9) rfl dX1_badAt_1 ?_
  refine j0_ne (tgt := 9) hx hb (nI_toInt (n := op) (by omega)) dX1_badAt_4 (by decide) (fun c1 => ?_) (fun c1 => ?_)
  · skip
    have t9 := ht (by omega)
    refine lv_aload_n hx hb dX1_badAt_9 rfl (lv_at hl 0 rfl) ?_
    refine va_get (D := D) (ci := 2) (v := .ref a0) (C := RX1) (T := TX1) (N := 7) hx hb hts hinX1 hown hK hP 0 rfl rfl 0 (by decide) (hts (.fieldLink RX1 28 "PuzzleBook" "store" "LPuzzleBook$Store;") (by decide +kernel)) (fun _ h9 => h9) rfl dX1_badAt_10 ?_
    refine lv_aload_n hx hb dX1_badAt_13 rfl (lv_at hl 0 rfl) ?_
    refine va_get (D := D) (ci := 2) (v := .int (nI tn)) (C := RX1) (T := TX1) (N := 7) hx hb hts hinX1 hown hK hP 0 rfl rfl 4 (by decide) (hts (.fieldLink RX1 32 "PuzzleBook" "turn" "I") (by decide +kernel)) (fun _ h9 => h9) rfl dX1_badAt_14 ?_
    refine rd_V (As := [.int (nI tn)]) (rest := []) ⟨hx, hb, hml, hown, hts⟩ (c_X0_hasRightSum l D a0 a1 a2 a3 cB cI n L tn hn hg t9) (cwV 1 hts gX1_badAt_X0_hasRightSum rfl rfl rfl (by decide +kernel) ⟨Nat.le_of_ble_eq_true rfl, Nat.le_of_ble_eq_true rfl⟩) hK hP [3, 4, 5, 6] rfl (ci := 1) rfl rfl (q0 := 3) rfl rfl hl.1 rfl (Nat.le_of_ble_eq_true rfl) dX1_badAt_17 ⟨Nat.zero_le _, Nat.zero_le _⟩ (fun r2 hr2 => ?_)
    subst hr2
    by_cases q3 : (okS L.1 (64 * tn))
    · skip
      refine lv_as (y := nI 1) (congrArg nI (b01_t q3)) ?_
      refine j0_ne (tgt := 28) hx hb (nI_toInt (n := 1) (by decide)) dX1_badAt_20 (by decide) (fun c4 => ?_) (fun c4 => absurd c4 (by omega))
      have loop : ∀ (fu k : Nat) (sv : Int32), k ≤ ec → ec - k < fu → sv = lwI (lwN (fun b => ¬ okS L.1 (64 * b)) (bO eb ec) k) → ∀ ls : Array Slot, lv_has ls 4 [(1, .int sv), (2, .int (nI k)), (0, .ref b0)] → W p l e ({ frames := 4, cells := 0, slots := 0, locals := 91 }) s m [.ref b0].toArray below meth c s.heap [] 0 0 (MQ below (vp_Si (fun r => r = q_bad L.1 (bO eb ec) op tn ec)) [.ref b0].toArray s 0 0 (fun _ => False)) (F0 m 32 ls []) := by
        intro fu
        induction fu with
        | zero => intro k sv hk hf; omega
        | succ fu ih =>
          intro k sv hk hfu hs ls hl
          refine lv_iload_n hx hb dX1_badAt_32 rfl (lv_at hl 1 rfl) ?_
          refine lv_aload_n hx hb dX1_badAt_33 rfl (lv_at hl 2 rfl) ?_
          refine va_get (D := D) (ci := 2) (v := .int (nI ec)) (C := RX1) (T := TX1) (N := 7) hx hb hts hinX1 hown hK hP 0 rfl rfl 6 (by decide) (hts (.fieldLink RX1 20 "PuzzleBook" "entryCount" "I") (by decide +kernel)) (fun _ h9 => h9) rfl dX1_badAt_34 ?_
          refine jb_ge (tgt := 69) hx hb (nI_toInt (n := k) (by omega)) (nI_toInt (n := ec) (by omega)) dX1_badAt_37 (by decide) (fun c5 => ?_) (fun c5 => ?_)
          · skip
            refine lv_iload_n hx hb dX1_badAt_69 rfl (lv_at hl 0 rfl) ?_
            have hk9 : k = ec := by omega
            rw [hk9] at hs
            exact rt_i hx hb hr hlocks dX1_badAt_70 (by unfold q_bad; rw [if_neg (by omega), if_pos q3]; exact hs)
          · skip
            refine lv_aload_n hx hb dX1_badAt_40 rfl (lv_at hl 2 rfl) ?_
            refine lv_iload_n hx hb dX1_badAt_41 rfl (lv_at hl 1 rfl) ?_
            refine rd_V (As := [.int (nI k)]) (rest := []) ⟨hx, hb, hml, hown, hts⟩ (c_X1_blockOf l D b0 b1 b2 a0 a1 a2 a3 cB cI n L fd fc op tn eb ec k he (by omega)) (cwV 1 hts gX1_badAt_X1_blockOf rfl rfl rfl (by decide +kernel) ⟨Nat.le_of_ble_eq_true rfl, Nat.le_of_ble_eq_true rfl⟩) hK hP [0, 1, 2, 3, 4, 5, 6] rfl (ci := 2) rfl rfl (q0 := 0) rfl rfl hl.1 rfl (Nat.le_of_ble_eq_true rfl) dX1_badAt_42 ⟨Nat.zero_le _, Nat.zero_le _⟩ (fun r6 hr6 => ?_)
            subst hr6
            refine lv_istore_n (lv' := [(3, .int (nI (bO eb ec k))), (1, .int sv), (2, .int (nI k)), (0, .ref b0)]) hx hb dX1_badAt_45 rfl hl (by decide) rfl (fun ls hl => ?_)
            refine lv_aload_n hx hb dX1_badAt_46 rfl (lv_at hl 3 rfl) ?_
            refine va_get (D := D) (ci := 2) (v := .ref a0) (C := RX1) (T := TX1) (N := 7) hx hb hts hinX1 hown hK hP 0 rfl rfl 0 (by decide) (hts (.fieldLink RX1 28 "PuzzleBook" "store" "LPuzzleBook$Store;") (by decide +kernel)) (fun _ h9 => h9) rfl dX1_badAt_47 ?_
            refine lv_iload_n hx hb dX1_badAt_50 rfl (lv_at hl 0 rfl) ?_
            refine rd_V (As := [.int (nI (bO eb ec k))]) (rest := []) ⟨hx, hb, hml, hown, hts⟩ (c_X0_hasRightSum l D a0 a1 a2 a3 cB cI n L (bO eb ec k) hn hg (hE _)) (cwV 1 hts gX1_badAt_X0_hasRightSum rfl rfl rfl (by decide +kernel) ⟨Nat.le_of_ble_eq_true rfl, Nat.le_of_ble_eq_true rfl⟩) hK hP [3, 4, 5, 6] rfl (ci := 1) rfl rfl (q0 := 3) rfl rfl hl.1 rfl (Nat.le_of_ble_eq_true rfl) dX1_badAt_51 ⟨Nat.zero_le _, Nat.zero_le _⟩ (fun r7 hr7 => ?_)
            subst hr7
            by_cases q8 : (okS L.1 (64 * (bO eb ec k)))
            · skip
              refine lv_as (y := nI 1) (congrArg nI (b01_t q8)) ?_
              refine j0_ne (tgt := 63) hx hb (nI_toInt (n := 1) (by decide)) dX1_badAt_54 (by decide) (fun c9 => ?_) (fun c9 => absurd c9 (by omega))
              refine lv_iinc (v := nI (k + 1)) (lv' := [(2, .int (nI (k + 1))), (3, .int (nI (bO eb ec k))), (1, .int sv), (0, .ref b0)]) hx hb dX1_badAt_63 hl (k := 2) rfl (nI_add _ 1) (by decide) rfl (fun ls hl => ?_)
              refine lv_goto (tgt := 32) hx hb dX1_badAt_66 (by decide) ?_
              exact ih (k + 1) _ (by omega) (by omega) (lw_skip (fun z => z q8) hs) ls (lv_sub hl [2, 0, 3] rfl)
            · skip
              refine lv_as (y := nI 0) (congrArg nI (b01_f q8)) ?_
              refine j0_ne (tgt := 63) hx hb (nI_toInt (n := 0) (by decide)) dX1_badAt_54 (by decide) (fun c10 => absurd c10 (by omega)) (fun c10 => ?_)
              by_cases q9 : lwN (fun b => ¬ okS L.1 (64 * b)) (bO eb ec) k = 1000
              · skip
                refine lv_iload_n hx hb dX1_badAt_57 rfl (lv_at hl 1 rfl) ?_
                refine lv_as (y := (-1)) (by rw [hs]; unfold lwI; rw [if_pos q9]) ?_
                refine lv_iload_n hx hb dX1_badAt_58 rfl (lv_at hl 0 rfl) ?_
                refine rd_S (As := [.int (-1), .int (nI (bO eb ec k))]) (rest := []) ⟨hx, hb, hml, hown, hts⟩ (c_X1_lesserBlock l D  cB cI  (bO eb ec k) ) (va_cwS 2 hts gX1_badAt_X1_lesserBlock rfl rfl rfl (by decide +kernel) ⟨Nat.le_of_ble_eq_true rfl, Nat.le_of_ble_eq_true rfl⟩) hK hP [] rfl rfl hl.1 rfl (Nat.le_of_ble_eq_true rfl) dX1_badAt_59 ⟨Nat.zero_le _, Nat.zero_le _⟩ (fun r11 hr11 => ?_)
                subst hr11
                refine lv_istore_n (lv' := [(1, .int (nI (bO eb ec k))), (3, .int (nI (bO eb ec k))), (2, .int (nI k)), (0, .ref b0)]) hx hb dX1_badAt_62 rfl hl (by decide) rfl (fun ls hl => ?_)
                refine lv_iinc (v := nI (k + 1)) (lv' := [(2, .int (nI (k + 1))), (1, .int (nI (bO eb ec k))), (3, .int (nI (bO eb ec k))), (0, .ref b0)]) hx hb dX1_badAt_63 hl (k := 2) rfl (nI_add _ 1) (by decide) rfl (fun ls hl => ?_)
                refine lv_goto (tgt := 32) hx hb dX1_badAt_66 (by decide) ?_
                exact ih (k + 1) _ (by omega) (by omega) (lw_none q9 q8 h64) ls (lv_sub hl [1, 0, 3] rfl)
              · skip
                have l64 := (lwN_or (P := (fun b => ¬ okS L.1 (64 * b))) (E := (bO eb ec)) h64 k).resolve_left q9
                refine lv_iload_n hx hb dX1_badAt_57 rfl (lv_at hl 1 rfl) ?_
                refine lv_as (y := nI (lwN (fun b => ¬ okS L.1 (64 * b)) (bO eb ec) k)) (by rw [hs]; unfold lwI; rw [if_neg q9]) ?_
                refine lv_iload_n hx hb dX1_badAt_58 rfl (lv_at hl 0 rfl) ?_
                refine rd_S (As := [.int (nI (lwN (fun b => ¬ okS L.1 (64 * b)) (bO eb ec) k)), .int (nI (bO eb ec k))]) (rest := []) ⟨hx, hb, hml, hown, hts⟩ (c_X1_lesserBlock_s l D  cB cI  (lwN (fun b => ¬ okS L.1 (64 * b)) (bO eb ec) k) (bO eb ec k) (by omega) (by have := h64 k; omega)) (va_cwS 2 hts gX1_badAt_X1_lesserBlock rfl rfl rfl (by decide +kernel) ⟨Nat.le_of_ble_eq_true rfl, Nat.le_of_ble_eq_true rfl⟩) hK hP [] rfl rfl hl.1 rfl (Nat.le_of_ble_eq_true rfl) dX1_badAt_59 ⟨Nat.zero_le _, Nat.zero_le _⟩ (fun r12 hr12 => ?_)
                subst hr12
                refine lv_istore_n (lv' := [(1, .int (nI (min (lwN (fun b => ¬ okS L.1 (64 * b)) (bO eb ec) k) (bO eb ec k)))), (3, .int (nI (bO eb ec k))), (2, .int (nI k)), (0, .ref b0)]) hx hb dX1_badAt_62 rfl hl (by decide) rfl (fun ls hl => ?_)
                refine lv_iinc (v := nI (k + 1)) (lv' := [(2, .int (nI (k + 1))), (1, .int (nI (min (lwN (fun b => ¬ okS L.1 (64 * b)) (bO eb ec) k) (bO eb ec k)))), (3, .int (nI (bO eb ec k))), (0, .ref b0)]) hx hb dX1_badAt_63 hl (k := 2) rfl (nI_add _ 1) (by decide) rfl (fun ls hl => ?_)
                refine lv_goto (tgt := 32) hx hb dX1_badAt_66 (by decide) ?_
                exact ih (k + 1) _ (by omega) (by omega) (lw_some q9 q8 h64) ls (lv_sub hl [1, 0, 3] rfl)
      refine lv_iconst (v := -1) hx hb dX1_badAt_28 (by decide +kernel) ?_
      refine lv_istore_n (lv' := [(1, .int (-1)), (0, .ref b0)]) hx hb dX1_badAt_29 rfl hl (by decide) rfl (fun ls hl => ?_)
      refine lv_iconst (v := nI 0) hx hb dX1_badAt_30 (by decide +kernel) ?_
      refine lv_istore_n (lv' := [(2, .int (nI 0)), (1, .int (-1)), (0, .ref b0)]) hx hb dX1_badAt_31 rfl hl (by decide) rfl (fun ls hl => ?_)
      exact loop (ec + 1) 0 _ (by omega) (by omega) rfl ls (lv_sub hl [1, 0, 2] rfl)
    · skip
      refine lv_as (y := nI 0) (congrArg nI (b01_f q3)) ?_
      refine j0_ne (tgt := 28) hx hb (nI_toInt (n := 0) (by decide)) dX1_badAt_20 (by decide) (fun c13 => absurd c13 (by omega)) (fun c13 => ?_)
      refine lv_aload_n hx hb dX1_badAt_23 rfl (lv_at hl 0 rfl) ?_
      refine va_get (D := D) (ci := 2) (v := .int (nI tn)) (C := RX1) (T := TX1) (N := 7) hx hb hts hinX1 hown hK hP 0 rfl rfl 4 (by decide) (hts (.fieldLink RX1 32 "PuzzleBook" "turn" "I") (by decide +kernel)) (fun _ h9 => h9) rfl dX1_badAt_24 ?_
      exact rt_i hx hb hr hlocks dX1_badAt_27 (by unfold q_bad; rw [if_neg (by omega), if_neg q3])
  · skip
    refine lv_iconst (v := -1) hx hb dX1_badAt_7 (by decide +kernel) ?_
    exact rt_i hx hb hr hlocks dX1_badAt_8 (by unfold q_bad; rw [if_pos (by omega)])
end
section
/-! 08: PuzzleBook, its writes (laid by wip/whole/gen/gen_write.py) -/
theorem w1_c (L : Lg) (a x : Nat) : (w1 L a x).2.2.2 = L.2.2.2 + 1 := rfl
theorem w1_lt {L : Lg} {pl x : Nat} (hg : ∀ j, L.1 j < 256) (hx : x < 256) : ∀ j, (w1 L pl x).1 j < 256 := fun j => by
  show va_up _ _ _ j < 256
  unfold va_up; split
  · exact hx
  · exact hg j
theorem wS_lt {L : Lg} {p : Nat} (hg : ∀ j, L.1 j < 256) : ∀ j, (wS L p).1 j < 256 := wN_lt hg (sby_lt _) 4
theorem wS_c (L : Lg) (p : Nat) : (wS L p).2.2.2 = L.2.2.2 + 4 := wN_c L _ _ 4
/-- an entry's block written -/
def wE (L : Lg) (b nm fc : Nat) (fd : Nat → Nat) : Lg := wS (wN (w1 (w1 (w1 L (64 * b + 0) (nm % 256)) (64 * b + 1) (nm / 256)) (64 * b + 2) fc) (64 * b + 3) (bO fd fc) 57) (64 * b)
/-- a root block written -/
def wR (L : Lg) (b ec : Nat) (v : Nat → Nat) : Lg := wS (wN (w1 L (64 * b + 0) ec) (64 * b + 1) v 59) (64 * b)
theorem wE_c (L : Lg) (b nm fc : Nat) (fd : Nat → Nat) : (wE L b nm fc fd).2.2.2 = L.2.2.2 + 64 := by
  unfold wE; rw [wS_c, wN_c, w1_c, w1_c, w1_c]
theorem wR_c (L : Lg) (b ec : Nat) (v : Nat → Nat) : (wR L b ec v).2.2.2 = L.2.2.2 + 64 := by
  unfold wR; rw [wS_c, wN_c, w1_c]
theorem wE_lt {L : Lg} {b nm fc : Nat} {fd : Nat → Nat} (hg : ∀ j, L.1 j < 256) (hn : nm < 65536) (hf : fc ≤ 48) (hd : ∀ i, fd i < 256) : ∀ j, (wE L b nm fc fd).1 j < 256 :=
  wS_lt (wN_lt (w1_lt (w1_lt (w1_lt hg (Nat.mod_lt _ (by decide))) (by omega)) (by omega)) (bO_lt (by decide) (fun k _ => hd k)) 57)
theorem wR_lt {L : Lg} {b ec : Nat} {v : Nat → Nat} (hg : ∀ j, L.1 j < 256) (he : ec ≤ 40) (hv : ∀ i, v i < 256) : ∀ j, (wR L b ec v).1 j < 256 :=
  wS_lt (wN_lt (w1_lt hg (by omega)) hv 59)
/-- the entries behind k, j of them, one place down -/
def shf (eb : Nat → Nat) (k : Nat) : Nat → Nat → Nat
  | 0 => eb
  | j + 1 => va_up (shf eb k j) (k + j) (shf eb k j (k + j + 1))
/-- the root's entries, the first k of them -/
def cpE (g : Nat → Nat) (b : Nat) (eb : Nat → Nat) : Nat → Nat → Nat
  | 0 => eb
  | k + 1 => va_up (cpE g b eb k) k (g (64 * b + (1 + k)))
theorem cpE_at {g eb : Nat → Nat} {b : Nat} : ∀ {k j : Nat}, j < k → cpE g b eb k j = g (64 * b + (1 + j))
  | k + 1, j, h => by
    show va_up _ _ _ j = _
    unfold va_up; split
    · subst_vars; rfl
    · exact cpE_at (by omega)
/-- entry k of a root isn't right -/
def badK (g : Nat → Nat) (b n k : Nat) : Prop := g (64 * b + (1 + k)) < 3 ∨ n ≤ g (64 * b + (1 + k)) ∨ ∃ j, j < k ∧ g (64 * b + (1 + j)) = g (64 * b + (1 + k))
def gdR (g : Nat → Nat) (b : Nat) : Prop := okS g (64 * b) ∧ g (64 * b) ≤ 40
/-- how many entries of a root are read -/
noncomputable def rdN (g : Nat → Nat) (b n : Nat) : Nat := @ite Nat (gdR g b) (Classical.propDecidable _) (fN (badK g b n) (g (64 * b))) 0
/-- the root is right -/
def rdO (g : Nat → Nat) (b n : Nat) : Prop := gdR g b ∧ ∀ k, k < g (64 * b) → ¬ badK g b n k
theorem rdN_f {g : Nat → Nat} {b n : Nat} (h : ¬ gdR g b) : rdN g b n = 0 := if_neg h
theorem rdN_t {g : Nat → Nat} {b n : Nat} (h : gdR g b) : rdN g b n = fN (badK g b n) (g (64 * b)) := if_pos h
theorem rdN_le {g : Nat → Nat} {b n : Nat} : rdN g b n ≤ 40 := by
  by_cases h : gdR g b
  · rw [rdN_t h]; exact Nat.le_trans (fN_le _ _) h.2
  · rw [rdN_f h]; omega
theorem rdO_N {g : Nat → Nat} {b n : Nat} (h : rdO g b n) : rdN g b n = g (64 * b) := by rw [rdN_t h.1, fN_no h.2]
theorem cpE_n {g eb : Nat → Nat} {b n k : Nat} (h0 : 0 < n) (h : ∀ j, j < k → ¬ badK g b n j) (i : Nat) : bO (cpE g b eb k) k i < n :=
  bO_lt h0 (fun j hj => by
    rw [cpE_at hj]
    rcases Nat.lt_or_ge (g (64 * b + (1 + j))) n with q | q
    · exact q
    · exact absurd (Or.inr (Or.inl q)) (h j hj)) i
theorem rdN_n {g eb : Nat → Nat} {b n : Nat} (h0 : 0 < n) (i : Nat) : bO (cpE g b eb (rdN g b n)) (rdN g b n) i < n := by
  by_cases h : gdR g b
  · rw [rdN_t h]; exact cpE_n h0 (fun j hj => fN_not hj) i
  · rw [rdN_f h]; exact bO_lt h0 (fun j hj => absurd hj (Nat.not_lt_zero j)) i
theorem tk_cpE {g eb : Nat → Nat} {b k x : Nat} : tk (bO (cpE g b eb k) k) k x ↔ ∃ j, j < k ∧ g (64 * b + (1 + j)) = x := by
  constructor
  · intro ⟨j, hj, e⟩
    rw [bO_t hj, cpE_at hj] at e
    exact ⟨j, hj, e⟩
  · intro ⟨j, hj, e⟩
    exact ⟨j, hj, by rw [bO_t hj, cpE_at hj]; exact e⟩
set_option maxRecDepth 100000 in
set_option maxHeartbeats 4000000 in
/-- addEntryBlock(block) -/
theorem c_X1_addEntryBlock (l : Launch) (D : va_G) (b0 b1 b2 a0 a1 a2 a3 : Nat) (cB cI : ClassId) (n : Nat) (L : Lg) (fd : Nat → Nat) (fc : Nat) (op : Nat) (tn : Nat) (eb : Nat → Nat) (ec : Nat) (bk : Nat) (sz : Nat) (h1 : ec < 40) : Met l yX1_addEntryBlock wsX1_addEntryBlock ({ frames := 0, cells := 0, slots := 0, locals := 0 }) (wP [.ref b0, .int (nI bk)] D (bW b0 b1 b2 a0 a1 a2 a3 cB cI n L fd fc op tn eb ec) (ty2 cB cI) sz) (wQv D (bW b0 b1 b2 a0 a1 a2 a3 cB cI n L fd fc op tn (va_up eb ec bk) (ec + 1)) (va_A (bW b0 b1 b2 a0 a1 a2 a3 cB cI n L fd fc op tn eb ec) sz)) 0 0 (va_A (bW b0 b1 b2 a0 a1 a2 a3 cB cI n L fd fc op tn eb ec) sz) := by
  refine met_w (by decide) rfl (Nat.le_of_ble_eq_true rfl) ?_
  intro p e s m below meth c hx hb hml hr hlocks hown hts hP hK A hD hA hS ls hl
  have hown : s.vm.findClass RX1 = some m.cls := hown
  have hinX1 : ∀ w ∈ u_ws RX1 TX1 7, w ∈ wsX1_addEntryBlock := by decide +kernel
  have hl : lv_has ls 2 [(0, .ref b0), (1, .int (nI bk))] := hl
  refine lv_aload_n hx hb dX1_addEntryBlock_0 rfl (lv_at hl 0 rfl) ?_
  refine va_get (D := D) (ci := 2) (v := .int (nI ec)) (C := RX1) (T := TX1) (N := 7) hx hb hts hinX1 hown hK hP 0 rfl rfl 6 (by decide) (hts (.fieldLink RX1 20 "PuzzleBook" "entryCount" "I") (by decide +kernel)) (fun _ h9 => h9) rfl dX1_addEntryBlock_1 ?_
  refine j0_lt (tgt := 39) hx hb (nI_toInt (n := ec) (by omega)) dX1_addEntryBlock_4 (by decide) (fun c1 => absurd c1 (by omega)) (fun c1 => ?_)
  refine lv_aload_n hx hb dX1_addEntryBlock_7 rfl (lv_at hl 0 rfl) ?_
  refine va_get (D := D) (ci := 2) (v := .int (nI ec)) (C := RX1) (T := TX1) (N := 7) hx hb hts hinX1 hown hK hP 0 rfl rfl 6 (by decide) (hts (.fieldLink RX1 20 "PuzzleBook" "entryCount" "I") (by decide +kernel)) (fun _ h9 => h9) rfl dX1_addEntryBlock_8 ?_
  refine lv_aload_n hx hb dX1_addEntryBlock_11 rfl (lv_at hl 0 rfl) ?_
  refine va_get (D := D) (ci := 2) (v := .ref b2) (C := RX1) (T := TX1) (N := 7) hx hb hts hinX1 hown hK hP 0 rfl rfl 5 (by decide) (hts (.fieldLink RX1 17 "PuzzleBook" "entryBlocks" "[I") (by decide +kernel)) (fun _ h9 => h9) rfl dX1_addEntryBlock_12 ?_
  refine al_i hx hb hK hP 2 1 rfl rfl dX1_addEntryBlock_15 ?_
  refine jb_ge (tgt := 39) hx hb (nI_toInt (n := ec) (by omega)) (nI_toInt (n := 40) (by decide)) dX1_addEntryBlock_16 (by decide) (fun c2 => absurd c2 (by omega)) (fun c2 => ?_)
  refine lv_aload_n hx hb dX1_addEntryBlock_19 rfl (lv_at hl 0 rfl) ?_
  refine va_get (D := D) (ci := 2) (v := .ref b2) (C := RX1) (T := TX1) (N := 7) hx hb hts hinX1 hown hK hP 0 rfl rfl 5 (by decide) (hts (.fieldLink RX1 17 "PuzzleBook" "entryBlocks" "[I") (by decide +kernel)) (fun _ h9 => h9) rfl dX1_addEntryBlock_20 ?_
  refine lv_aload_n hx hb dX1_addEntryBlock_23 rfl (lv_at hl 0 rfl) ?_
  refine va_get (D := D) (ci := 2) (v := .int (nI ec)) (C := RX1) (T := TX1) (N := 7) hx hb hts hinX1 hown hK hP 0 rfl rfl 6 (by decide) (hts (.fieldLink RX1 20 "PuzzleBook" "entryCount" "I") (by decide +kernel)) (fun _ h9 => h9) rfl dX1_addEntryBlock_24 ?_
  refine lv_iload_n hx hb dX1_addEntryBlock_27 rfl (lv_at hl 1 rfl) ?_
  refine st_i (f := eb) (k := ec) (x := bk) hx hb hK hP hD hS 2 1 rfl rfl (by omega) (by decide) dX1_addEntryBlock_28 (fun H locs hP hD hS => ?_)
  have hP : va_P D vwCl (bW b0 b1 b2 a0 a1 a2 a3 cB cI n L fd fc op tn (va_up eb ec bk) ec) H := hP
  have hD : va_D A (bW b0 b1 b2 a0 a1 a2 a3 cB cI n L fd fc op tn (va_up eb ec bk) ec) := hD
  refine lv_aload_n hx hb dX1_addEntryBlock_29 rfl (lv_at hl 0 rfl) ?_
  refine lv_dup hx hb dX1_addEntryBlock_30 rfl ?_
  refine va_get (D := D) (ci := 2) (v := .int (nI ec)) (C := RX1) (T := TX1) (N := 7) hx hb hts hinX1 hown hK hP 0 rfl rfl 6 (by decide) (hts (.fieldLink RX1 20 "PuzzleBook" "entryCount" "I") (by decide +kernel)) (fun _ h9 => h9) rfl dX1_addEntryBlock_31 ?_
  refine lv_iconst (v := nI 1) hx hb dX1_addEntryBlock_34 (by decide +kernel) ?_
  refine lv_iadd hx hb dX1_addEntryBlock_35 ?_
  refine lv_as (y := nI (ec + 1)) (nI_add _ _) ?_
  refine va_put (D := D) (ci := 2) (v := .int (nI (ec + 1))) (ty := .int) (C := RX1) (T := TX1) (N := 7) hx hb hts hinX1 tyX1 tyX1_ok nmX1 hown hK hP hD hS 0 rfl rfl 6 (by decide) (hts (.fieldLink RX1 20 "PuzzleBook" "entryCount" "I") (by decide +kernel)) (fun _ h9 => h9) rfl (by decide +kernel) rfl rfl (Nat.le_of_ble_eq_true rfl) dX1_addEntryBlock_36 (fun H locs hP hD hS => ?_)
  have hP : va_P D vwCl (bW b0 b1 b2 a0 a1 a2 a3 cB cI n L fd fc op tn (va_up eb ec bk) (ec + 1)) H := hP
  have hD : va_D A (bW b0 b1 b2 a0 a1 a2 a3 cB cI n L fd fc op tn (va_up eb ec bk) (ec + 1)) := hD
  exact rt_v hx hb hr hlocks hP hD hS dX1_addEntryBlock_39
set_option maxRecDepth 100000 in
set_option maxHeartbeats 4000000 in
/-- removeEntryBlock(k) -/
theorem c_X1_removeEntryBlock (l : Launch) (D : va_G) (b0 b1 b2 a0 a1 a2 a3 : Nat) (cB cI : ClassId) (n : Nat) (L : Lg) (fd : Nat → Nat) (fc : Nat) (op : Nat) (tn : Nat) (eb : Nat → Nat) (ec : Nat) (k : Nat) (sz : Nat) (h1 : k < ec) (h2 : ec ≤ 40) : Met l yX1_removeEntryBlock wsX1_removeEntryBlock ({ frames := 0, cells := 0, slots := 0, locals := 0 }) (wP [.ref b0, .int (nI k)] D (bW b0 b1 b2 a0 a1 a2 a3 cB cI n L fd fc op tn eb ec) (ty2 cB cI) sz) (wQv D (bW b0 b1 b2 a0 a1 a2 a3 cB cI n L fd fc op tn (shf eb k (ec - 1 - k)) (ec - 1)) (va_A (bW b0 b1 b2 a0 a1 a2 a3 cB cI n L fd fc op tn eb ec) sz)) 0 0 (va_A (bW b0 b1 b2 a0 a1 a2 a3 cB cI n L fd fc op tn eb ec) sz) := by
  refine met_w (by decide) rfl (Nat.le_of_ble_eq_true rfl) ?_
  intro p e s m below meth c hx hb hml hr hlocks hown hts hP hK A hD hA hS ls hl
  have hown : s.vm.findClass RX1 = some m.cls := hown
  have hinX1 : ∀ w ∈ u_ws RX1 TX1 7, w ∈ wsX1_removeEntryBlock := by decide +kernel
  have hl : lv_has ls 3 [(0, .ref b0), (1, .int (nI k))] := hl
  have loop : ∀ (fu j : Nat), k + j + 1 ≤ ec → ec - (k + j) < fu → ∀ (H : Heap) (locs : List Loc), va_P D vwCl (bW b0 b1 b2 a0 a1 a2 a3 cB cI n L fd fc op tn (shf eb k j) ec) H → va_D A (bW b0 b1 b2 a0 a1 a2 a3 cB cI n L fd fc op tn (shf eb k j) ec) → va_S A s.heap H locs → ∀ ls : Array Slot, lv_has ls 3 [(2, .int (nI (k + j))), (0, .ref b0), (1, .int (nI k))] → W p l e ({ frames := 0, cells := 0, slots := 0, locals := 0 }) s m [.ref b0, .int (nI k)].toArray below meth c H locs 0 0 (MQ below (wQv D (bW b0 b1 b2 a0 a1 a2 a3 cB cI n L fd fc op tn (shf eb k (ec - 1 - k)) (ec - 1)) A) [.ref b0, .int (nI k)].toArray s 0 0 A) (F0 m 15 ls []) := by
    intro fu
    induction fu with
    | zero => intro j hj hf; omega
    | succ fu ih =>
      intro j hj hf H locs hP hD hS ls hl
      refine lv_iload_n hx hb dX1_removeEntryBlock_15 rfl (lv_at hl 0 rfl) ?_
      refine lv_iconst (v := nI 1) hx hb dX1_removeEntryBlock_16 (by decide +kernel) ?_
      refine lv_iadd hx hb dX1_removeEntryBlock_17 ?_
      refine lv_as (y := nI ((k + j) + 1)) (nI_add _ _) ?_
      refine lv_aload_n hx hb dX1_removeEntryBlock_18 rfl (lv_at hl 1 rfl) ?_
      refine va_get (D := D) (ci := 2) (v := .int (nI ec)) (C := RX1) (T := TX1) (N := 7) hx hb hts hinX1 hown hK hP 0 rfl rfl 6 (by decide) (hts (.fieldLink RX1 20 "PuzzleBook" "entryCount" "I") (by decide +kernel)) (fun _ h9 => h9) rfl dX1_removeEntryBlock_19 ?_
      refine jb_ge (tgt := 56) hx hb (nI_toInt (n := (k + j) + 1) (by omega)) (nI_toInt (n := ec) (by omega)) dX1_removeEntryBlock_22 (by decide) (fun c1 => ?_) (fun c1 => ?_)
      · skip
        refine lv_aload_n hx hb dX1_removeEntryBlock_56 rfl (lv_at hl 1 rfl) ?_
        refine lv_dup hx hb dX1_removeEntryBlock_57 rfl ?_
        refine va_get (D := D) (ci := 2) (v := .int (nI ec)) (C := RX1) (T := TX1) (N := 7) hx hb hts hinX1 hown hK hP 0 rfl rfl 6 (by decide) (hts (.fieldLink RX1 20 "PuzzleBook" "entryCount" "I") (by decide +kernel)) (fun _ h9 => h9) rfl dX1_removeEntryBlock_58 ?_
        refine lv_iconst (v := nI 1) hx hb dX1_removeEntryBlock_61 (by decide +kernel) ?_
        refine lv_isub hx hb dX1_removeEntryBlock_62 ?_
        refine lv_as (y := nI (ec - 1)) (pk_sub (by omega)) ?_
        refine va_put (D := D) (ci := 2) (v := .int (nI (ec - 1))) (ty := .int) (C := RX1) (T := TX1) (N := 7) hx hb hts hinX1 tyX1 tyX1_ok nmX1 hown hK hP hD hS 0 rfl rfl 6 (by decide) (hts (.fieldLink RX1 20 "PuzzleBook" "entryCount" "I") (by decide +kernel)) (fun _ h9 => h9) rfl (by decide +kernel) rfl rfl (Nat.le_of_ble_eq_true rfl) dX1_removeEntryBlock_63 (fun H locs hP hD hS => ?_)
        have hP : va_P D vwCl (bW b0 b1 b2 a0 a1 a2 a3 cB cI n L fd fc op tn (shf eb k j) (ec - 1)) H := hP
        have hD : va_D A (bW b0 b1 b2 a0 a1 a2 a3 cB cI n L fd fc op tn (shf eb k j) (ec - 1)) := hD
        have e9 : ec - 1 - k = j := by omega
        rw [e9]
        exact rt_v hx hb hr hlocks hP hD hS dX1_removeEntryBlock_66
      · skip
        refine lv_iload_n hx hb dX1_removeEntryBlock_25 rfl (lv_at hl 0 rfl) ?_
        refine lv_iconst (v := nI 1) hx hb dX1_removeEntryBlock_26 (by decide +kernel) ?_
        refine lv_iadd hx hb dX1_removeEntryBlock_27 ?_
        refine lv_as (y := nI ((k + j) + 1)) (nI_add _ _) ?_
        refine lv_aload_n hx hb dX1_removeEntryBlock_28 rfl (lv_at hl 1 rfl) ?_
        refine va_get (D := D) (ci := 2) (v := .ref b2) (C := RX1) (T := TX1) (N := 7) hx hb hts hinX1 hown hK hP 0 rfl rfl 5 (by decide) (hts (.fieldLink RX1 17 "PuzzleBook" "entryBlocks" "[I") (by decide +kernel)) (fun _ h9 => h9) rfl dX1_removeEntryBlock_29 ?_
        refine al_i hx hb hK hP 2 1 rfl rfl dX1_removeEntryBlock_32 ?_
        refine jb_ge (tgt := 56) hx hb (nI_toInt (n := (k + j) + 1) (by omega)) (nI_toInt (n := 40) (by decide)) dX1_removeEntryBlock_33 (by decide) (fun c2 => absurd c2 (by omega)) (fun c2 => ?_)
        refine lv_aload_n hx hb dX1_removeEntryBlock_36 rfl (lv_at hl 1 rfl) ?_
        refine va_get (D := D) (ci := 2) (v := .ref b2) (C := RX1) (T := TX1) (N := 7) hx hb hts hinX1 hown hK hP 0 rfl rfl 5 (by decide) (hts (.fieldLink RX1 17 "PuzzleBook" "entryBlocks" "[I") (by decide +kernel)) (fun _ h9 => h9) rfl dX1_removeEntryBlock_37 ?_
        refine lv_iload_n hx hb dX1_removeEntryBlock_40 rfl (lv_at hl 0 rfl) ?_
        refine lv_aload_n hx hb dX1_removeEntryBlock_41 rfl (lv_at hl 1 rfl) ?_
        refine va_get (D := D) (ci := 2) (v := .ref b2) (C := RX1) (T := TX1) (N := 7) hx hb hts hinX1 hown hK hP 0 rfl rfl 5 (by decide) (hts (.fieldLink RX1 17 "PuzzleBook" "entryBlocks" "[I") (by decide +kernel)) (fun _ h9 => h9) rfl dX1_removeEntryBlock_42 ?_
        refine lv_iload_n hx hb dX1_removeEntryBlock_45 rfl (lv_at hl 0 rfl) ?_
        refine lv_iconst (v := nI 1) hx hb dX1_removeEntryBlock_46 (by decide +kernel) ?_
        refine lv_iadd hx hb dX1_removeEntryBlock_47 ?_
        refine lv_as (y := nI ((k + j) + 1)) (nI_add _ _) ?_
        refine ld_i (f := shf eb k j) (k := (k + j) + 1) hx hb hK hP 2 1 rfl rfl (by omega) (by decide) dX1_removeEntryBlock_48 ?_
        refine st_i (f := shf eb k j) (k := k + j) (x := (shf eb k j) ((k + j) + 1)) hx hb hK hP hD hS 2 1 rfl rfl (by omega) (by decide) dX1_removeEntryBlock_49 (fun H locs hP hD hS => ?_)
        have hP : va_P D vwCl (bW b0 b1 b2 a0 a1 a2 a3 cB cI n L fd fc op tn (va_up (shf eb k j) (k + j) ((shf eb k j) ((k + j) + 1))) ec) H := hP
        have hD : va_D A (bW b0 b1 b2 a0 a1 a2 a3 cB cI n L fd fc op tn (va_up (shf eb k j) (k + j) ((shf eb k j) ((k + j) + 1))) ec) := hD
        refine lv_iinc (v := nI (k + j + 1)) (lv' := [(2, .int (nI (k + j + 1))), (0, .ref b0), (1, .int (nI k))]) hx hb dX1_removeEntryBlock_50 hl (k := 0) rfl (nI_add _ 1) (by decide) rfl (fun ls hl => ?_)
        refine lv_goto (tgt := 15) hx hb dX1_removeEntryBlock_53 (by decide) ?_
        exact ih (j + 1) (by omega) (by omega) H locs hP hD hS ls (lv_sub hl [0, 1, 2] rfl)
  refine lv_iload_n hx hb dX1_removeEntryBlock_0 rfl (lv_at hl 1 rfl) ?_
  refine j0_lt (tgt := 12) hx hb (nI_toInt (n := k) (by omega)) dX1_removeEntryBlock_1 (by decide) (fun c3 => absurd c3 (by omega)) (fun c3 => ?_)
  refine lv_iload_n hx hb dX1_removeEntryBlock_4 rfl (lv_at hl 1 rfl) ?_
  refine lv_aload_n hx hb dX1_removeEntryBlock_5 rfl (lv_at hl 0 rfl) ?_
  refine va_get (D := D) (ci := 2) (v := .int (nI ec)) (C := RX1) (T := TX1) (N := 7) hx hb hts hinX1 hown hK hP 0 rfl rfl 6 (by decide) (hts (.fieldLink RX1 20 "PuzzleBook" "entryCount" "I") (by decide +kernel)) (fun _ h9 => h9) rfl dX1_removeEntryBlock_6 ?_
  refine jb_lt (tgt := 13) hx hb (nI_toInt (n := k) (by omega)) (nI_toInt (n := ec) (by omega)) dX1_removeEntryBlock_9 (by decide) (fun c4 => ?_) (fun c4 => absurd c4 (by omega))
  refine lv_iload_n hx hb dX1_removeEntryBlock_13 rfl (lv_at hl 1 rfl) ?_
  refine lv_istore_n (lv' := [(2, .int (nI k)), (0, .ref b0), (1, .int (nI k))]) hx hb dX1_removeEntryBlock_14 rfl hl (by decide) rfl (fun ls hl => ?_)
  exact loop (ec + 1) 0 (by omega) (by omega) s.heap [] hP hD hS ls (lv_sub hl [0, 1, 2] rfl)
set_option maxRecDepth 100000 in
set_option maxHeartbeats 4000000 in
/-- writeEntryBlock(block, name) -/
theorem c_X1_writeEntryBlock (l : Launch) (D : va_G) (b0 b1 b2 a0 a1 a2 a3 : Nat) (cB cI : ClassId) (n : Nat) (L : Lg) (fd : Nat → Nat) (fc : Nat) (op : Nat) (tn : Nat) (eb : Nat → Nat) (ec : Nat) (bk nm : Nat) (sz : Nat) (hn : n ≤ 64) (hg : ∀ j, L.1 j < 256) (h1 : bk < n) (h2 : nm < 65536) (hf : fc ≤ 48) (hd : ∀ i, fd i < 256) (hw : L.2.2.2 + 64 ≤ 129) : Met l yX1_writeEntryBlock wsX1_writeEntryBlock ({ frames := 4, cells := 0, slots := 0, locals := 91 }) (wP [.ref b0, .int (nI bk), .int (nI nm)] D (bW b0 b1 b2 a0 a1 a2 a3 cB cI n L fd fc op tn eb ec) (ty2 cB cI) sz) (wQv D (bW b0 b1 b2 a0 a1 a2 a3 cB cI n (wE L bk nm fc fd) fd fc op tn eb ec) (va_A (bW b0 b1 b2 a0 a1 a2 a3 cB cI n L fd fc op tn eb ec) sz)) 0 0 (va_A (bW b0 b1 b2 a0 a1 a2 a3 cB cI n L fd fc op tn eb ec) sz) := by
  refine met_w (by decide) rfl (Nat.le_of_ble_eq_true rfl) ?_
  intro p e s m below meth c hx hb hml hr hlocks hown hts hP hK A hD hA hS ls hl
  have hown : s.vm.findClass RX1 = some m.cls := hown
  have hinX1 : ∀ w ∈ u_ws RX1 TX1 7, w ∈ wsX1_writeEntryBlock := by decide +kernel
  have hinX0 : ∀ w ∈ u_ws RX0 TX0 5, w ∈ wsX1_writeEntryBlock := by decide +kernel
  have hl : lv_has ls 4 [(0, .ref b0), (1, .int (nI bk)), (2, .int (nI nm))] := hl
  have loop : ∀ (fu k : Nat), k ≤ 57 → 57 - k < fu → ∀ (H : Heap) (locs : List Loc), va_P D vwCl (bW b0 b1 b2 a0 a1 a2 a3 cB cI n (wN (w1 (w1 (w1 L (64 * bk + 0) (nm % 256)) (64 * bk + 1) (nm / 256)) (64 * bk + 2) fc) (64 * bk + 3) (bO fd fc) k) fd fc op tn eb ec) H → va_D A (bW b0 b1 b2 a0 a1 a2 a3 cB cI n (wN (w1 (w1 (w1 L (64 * bk + 0) (nm % 256)) (64 * bk + 1) (nm / 256)) (64 * bk + 2) fc) (64 * bk + 3) (bO fd fc) k) fd fc op tn eb ec) → va_S A s.heap H locs → ∀ ls : Array Slot, lv_has ls 4 [(3, .int (nI (3 + k))), (0, .ref b0), (1, .int (nI bk)), (2, .int (nI nm))] → W p l e ({ frames := 4, cells := 0, slots := 0, locals := 91 }) s m [.ref b0, .int (nI bk), .int (nI nm)].toArray below meth c H locs 0 0 (MQ below (wQv D (bW b0 b1 b2 a0 a1 a2 a3 cB cI n (wE L bk nm fc fd) fd fc op tn eb ec) A) [.ref b0, .int (nI bk), .int (nI nm)].toArray s 0 0 A) (F0 m 38 ls []) := by
    intro fu
    induction fu with
    | zero => intro k hk hf; omega
    | succ fu ih =>
      intro k hk hfu H locs hP hD hS ls hl
      refine lv_iload_n hx hb dX1_writeEntryBlock_38 rfl (lv_at hl 0 rfl) ?_
      refine lv_bipush (v := nI 60) hx hb dX1_writeEntryBlock_39 (by decide +kernel) ?_
      refine jb_ge (tgt := 66) hx hb (nI_toInt (n := 3 + k) (by omega)) (nI_toInt (n := 60) (by decide)) dX1_writeEntryBlock_41 (by decide) (fun c1 => ?_) (fun c1 => ?_)
      · skip
        have hk9 : k = 57 := by omega
        subst hk9
        refine lv_aload_n hx hb dX1_writeEntryBlock_66 rfl (lv_at hl 1 rfl) ?_
        refine va_get (D := D) (ci := 2) (v := .ref a0) (C := RX1) (T := TX1) (N := 7) hx hb hts hinX1 hown hK hP 0 rfl rfl 0 (by decide) (hts (.fieldLink RX1 28 "PuzzleBook" "store" "LPuzzleBook$Store;") (by decide +kernel)) (fun _ h9 => h9) rfl dX1_writeEntryBlock_67 ?_
        refine lv_iload_n hx hb dX1_writeEntryBlock_70 rfl (lv_at hl 2 rfl) ?_
        refine wr_V (wr := [(b0, .inr (2, [.ref a0, .ref b1, .int (nI fc), .int (nI op), .int (nI tn), .ref b2, .int (nI ec)])), (b1, .inl (cI, 48, .inl (aI fd))), (b2, .inl (cI, 40, .inl (aI eb)))]) (wo := (bW b0 b1 b2 a0 a1 a2 a3 cB cI n (wS (wN (w1 (w1 (w1 L (64 * bk + 0) (nm % 256)) (64 * bk + 1) (nm / 256)) (64 * bk + 2) fc) (64 * bk + 3) (bO fd fc) 57) (64 * bk)) fd fc op tn eb ec)) (As := [.int (nI bk)]) (rest := []) ⟨hx, hb, hml, hown, hts⟩ (c_X0_writeSum l D a0 a1 a2 a3 cB cI n (wN (w1 (w1 (w1 L (64 * bk + 0) (nm % 256)) (64 * bk + 1) (nm / 256)) (64 * bk + 2) fc) (64 * bk + 3) (bO fd fc) 57) bk H.size  hn (wN_lt (w1_lt (w1_lt (w1_lt hg (Nat.mod_lt _ (by decide))) (by omega)) (by omega)) (bO_lt (by decide) (fun k _ => hd k)) 57) h1 (by simp only [wN_c, w1_c]; omega)) (cwV 1 hts gX1_writeEntryBlock_X0_writeSum rfl rfl rfl (by decide +kernel) ⟨Nat.le_of_ble_eq_true rfl, Nat.le_of_ble_eq_true rfl⟩) hK hP hD hS hA [3, 4, 5, 6] [0, 1, 2] rfl rfl rfl rfl (by decide) [0, 1, 2, 3, 4, 5, 6] rfl rfl (ci := 1) rfl rfl (q0 := 3) rfl rfl hl.1 rfl (Nat.le_of_ble_eq_true rfl) dX1_writeEntryBlock_71 ⟨Nat.zero_le _, Nat.zero_le _⟩ (fun H locs hP hD hS => ?_)
        exact rt_v hx hb hr hlocks hP hD hS dX1_writeEntryBlock_74
      · skip
        refine lv_aload_n hx hb dX1_writeEntryBlock_44 rfl (lv_at hl 1 rfl) ?_
        refine va_get (D := D) (ci := 2) (v := .ref a0) (C := RX1) (T := TX1) (N := 7) hx hb hts hinX1 hown hK hP 0 rfl rfl 0 (by decide) (hts (.fieldLink RX1 28 "PuzzleBook" "store" "LPuzzleBook$Store;") (by decide +kernel)) (fun _ h9 => h9) rfl dX1_writeEntryBlock_45 ?_
        refine lv_iload_n hx hb dX1_writeEntryBlock_48 rfl (lv_at hl 2 rfl) ?_
        refine lv_iload_n hx hb dX1_writeEntryBlock_49 rfl (lv_at hl 0 rfl) ?_
        refine lv_aload_n hx hb dX1_writeEntryBlock_50 rfl (lv_at hl 1 rfl) ?_
        refine lv_iload_n hx hb dX1_writeEntryBlock_51 rfl (lv_at hl 0 rfl) ?_
        refine lv_iconst (v := nI 3) hx hb dX1_writeEntryBlock_52 (by decide +kernel) ?_
        refine lv_isub hx hb dX1_writeEntryBlock_53 ?_
        refine lv_as (y := nI ((3 + k) - 3)) (pk_sub (by omega)) ?_
        refine lv_as (y := nI k) (congrArg nI (by omega)) ?_
        refine rd_V (As := [.int (nI k)]) (rest := [.int (nI (3 + k)), .int (nI bk), .ref a0]) ⟨hx, hb, hml, hown, hts⟩ (c_X1_fedByte l D b0 b1 b2 a0 a1 a2 a3 cB cI n (wN (w1 (w1 (w1 L (64 * bk + 0) (nm % 256)) (64 * bk + 1) (nm / 256)) (64 * bk + 2) fc) (64 * bk + 3) (bO fd fc) k) fd fc op tn eb ec k hf (by omega)) (cwV 1 hts gX1_writeEntryBlock_X1_fedByte rfl rfl rfl (by decide +kernel) ⟨Nat.le_of_ble_eq_true rfl, Nat.le_of_ble_eq_true rfl⟩) hK hP [0, 1, 2, 3, 4, 5, 6] rfl (ci := 2) rfl rfl (q0 := 0) rfl rfl hl.1 rfl (Nat.le_of_ble_eq_true rfl) dX1_writeEntryBlock_54 ⟨Nat.zero_le _, Nat.zero_le _⟩ (fun r2 hr2 => ?_)
        subst hr2
        refine wr_V (wr := [(b0, .inr (2, [.ref a0, .ref b1, .int (nI fc), .int (nI op), .int (nI tn), .ref b2, .int (nI ec)])), (b1, .inl (cI, 48, .inl (aI fd))), (b2, .inl (cI, 40, .inl (aI eb)))]) (wo := (bW b0 b1 b2 a0 a1 a2 a3 cB cI n (w1 (wN (w1 (w1 (w1 L (64 * bk + 0) (nm % 256)) (64 * bk + 1) (nm / 256)) (64 * bk + 2) fc) (64 * bk + 3) (bO fd fc) k) (64 * bk + (3 + k)) (bO fd fc k)) fd fc op tn eb ec)) (As := [.int (nI bk), .int (nI (3 + k)), .int (nI (bO fd fc k))]) (rest := []) ⟨hx, hb, hml, hown, hts⟩ (c_X0_write l D a0 a1 a2 a3 cB cI n (wN (w1 (w1 (w1 L (64 * bk + 0) (nm % 256)) (64 * bk + 1) (nm / 256)) (64 * bk + 2) fc) (64 * bk + 3) (bO fd fc) k) bk (3 + k) (nI (bO fd fc k)) (bO fd fc k) H.size  hn h1 (by omega) (by simp only [wN_c, w1_c]; omega) rfl) (cwV 3 hts gX1_writeEntryBlock_X0_write rfl rfl rfl (by decide +kernel) ⟨Nat.le_of_ble_eq_true rfl, Nat.le_of_ble_eq_true rfl⟩) hK hP hD hS hA [3, 4, 5, 6] [0, 1, 2] rfl rfl rfl rfl (by decide) [0, 1, 2, 3, 4, 5, 6] rfl rfl (ci := 1) rfl rfl (q0 := 3) rfl rfl hl.1 rfl (Nat.le_of_ble_eq_true rfl) dX1_writeEntryBlock_57 ⟨Nat.zero_le _, Nat.zero_le _⟩ (fun H locs hP hD hS => ?_)
        have e9 : w1 (wN (w1 (w1 (w1 L (64 * bk + 0) (nm % 256)) (64 * bk + 1) (nm / 256)) (64 * bk + 2) fc) (64 * bk + 3) (bO fd fc) k) (64 * bk + (3 + k)) (bO fd fc k) = wN (w1 (w1 (w1 L (64 * bk + 0) (nm % 256)) (64 * bk + 1) (nm / 256)) (64 * bk + 2) fc) (64 * bk + 3) (bO fd fc) (k + 1) := by show w1 _ _ _ = w1 _ _ _; rw [show 64 * bk + (3 + k) = 64 * bk + 3 + k by omega]
        rw [e9] at hP hD
        refine lv_iinc (v := nI (3 + k + 1)) (lv' := [(3, .int (nI (3 + k + 1))), (0, .ref b0), (1, .int (nI bk)), (2, .int (nI nm))]) hx hb dX1_writeEntryBlock_60 hl (k := 0) rfl (nI_add _ 1) (by decide) rfl (fun ls hl => ?_)
        refine lv_goto (tgt := 38) hx hb dX1_writeEntryBlock_63 (by decide) ?_
        exact ih (k + 1) (by omega) (by omega) H locs hP hD hS ls (lv_sub hl [0, 1, 2, 3] rfl)
  refine lv_aload_n hx hb dX1_writeEntryBlock_0 rfl (lv_at hl 0 rfl) ?_
  refine va_get (D := D) (ci := 2) (v := .ref a0) (C := RX1) (T := TX1) (N := 7) hx hb hts hinX1 hown hK hP 0 rfl rfl 0 (by decide) (hts (.fieldLink RX1 28 "PuzzleBook" "store" "LPuzzleBook$Store;") (by decide +kernel)) (fun _ h9 => h9) rfl dX1_writeEntryBlock_1 ?_
  refine lv_iload_n hx hb dX1_writeEntryBlock_4 rfl (lv_at hl 1 rfl) ?_
  refine lv_iconst (v := nI 0) hx hb dX1_writeEntryBlock_5 (by decide +kernel) ?_
  refine lv_iload_n hx hb dX1_writeEntryBlock_6 rfl (lv_at hl 2 rfl) ?_
  refine wr_V (wr := [(b0, .inr (2, [.ref a0, .ref b1, .int (nI fc), .int (nI op), .int (nI tn), .ref b2, .int (nI ec)])), (b1, .inl (cI, 48, .inl (aI fd))), (b2, .inl (cI, 40, .inl (aI eb)))]) (wo := (bW b0 b1 b2 a0 a1 a2 a3 cB cI n (w1 L (64 * bk + 0) (nm % 256)) fd fc op tn eb ec)) (As := [.int (nI bk), .int (nI 0), .int (nI nm)]) (rest := []) ⟨hx, hb, hml, hown, hts⟩ (c_X0_write l D a0 a1 a2 a3 cB cI n L bk 0 (nI nm) (nm % 256) s.heap.size  hn h1 (by omega) (by omega) nI_b) (cwV 3 hts gX1_writeEntryBlock_X0_write rfl rfl rfl (by decide +kernel) ⟨Nat.le_of_ble_eq_true rfl, Nat.le_of_ble_eq_true rfl⟩) hK hP hD hS hA [3, 4, 5, 6] [0, 1, 2] rfl rfl rfl rfl (by decide) [0, 1, 2, 3, 4, 5, 6] rfl rfl (ci := 1) rfl rfl (q0 := 3) rfl rfl hl.1 rfl (Nat.le_of_ble_eq_true rfl) dX1_writeEntryBlock_7 ⟨Nat.zero_le _, Nat.zero_le _⟩ (fun H locs hP hD hS => ?_)
  refine lv_aload_n hx hb dX1_writeEntryBlock_10 rfl (lv_at hl 0 rfl) ?_
  refine va_get (D := D) (ci := 2) (v := .ref a0) (C := RX1) (T := TX1) (N := 7) hx hb hts hinX1 hown hK hP 0 rfl rfl 0 (by decide) (hts (.fieldLink RX1 28 "PuzzleBook" "store" "LPuzzleBook$Store;") (by decide +kernel)) (fun _ h9 => h9) rfl dX1_writeEntryBlock_11 ?_
  refine lv_iload_n hx hb dX1_writeEntryBlock_14 rfl (lv_at hl 1 rfl) ?_
  refine lv_iconst (v := nI 1) hx hb dX1_writeEntryBlock_15 (by decide +kernel) ?_
  refine lv_iload_n hx hb dX1_writeEntryBlock_16 rfl (lv_at hl 2 rfl) ?_
  refine lv_bipush (v := nI 8) hx hb dX1_writeEntryBlock_17 (by decide +kernel) ?_
  refine lv_ishr hx hb dX1_writeEntryBlock_19 ?_
  refine lv_as (y := nI (nm / 256)) (pk_shrN (by omega) _ 8 (by decide +kernel)) ?_
  refine wr_V (wr := [(b0, .inr (2, [.ref a0, .ref b1, .int (nI fc), .int (nI op), .int (nI tn), .ref b2, .int (nI ec)])), (b1, .inl (cI, 48, .inl (aI fd))), (b2, .inl (cI, 40, .inl (aI eb)))]) (wo := (bW b0 b1 b2 a0 a1 a2 a3 cB cI n (w1 (w1 L (64 * bk + 0) (nm % 256)) (64 * bk + 1) (nm / 256)) fd fc op tn eb ec)) (As := [.int (nI bk), .int (nI 1), .int (nI (nm / 256))]) (rest := []) ⟨hx, hb, hml, hown, hts⟩ (c_X0_write l D a0 a1 a2 a3 cB cI n (w1 L (64 * bk + 0) (nm % 256)) bk 1 (nI (nm / 256)) (nm / 256) H.size  hn h1 (by omega) (by simp only [w1_c]; omega) rfl) (cwV 3 hts gX1_writeEntryBlock_X0_write rfl rfl rfl (by decide +kernel) ⟨Nat.le_of_ble_eq_true rfl, Nat.le_of_ble_eq_true rfl⟩) hK hP hD hS hA [3, 4, 5, 6] [0, 1, 2] rfl rfl rfl rfl (by decide) [0, 1, 2, 3, 4, 5, 6] rfl rfl (ci := 1) rfl rfl (q0 := 3) rfl rfl hl.1 rfl (Nat.le_of_ble_eq_true rfl) dX1_writeEntryBlock_20 ⟨Nat.zero_le _, Nat.zero_le _⟩ (fun H locs hP hD hS => ?_)
  refine lv_aload_n hx hb dX1_writeEntryBlock_23 rfl (lv_at hl 0 rfl) ?_
  refine va_get (D := D) (ci := 2) (v := .ref a0) (C := RX1) (T := TX1) (N := 7) hx hb hts hinX1 hown hK hP 0 rfl rfl 0 (by decide) (hts (.fieldLink RX1 28 "PuzzleBook" "store" "LPuzzleBook$Store;") (by decide +kernel)) (fun _ h9 => h9) rfl dX1_writeEntryBlock_24 ?_
  refine lv_iload_n hx hb dX1_writeEntryBlock_27 rfl (lv_at hl 1 rfl) ?_
  refine lv_iconst (v := nI 2) hx hb dX1_writeEntryBlock_28 (by decide +kernel) ?_
  refine lv_aload_n hx hb dX1_writeEntryBlock_29 rfl (lv_at hl 0 rfl) ?_
  refine va_get (D := D) (ci := 2) (v := .int (nI fc)) (C := RX1) (T := TX1) (N := 7) hx hb hts hinX1 hown hK hP 0 rfl rfl 2 (by decide) (hts (.fieldLink RX1 13 "PuzzleBook" "fedCount" "I") (by decide +kernel)) (fun _ h9 => h9) rfl dX1_writeEntryBlock_30 ?_
  refine wr_V (wr := [(b0, .inr (2, [.ref a0, .ref b1, .int (nI fc), .int (nI op), .int (nI tn), .ref b2, .int (nI ec)])), (b1, .inl (cI, 48, .inl (aI fd))), (b2, .inl (cI, 40, .inl (aI eb)))]) (wo := (bW b0 b1 b2 a0 a1 a2 a3 cB cI n (w1 (w1 (w1 L (64 * bk + 0) (nm % 256)) (64 * bk + 1) (nm / 256)) (64 * bk + 2) fc) fd fc op tn eb ec)) (As := [.int (nI bk), .int (nI 2), .int (nI fc)]) (rest := []) ⟨hx, hb, hml, hown, hts⟩ (c_X0_write l D a0 a1 a2 a3 cB cI n (w1 (w1 L (64 * bk + 0) (nm % 256)) (64 * bk + 1) (nm / 256)) bk 2 (nI fc) fc H.size  hn h1 (by omega) (by simp only [w1_c]; omega) rfl) (cwV 3 hts gX1_writeEntryBlock_X0_write rfl rfl rfl (by decide +kernel) ⟨Nat.le_of_ble_eq_true rfl, Nat.le_of_ble_eq_true rfl⟩) hK hP hD hS hA [3, 4, 5, 6] [0, 1, 2] rfl rfl rfl rfl (by decide) [0, 1, 2, 3, 4, 5, 6] rfl rfl (ci := 1) rfl rfl (q0 := 3) rfl rfl hl.1 rfl (Nat.le_of_ble_eq_true rfl) dX1_writeEntryBlock_33 ⟨Nat.zero_le _, Nat.zero_le _⟩ (fun H locs hP hD hS => ?_)
  refine lv_iconst (v := nI 3) hx hb dX1_writeEntryBlock_36 (by decide +kernel) ?_
  refine lv_istore_n (lv' := [(3, .int (nI 3)), (0, .ref b0), (1, .int (nI bk)), (2, .int (nI nm))]) hx hb dX1_writeEntryBlock_37 rfl hl (by decide) rfl (fun ls hl => ?_)
  exact loop 58 0 (by omega) (by omega) H locs hP hD hS ls (lv_sub hl [0, 1, 2, 3] rfl)
set_option maxRecDepth 100000 in
set_option maxHeartbeats 4000000 in
/-- writeRootBlock(block) -/
theorem c_X1_writeRootBlock (l : Launch) (D : va_G) (b0 b1 b2 a0 a1 a2 a3 : Nat) (cB cI : ClassId) (n : Nat) (L : Lg) (fd : Nat → Nat) (fc : Nat) (op : Nat) (tn : Nat) (eb : Nat → Nat) (ec : Nat) (bk : Nat) (sz : Nat) (hn : n ≤ 64) (hg : ∀ j, L.1 j < 256) (he : ec ≤ 40) (hE : ∀ k, bO eb ec k < n) (h1 : bk < n) (hw : L.2.2.2 + 64 ≤ 129) : Met l yX1_writeRootBlock wsX1_writeRootBlock ({ frames := 4, cells := 0, slots := 0, locals := 91 }) (wP [.ref b0, .int (nI bk)] D (bW b0 b1 b2 a0 a1 a2 a3 cB cI n L fd fc op tn eb ec) (ty2 cB cI) sz) (wQv D (bW b0 b1 b2 a0 a1 a2 a3 cB cI n (wR L bk ec (bO eb ec)) fd fc op tn eb ec) (va_A (bW b0 b1 b2 a0 a1 a2 a3 cB cI n L fd fc op tn eb ec) sz)) 0 0 (va_A (bW b0 b1 b2 a0 a1 a2 a3 cB cI n L fd fc op tn eb ec) sz) := by
  refine met_w (by decide) rfl (Nat.le_of_ble_eq_true rfl) ?_
  intro p e s m below meth c hx hb hml hr hlocks hown hts hP hK A hD hA hS ls hl
  have hown : s.vm.findClass RX1 = some m.cls := hown
  have hinX1 : ∀ w ∈ u_ws RX1 TX1 7, w ∈ wsX1_writeRootBlock := by decide +kernel
  have hinX0 : ∀ w ∈ u_ws RX0 TX0 5, w ∈ wsX1_writeRootBlock := by decide +kernel
  have hl : lv_has ls 3 [(0, .ref b0), (1, .int (nI bk))] := hl
  have loop : ∀ (fu k : Nat), k ≤ 59 → 59 - k < fu → ∀ (H : Heap) (locs : List Loc), va_P D vwCl (bW b0 b1 b2 a0 a1 a2 a3 cB cI n (wN (w1 L (64 * bk + 0) ec) (64 * bk + 1) (bO eb ec) k) fd fc op tn eb ec) H → va_D A (bW b0 b1 b2 a0 a1 a2 a3 cB cI n (wN (w1 L (64 * bk + 0) ec) (64 * bk + 1) (bO eb ec) k) fd fc op tn eb ec) → va_S A s.heap H locs → ∀ ls : Array Slot, lv_has ls 3 [(2, .int (nI (1 + k))), (0, .ref b0), (1, .int (nI bk))] → W p l e ({ frames := 4, cells := 0, slots := 0, locals := 91 }) s m [.ref b0, .int (nI bk)].toArray below meth c H locs 0 0 (MQ below (wQv D (bW b0 b1 b2 a0 a1 a2 a3 cB cI n (wR L bk ec (bO eb ec)) fd fc op tn eb ec) A) [.ref b0, .int (nI bk)].toArray s 0 0 A) (F0 m 15 ls []) := by
    intro fu
    induction fu with
    | zero => intro k hk hf; omega
    | succ fu ih =>
      intro k hk hfu H locs hP hD hS ls hl
      refine lv_iload_n hx hb dX1_writeRootBlock_15 rfl (lv_at hl 0 rfl) ?_
      refine lv_bipush (v := nI 60) hx hb dX1_writeRootBlock_16 (by decide +kernel) ?_
      refine jb_ge (tgt := 43) hx hb (nI_toInt (n := 1 + k) (by omega)) (nI_toInt (n := 60) (by decide)) dX1_writeRootBlock_18 (by decide) (fun c1 => ?_) (fun c1 => ?_)
      · skip
        have hk9 : k = 59 := by omega
        subst hk9
        refine lv_aload_n hx hb dX1_writeRootBlock_43 rfl (lv_at hl 1 rfl) ?_
        refine va_get (D := D) (ci := 2) (v := .ref a0) (C := RX1) (T := TX1) (N := 7) hx hb hts hinX1 hown hK hP 0 rfl rfl 0 (by decide) (hts (.fieldLink RX1 28 "PuzzleBook" "store" "LPuzzleBook$Store;") (by decide +kernel)) (fun _ h9 => h9) rfl dX1_writeRootBlock_44 ?_
        refine lv_iload_n hx hb dX1_writeRootBlock_47 rfl (lv_at hl 2 rfl) ?_
        refine wr_V (wr := [(b0, .inr (2, [.ref a0, .ref b1, .int (nI fc), .int (nI op), .int (nI tn), .ref b2, .int (nI ec)])), (b1, .inl (cI, 48, .inl (aI fd))), (b2, .inl (cI, 40, .inl (aI eb)))]) (wo := (bW b0 b1 b2 a0 a1 a2 a3 cB cI n (wS (wN (w1 L (64 * bk + 0) ec) (64 * bk + 1) (bO eb ec) 59) (64 * bk)) fd fc op tn eb ec)) (As := [.int (nI bk)]) (rest := []) ⟨hx, hb, hml, hown, hts⟩ (c_X0_writeSum l D a0 a1 a2 a3 cB cI n (wN (w1 L (64 * bk + 0) ec) (64 * bk + 1) (bO eb ec) 59) bk H.size  hn (wN_lt (w1_lt hg (by omega)) (fun k => Nat.lt_of_lt_of_le (hE k) (by omega)) 59) h1 (by simp only [wN_c, w1_c]; omega)) (cwV 1 hts gX1_writeRootBlock_X0_writeSum rfl rfl rfl (by decide +kernel) ⟨Nat.le_of_ble_eq_true rfl, Nat.le_of_ble_eq_true rfl⟩) hK hP hD hS hA [3, 4, 5, 6] [0, 1, 2] rfl rfl rfl rfl (by decide) [0, 1, 2, 3, 4, 5, 6] rfl rfl (ci := 1) rfl rfl (q0 := 3) rfl rfl hl.1 rfl (Nat.le_of_ble_eq_true rfl) dX1_writeRootBlock_48 ⟨Nat.zero_le _, Nat.zero_le _⟩ (fun H locs hP hD hS => ?_)
        exact rt_v hx hb hr hlocks hP hD hS dX1_writeRootBlock_51
      · skip
        refine lv_aload_n hx hb dX1_writeRootBlock_21 rfl (lv_at hl 1 rfl) ?_
        refine va_get (D := D) (ci := 2) (v := .ref a0) (C := RX1) (T := TX1) (N := 7) hx hb hts hinX1 hown hK hP 0 rfl rfl 0 (by decide) (hts (.fieldLink RX1 28 "PuzzleBook" "store" "LPuzzleBook$Store;") (by decide +kernel)) (fun _ h9 => h9) rfl dX1_writeRootBlock_22 ?_
        refine lv_iload_n hx hb dX1_writeRootBlock_25 rfl (lv_at hl 2 rfl) ?_
        refine lv_iload_n hx hb dX1_writeRootBlock_26 rfl (lv_at hl 0 rfl) ?_
        refine lv_aload_n hx hb dX1_writeRootBlock_27 rfl (lv_at hl 1 rfl) ?_
        refine lv_iload_n hx hb dX1_writeRootBlock_28 rfl (lv_at hl 0 rfl) ?_
        refine lv_iconst (v := nI 1) hx hb dX1_writeRootBlock_29 (by decide +kernel) ?_
        refine lv_isub hx hb dX1_writeRootBlock_30 ?_
        refine lv_as (y := nI ((1 + k) - 1)) (pk_sub (by omega)) ?_
        refine lv_as (y := nI k) (congrArg nI (by omega)) ?_
        refine rd_V (As := [.int (nI k)]) (rest := [.int (nI (1 + k)), .int (nI bk), .ref a0]) ⟨hx, hb, hml, hown, hts⟩ (c_X1_blockOf l D b0 b1 b2 a0 a1 a2 a3 cB cI n (wN (w1 L (64 * bk + 0) ec) (64 * bk + 1) (bO eb ec) k) fd fc op tn eb ec k he (by omega)) (cwV 1 hts gX1_writeRootBlock_X1_blockOf rfl rfl rfl (by decide +kernel) ⟨Nat.le_of_ble_eq_true rfl, Nat.le_of_ble_eq_true rfl⟩) hK hP [0, 1, 2, 3, 4, 5, 6] rfl (ci := 2) rfl rfl (q0 := 0) rfl rfl hl.1 rfl (Nat.le_of_ble_eq_true rfl) dX1_writeRootBlock_31 ⟨Nat.zero_le _, Nat.zero_le _⟩ (fun r2 hr2 => ?_)
        subst hr2
        refine wr_V (wr := [(b0, .inr (2, [.ref a0, .ref b1, .int (nI fc), .int (nI op), .int (nI tn), .ref b2, .int (nI ec)])), (b1, .inl (cI, 48, .inl (aI fd))), (b2, .inl (cI, 40, .inl (aI eb)))]) (wo := (bW b0 b1 b2 a0 a1 a2 a3 cB cI n (w1 (wN (w1 L (64 * bk + 0) ec) (64 * bk + 1) (bO eb ec) k) (64 * bk + (1 + k)) (bO eb ec k)) fd fc op tn eb ec)) (As := [.int (nI bk), .int (nI (1 + k)), .int (nI (bO eb ec k))]) (rest := []) ⟨hx, hb, hml, hown, hts⟩ (c_X0_write l D a0 a1 a2 a3 cB cI n (wN (w1 L (64 * bk + 0) ec) (64 * bk + 1) (bO eb ec) k) bk (1 + k) (nI (bO eb ec k)) (bO eb ec k) H.size  hn h1 (by omega) (by simp only [wN_c, w1_c]; omega) rfl) (cwV 3 hts gX1_writeRootBlock_X0_write rfl rfl rfl (by decide +kernel) ⟨Nat.le_of_ble_eq_true rfl, Nat.le_of_ble_eq_true rfl⟩) hK hP hD hS hA [3, 4, 5, 6] [0, 1, 2] rfl rfl rfl rfl (by decide) [0, 1, 2, 3, 4, 5, 6] rfl rfl (ci := 1) rfl rfl (q0 := 3) rfl rfl hl.1 rfl (Nat.le_of_ble_eq_true rfl) dX1_writeRootBlock_34 ⟨Nat.zero_le _, Nat.zero_le _⟩ (fun H locs hP hD hS => ?_)
        have e9 : w1 (wN (w1 L (64 * bk + 0) ec) (64 * bk + 1) (bO eb ec) k) (64 * bk + (1 + k)) (bO eb ec k) = wN (w1 L (64 * bk + 0) ec) (64 * bk + 1) (bO eb ec) (k + 1) := by show w1 _ _ _ = w1 _ _ _; rw [show 64 * bk + (1 + k) = 64 * bk + 1 + k by omega]
        rw [e9] at hP hD
        refine lv_iinc (v := nI (1 + k + 1)) (lv' := [(2, .int (nI (1 + k + 1))), (0, .ref b0), (1, .int (nI bk))]) hx hb dX1_writeRootBlock_37 hl (k := 0) rfl (nI_add _ 1) (by decide) rfl (fun ls hl => ?_)
        refine lv_goto (tgt := 15) hx hb dX1_writeRootBlock_40 (by decide) ?_
        exact ih (k + 1) (by omega) (by omega) H locs hP hD hS ls (lv_sub hl [0, 1, 2] rfl)
  refine lv_aload_n hx hb dX1_writeRootBlock_0 rfl (lv_at hl 0 rfl) ?_
  refine va_get (D := D) (ci := 2) (v := .ref a0) (C := RX1) (T := TX1) (N := 7) hx hb hts hinX1 hown hK hP 0 rfl rfl 0 (by decide) (hts (.fieldLink RX1 28 "PuzzleBook" "store" "LPuzzleBook$Store;") (by decide +kernel)) (fun _ h9 => h9) rfl dX1_writeRootBlock_1 ?_
  refine lv_iload_n hx hb dX1_writeRootBlock_4 rfl (lv_at hl 1 rfl) ?_
  refine lv_iconst (v := nI 0) hx hb dX1_writeRootBlock_5 (by decide +kernel) ?_
  refine lv_aload_n hx hb dX1_writeRootBlock_6 rfl (lv_at hl 0 rfl) ?_
  refine va_get (D := D) (ci := 2) (v := .int (nI ec)) (C := RX1) (T := TX1) (N := 7) hx hb hts hinX1 hown hK hP 0 rfl rfl 6 (by decide) (hts (.fieldLink RX1 20 "PuzzleBook" "entryCount" "I") (by decide +kernel)) (fun _ h9 => h9) rfl dX1_writeRootBlock_7 ?_
  refine wr_V (wr := [(b0, .inr (2, [.ref a0, .ref b1, .int (nI fc), .int (nI op), .int (nI tn), .ref b2, .int (nI ec)])), (b1, .inl (cI, 48, .inl (aI fd))), (b2, .inl (cI, 40, .inl (aI eb)))]) (wo := (bW b0 b1 b2 a0 a1 a2 a3 cB cI n (w1 L (64 * bk + 0) ec) fd fc op tn eb ec)) (As := [.int (nI bk), .int (nI 0), .int (nI ec)]) (rest := []) ⟨hx, hb, hml, hown, hts⟩ (c_X0_write l D a0 a1 a2 a3 cB cI n L bk 0 (nI ec) ec s.heap.size  hn h1 (by omega) (by omega) rfl) (cwV 3 hts gX1_writeRootBlock_X0_write rfl rfl rfl (by decide +kernel) ⟨Nat.le_of_ble_eq_true rfl, Nat.le_of_ble_eq_true rfl⟩) hK hP hD hS hA [3, 4, 5, 6] [0, 1, 2] rfl rfl rfl rfl (by decide) [0, 1, 2, 3, 4, 5, 6] rfl rfl (ci := 1) rfl rfl (q0 := 3) rfl rfl hl.1 rfl (Nat.le_of_ble_eq_true rfl) dX1_writeRootBlock_10 ⟨Nat.zero_le _, Nat.zero_le _⟩ (fun H locs hP hD hS => ?_)
  refine lv_iconst (v := nI 1) hx hb dX1_writeRootBlock_13 (by decide +kernel) ?_
  refine lv_istore_n (lv' := [(2, .int (nI 1)), (0, .ref b0), (1, .int (nI bk))]) hx hb dX1_writeRootBlock_14 rfl hl (by decide) rfl (fun ls hl => ?_)
  exact loop 60 0 (by omega) (by omega) H locs hP hD hS ls (lv_sub hl [0, 1, 2] rfl)
set_option maxRecDepth 100000 in
set_option maxHeartbeats 4000000 in
/-- writeOtherRootAndTurn() -/
theorem c_X1_writeOtherRootAndTurn (l : Launch) (D : va_G) (b0 b1 b2 a0 a1 a2 a3 : Nat) (cB cI : ClassId) (n : Nat) (L : Lg) (fd : Nat → Nat) (fc : Nat) (op : Nat) (tn : Nat) (eb : Nat → Nat) (ec : Nat)  (sz : Nat) (hn0 : 4 ≤ n) (hn : n ≤ 64) (hg : ∀ j, L.1 j < 256) (he : ec ≤ 40) (hE : ∀ k, bO eb ec k < n) (ht : tn = 1 ∨ tn = 2) (hw : L.2.2.2 + 65 ≤ 129) : Met l yX1_writeOtherRootAndTurn wsX1_writeOtherRootAndTurn ({ frames := 5, cells := 0, slots := 0, locals := 113 }) (wP [.ref b0] D (bW b0 b1 b2 a0 a1 a2 a3 cB cI n L fd fc op tn eb ec) (ty2 cB cI) sz) (wQv D (bW b0 b1 b2 a0 a1 a2 a3 cB cI n (w1 (wR L (3 - tn) ec (bO eb ec)) (64 * 0 + 0) (3 - tn)) fd fc op (3 - tn) eb ec) (va_A (bW b0 b1 b2 a0 a1 a2 a3 cB cI n L fd fc op tn eb ec) sz)) 0 0 (va_A (bW b0 b1 b2 a0 a1 a2 a3 cB cI n L fd fc op tn eb ec) sz) := by
  refine met_w (by decide) rfl (Nat.le_of_ble_eq_true rfl) ?_
  intro p e s m below meth c hx hb hml hr hlocks hown hts hP hK A hD hA hS ls hl
  have hown : s.vm.findClass RX1 = some m.cls := hown
  have hinX1 : ∀ w ∈ u_ws RX1 TX1 7, w ∈ wsX1_writeOtherRootAndTurn := by decide +kernel
  have hinX0 : ∀ w ∈ u_ws RX0 TX0 5, w ∈ wsX1_writeOtherRootAndTurn := by decide +kernel
  have hl : lv_has ls 2 [(0, .ref b0)] := hl
  refine lv_aload_n hx hb dX1_writeOtherRootAndTurn_0 rfl (lv_at hl 0 rfl) ?_
  refine va_get (D := D) (ci := 2) (v := .int (nI tn)) (C := RX1) (T := TX1) (N := 7) hx hb hts hinX1 hown hK hP 0 rfl rfl 4 (by decide) (hts (.fieldLink RX1 32 "PuzzleBook" "turn" "I") (by decide +kernel)) (fun _ h9 => h9) rfl dX1_writeOtherRootAndTurn_1 ?_
  refine lv_iconst (v := nI 1) hx hb dX1_writeOtherRootAndTurn_4 (by decide +kernel) ?_
  refine jb_ne (tgt := 12) hx hb (nI_toInt (n := tn) (by omega)) (nI_toInt (n := 1) (by decide)) dX1_writeOtherRootAndTurn_5 (by decide) (fun c1 => ?_) (fun c1 => ?_)
  · skip
    have hk9 : tn = 2 := by omega
    subst hk9
    refine lv_iconst (v := nI 1) hx hb dX1_writeOtherRootAndTurn_12 (by decide +kernel) ?_
    refine lv_istore_n (lv' := [(1, .int (nI 1)), (0, .ref b0)]) hx hb dX1_writeOtherRootAndTurn_13 rfl hl (by decide) rfl (fun ls hl => ?_)
    refine lv_aload_n hx hb dX1_writeOtherRootAndTurn_14 rfl (lv_at hl 1 rfl) ?_
    refine lv_iload_n hx hb dX1_writeOtherRootAndTurn_15 rfl (lv_at hl 0 rfl) ?_
    refine wr_V (wr := []) (wo := (bW b0 b1 b2 a0 a1 a2 a3 cB cI n (wR L 1 ec (bO eb ec)) fd fc op 2 eb ec)) (As := [.int (nI 1)]) (rest := []) ⟨hx, hb, hml, hown, hts⟩ (c_X1_writeRootBlock l D b0 b1 b2 a0 a1 a2 a3 cB cI n L fd fc op 2 eb ec 1 s.heap.size  hn hg he hE (by omega) (by omega)) (cwV 1 hts gX1_writeOtherRootAndTurn_X1_writeRootBlock rfl rfl rfl (by decide +kernel) ⟨Nat.le_of_ble_eq_true rfl, Nat.le_of_ble_eq_true rfl⟩) hK hP hD hS hA [0, 1, 2, 3, 4, 5, 6] [] rfl rfl rfl rfl (by decide) [0, 1, 2, 3, 4, 5, 6] rfl rfl (ci := 2) rfl rfl (q0 := 0) rfl rfl hl.1 rfl (Nat.le_of_ble_eq_true rfl) dX1_writeOtherRootAndTurn_16 ⟨Nat.zero_le _, Nat.zero_le _⟩ (fun H locs hP hD hS => ?_)
    refine lv_aload_n hx hb dX1_writeOtherRootAndTurn_19 rfl (lv_at hl 1 rfl) ?_
    refine va_get (D := D) (ci := 2) (v := .ref a0) (C := RX1) (T := TX1) (N := 7) hx hb hts hinX1 hown hK hP 0 rfl rfl 0 (by decide) (hts (.fieldLink RX1 28 "PuzzleBook" "store" "LPuzzleBook$Store;") (by decide +kernel)) (fun _ h9 => h9) rfl dX1_writeOtherRootAndTurn_20 ?_
    refine lv_iconst (v := nI 0) hx hb dX1_writeOtherRootAndTurn_23 (by decide +kernel) ?_
    refine lv_iconst (v := nI 0) hx hb dX1_writeOtherRootAndTurn_24 (by decide +kernel) ?_
    refine lv_iload_n hx hb dX1_writeOtherRootAndTurn_25 rfl (lv_at hl 0 rfl) ?_
    refine wr_V (wr := [(b0, .inr (2, [.ref a0, .ref b1, .int (nI fc), .int (nI op), .int (nI 2), .ref b2, .int (nI ec)])), (b1, .inl (cI, 48, .inl (aI fd))), (b2, .inl (cI, 40, .inl (aI eb)))]) (wo := (bW b0 b1 b2 a0 a1 a2 a3 cB cI n (w1 (wR L 1 ec (bO eb ec)) (64 * 0 + 0) 1) fd fc op 2 eb ec)) (As := [.int (nI 0), .int (nI 0), .int (nI 1)]) (rest := []) ⟨hx, hb, hml, hown, hts⟩ (c_X0_write l D a0 a1 a2 a3 cB cI n (wR L 1 ec (bO eb ec)) 0 0 (nI 1) 1 H.size  hn (by omega) (by decide) (by rw [wR_c]; omega) rfl) (cwV 3 hts gX1_writeOtherRootAndTurn_X0_write rfl rfl rfl (by decide +kernel) ⟨Nat.le_of_ble_eq_true rfl, Nat.le_of_ble_eq_true rfl⟩) hK hP hD hS hA [3, 4, 5, 6] [0, 1, 2] rfl rfl rfl rfl (by decide) [0, 1, 2, 3, 4, 5, 6] rfl rfl (ci := 1) rfl rfl (q0 := 3) rfl rfl hl.1 rfl (Nat.le_of_ble_eq_true rfl) dX1_writeOtherRootAndTurn_26 ⟨Nat.zero_le _, Nat.zero_le _⟩ (fun H locs hP hD hS => ?_)
    refine lv_aload_n hx hb dX1_writeOtherRootAndTurn_29 rfl (lv_at hl 1 rfl) ?_
    refine lv_iload_n hx hb dX1_writeOtherRootAndTurn_30 rfl (lv_at hl 0 rfl) ?_
    refine va_put (D := D) (ci := 2) (v := .int (nI 1)) (ty := .int) (C := RX1) (T := TX1) (N := 7) hx hb hts hinX1 tyX1 tyX1_ok nmX1 hown hK hP hD hS 0 rfl rfl 4 (by decide) (hts (.fieldLink RX1 32 "PuzzleBook" "turn" "I") (by decide +kernel)) (fun _ h9 => h9) rfl (by decide +kernel) rfl rfl (Nat.le_of_ble_eq_true rfl) dX1_writeOtherRootAndTurn_31 (fun H locs hP hD hS => ?_)
    have hP : va_P D vwCl (bW b0 b1 b2 a0 a1 a2 a3 cB cI n (w1 (wR L 1 ec (bO eb ec)) (64 * 0 + 0) 1) fd fc op 1 eb ec) H := hP
    have hD : va_D A (bW b0 b1 b2 a0 a1 a2 a3 cB cI n (w1 (wR L 1 ec (bO eb ec)) (64 * 0 + 0) 1) fd fc op 1 eb ec) := hD
    exact rt_v hx hb hr hlocks hP hD hS dX1_writeOtherRootAndTurn_34
  · skip
    have hk9 : tn = 1 := by omega
    subst hk9
    refine lv_iconst (v := nI 2) hx hb dX1_writeOtherRootAndTurn_8 (by decide +kernel) ?_
    refine lv_goto (tgt := 13) hx hb dX1_writeOtherRootAndTurn_9 (by decide) ?_
    refine lv_istore_n (lv' := [(1, .int (nI 2)), (0, .ref b0)]) hx hb dX1_writeOtherRootAndTurn_13 rfl hl (by decide) rfl (fun ls hl => ?_)
    refine lv_aload_n hx hb dX1_writeOtherRootAndTurn_14 rfl (lv_at hl 1 rfl) ?_
    refine lv_iload_n hx hb dX1_writeOtherRootAndTurn_15 rfl (lv_at hl 0 rfl) ?_
    refine wr_V (wr := []) (wo := (bW b0 b1 b2 a0 a1 a2 a3 cB cI n (wR L 2 ec (bO eb ec)) fd fc op 1 eb ec)) (As := [.int (nI 2)]) (rest := []) ⟨hx, hb, hml, hown, hts⟩ (c_X1_writeRootBlock l D b0 b1 b2 a0 a1 a2 a3 cB cI n L fd fc op 1 eb ec 2 s.heap.size  hn hg he hE (by omega) (by omega)) (cwV 1 hts gX1_writeOtherRootAndTurn_X1_writeRootBlock rfl rfl rfl (by decide +kernel) ⟨Nat.le_of_ble_eq_true rfl, Nat.le_of_ble_eq_true rfl⟩) hK hP hD hS hA [0, 1, 2, 3, 4, 5, 6] [] rfl rfl rfl rfl (by decide) [0, 1, 2, 3, 4, 5, 6] rfl rfl (ci := 2) rfl rfl (q0 := 0) rfl rfl hl.1 rfl (Nat.le_of_ble_eq_true rfl) dX1_writeOtherRootAndTurn_16 ⟨Nat.zero_le _, Nat.zero_le _⟩ (fun H locs hP hD hS => ?_)
    refine lv_aload_n hx hb dX1_writeOtherRootAndTurn_19 rfl (lv_at hl 1 rfl) ?_
    refine va_get (D := D) (ci := 2) (v := .ref a0) (C := RX1) (T := TX1) (N := 7) hx hb hts hinX1 hown hK hP 0 rfl rfl 0 (by decide) (hts (.fieldLink RX1 28 "PuzzleBook" "store" "LPuzzleBook$Store;") (by decide +kernel)) (fun _ h9 => h9) rfl dX1_writeOtherRootAndTurn_20 ?_
    refine lv_iconst (v := nI 0) hx hb dX1_writeOtherRootAndTurn_23 (by decide +kernel) ?_
    refine lv_iconst (v := nI 0) hx hb dX1_writeOtherRootAndTurn_24 (by decide +kernel) ?_
    refine lv_iload_n hx hb dX1_writeOtherRootAndTurn_25 rfl (lv_at hl 0 rfl) ?_
    refine wr_V (wr := [(b0, .inr (2, [.ref a0, .ref b1, .int (nI fc), .int (nI op), .int (nI 1), .ref b2, .int (nI ec)])), (b1, .inl (cI, 48, .inl (aI fd))), (b2, .inl (cI, 40, .inl (aI eb)))]) (wo := (bW b0 b1 b2 a0 a1 a2 a3 cB cI n (w1 (wR L 2 ec (bO eb ec)) (64 * 0 + 0) 2) fd fc op 1 eb ec)) (As := [.int (nI 0), .int (nI 0), .int (nI 2)]) (rest := []) ⟨hx, hb, hml, hown, hts⟩ (c_X0_write l D a0 a1 a2 a3 cB cI n (wR L 2 ec (bO eb ec)) 0 0 (nI 2) 2 H.size  hn (by omega) (by decide) (by rw [wR_c]; omega) rfl) (cwV 3 hts gX1_writeOtherRootAndTurn_X0_write rfl rfl rfl (by decide +kernel) ⟨Nat.le_of_ble_eq_true rfl, Nat.le_of_ble_eq_true rfl⟩) hK hP hD hS hA [3, 4, 5, 6] [0, 1, 2] rfl rfl rfl rfl (by decide) [0, 1, 2, 3, 4, 5, 6] rfl rfl (ci := 1) rfl rfl (q0 := 3) rfl rfl hl.1 rfl (Nat.le_of_ble_eq_true rfl) dX1_writeOtherRootAndTurn_26 ⟨Nat.zero_le _, Nat.zero_le _⟩ (fun H locs hP hD hS => ?_)
    refine lv_aload_n hx hb dX1_writeOtherRootAndTurn_29 rfl (lv_at hl 1 rfl) ?_
    refine lv_iload_n hx hb dX1_writeOtherRootAndTurn_30 rfl (lv_at hl 0 rfl) ?_
    refine va_put (D := D) (ci := 2) (v := .int (nI 2)) (ty := .int) (C := RX1) (T := TX1) (N := 7) hx hb hts hinX1 tyX1 tyX1_ok nmX1 hown hK hP hD hS 0 rfl rfl 4 (by decide) (hts (.fieldLink RX1 32 "PuzzleBook" "turn" "I") (by decide +kernel)) (fun _ h9 => h9) rfl (by decide +kernel) rfl rfl (Nat.le_of_ble_eq_true rfl) dX1_writeOtherRootAndTurn_31 (fun H locs hP hD hS => ?_)
    have hP : va_P D vwCl (bW b0 b1 b2 a0 a1 a2 a3 cB cI n (w1 (wR L 2 ec (bO eb ec)) (64 * 0 + 0) 2) fd fc op 2 eb ec) H := hP
    have hD : va_D A (bW b0 b1 b2 a0 a1 a2 a3 cB cI n (w1 (wR L 2 ec (bO eb ec)) (64 * 0 + 0) 2) fd fc op 2 eb ec) := hD
    exact rt_v hx hb hr hlocks hP hD hS dX1_writeOtherRootAndTurn_34
end
section
/-! 09: PuzzleBook, its calls that write (laid by wip/whole/gen/gen_api.py) -/
def t12 (g : Nat → Nat) : Prop := g 0 = 1 ∨ g 0 = 2
noncomputable def rfE (g : Nat → Nat) (n : Nat) (eb : Nat → Nat) : Nat → Nat := @ite _ (t12 g) (Classical.propDecidable _) (cpE g (g 0) eb (rdN g (g 0) n)) eb
noncomputable def rfC (g : Nat → Nat) (n : Nat) : Nat := @ite _ (t12 g) (Classical.propDecidable _) (rdN g (g 0) n) 0
noncomputable def rfR (g : Nat → Nat) (n : Nat) (eb : Nat → Nat) : Int32 := @ite _ (t12 g) (Classical.propDecidable _) (@ite _ (rdO g (g 0) n) (Classical.propDecidable _) (lwI (lwN (wrE g) (bO (cpE g (g 0) eb (rdN g (g 0) n)) (rdN g (g 0) n)) (rdN g (g 0) n))) (nI (g 0))) (nI 0)
theorem rfE_t {g : Nat → Nat} {n : Nat} {eb : Nat → Nat} (h : t12 g) : rfE g n eb = cpE g (g 0) eb (rdN g (g 0) n) := if_pos h
theorem rfE_f {g : Nat → Nat} {n : Nat} {eb : Nat → Nat} (h : ¬ t12 g) : rfE g n eb = eb := if_neg h
theorem rfC_t {g : Nat → Nat} {n : Nat} (h : t12 g) : rfC g n = rdN g (g 0) n := if_pos h
theorem rfC_f {g : Nat → Nat} {n : Nat} (h : ¬ t12 g) : rfC g n = 0 := if_neg h
theorem rfR_f {g : Nat → Nat} {n : Nat} {eb : Nat → Nat} (h : ¬ t12 g) : rfR g n eb = nI 0 := if_neg h
theorem rfR_tf {g : Nat → Nat} {n : Nat} {eb : Nat → Nat} (h : t12 g) (h2 : ¬ rdO g (g 0) n) : rfR g n eb = nI (g 0) := (if_pos h).trans (if_neg h2)
theorem rfR_tt {g : Nat → Nat} {n : Nat} {eb : Nat → Nat} (h : t12 g) (h2 : rdO g (g 0) n) : rfR g n eb = lwI (lwN (wrE g) (bO (cpE g (g 0) eb (rdN g (g 0) n)) (rdN g (g 0) n)) (rdN g (g 0) n)) := (if_pos h).trans (if_pos h2)
/-- feed: what is fed, how many, the answer -/
def fedF (fd : Nat → Nat) (fc : Nat) (z : Int) : (Nat → Nat) × Nat × Int32 := if 0 ≤ z ∧ z ≤ 255 ∧ fc < 48 then (va_up fd fc z.toNat, fc + 1, nI 1) else (fd, fc, nI 0)
/-- put: the log, how many are fed, the turn, the entries, how many, the answer -/
noncomputable def putF (n : Nat) (L : Lg) (fd : Nat → Nat) (fc op tn : Nat) (eb : Nat → Nat) (ec : Nat) (nz : Int) : Lg × Nat × Nat × (Nat → Nat) × Nat × Int32 :=
  if op ≠ 0 ∧ 0 ≤ nz ∧ nz ≤ 65535 ∧ fc ≠ 0 then
    (if fN (fun k => hF L.1 (bO eb ec k) fd fc) ec < ec then (L, 0, tn, eb, ec, nI (fN (fun k => hF L.1 (bO eb ec k) fd fc) ec))
    else if lfB (bO eb ec) ec n < n ∧ ec < 40 then
      (w1 (wR (wE (w0 L) (lfB (bO eb ec) ec n) nz.toNat fc fd) (3 - tn) (ec + 1) (bO (va_up eb ec (lfB (bO eb ec) ec n)) (ec + 1))) (64 * 0 + 0) (3 - tn), 0, 3 - tn, va_up eb ec (lfB (bO eb ec) ec n), ec + 1, nI ec)
    else (L, fc, tn, eb, ec, -1))
  else (L, fc, tn, eb, ec, -1)
/-- drop: the log, the turn, the entries, how many, the answer -/
def dropF (L : Lg) (op tn : Nat) (eb : Nat → Nat) (ec : Nat) (kz : Int) : Lg × Nat × (Nat → Nat) × Nat × Int32 :=
  if op ≠ 0 ∧ 0 ≤ kz ∧ kz < (ec : Int) then
    (w1 (wR (w0 L) (3 - tn) (ec - 1) (bO (shf eb kz.toNat (ec - 1 - kz.toNat)) (ec - 1))) (64 * 0 + 0) (3 - tn), 3 - tn, shf eb kz.toNat (ec - 1 - kz.toNat), ec - 1, nI 1)
  else (L, tn, eb, ec, nI 0)
/-- crash: the log, open or not, the answer -/
def crF (L : Lg) (op : Nat) (kz : Int) : Lg × Nat × Int32 := if op ≠ 0 ∧ L.2.2.2 ≠ 0 ∧ 0 ≤ kz ∧ kz ≤ (L.2.2.2 : Int) then (wU L kz.toNat, 0, nI 1) else (L, op, nI 0)
/-- poke: the log, the answer -/
def pkF (n : Nat) (L : Lg) (bz iz mz : Int) : Lg × Int32 := if (0 ≤ bz ∧ bz < (n : Int) ∧ 0 ≤ iz ∧ iz < 64) ∧ 1 ≤ mz ∧ mz ≤ 255 then (wX L (64 * bz.toNat + iz.toNat) mz.toNat, nI 1) else (L, nI 0)
theorem bO_add {eb : Nat → Nat} {ec b n : Nat} (hE : ∀ k, bO eb ec k < n) (hb : b < n) (k : Nat) : bO (va_up eb ec b) (ec + 1) k < n := by
  refine bO_lt (by omega) (fun j hj => ?_) k
  unfold va_up; split
  · exact hb
  · have h := hE j; rw [bO_t (by omega)] at h; exact h
theorem shf_at {eb : Nat → Nat} {k : Nat} : ∀ (j i : Nat), shf eb k j i = if k ≤ i ∧ i < k + j then eb (i + 1) else eb i
  | 0, i => by rw [if_neg (by omega)]; rfl
  | j + 1, i => by
    show va_up _ _ _ i = _
    unfold va_up
    by_cases h : i = k + j
    · rw [if_pos h, shf_at j (k + j + 1), if_neg (by omega), if_pos (by omega), h]
    · rw [if_neg h, shf_at j i]
      by_cases h2 : k ≤ i ∧ i < k + j
      · rw [if_pos h2, if_pos (by omega)]
      · rw [if_neg h2, if_neg (by omega)]
theorem shf_n {eb : Nat → Nat} {ec k n : Nat} (h0 : 0 < n) (hE : ∀ k, bO eb ec k < n) (hk : k < ec) (i : Nat) : bO (shf eb k (ec - 1 - k)) (ec - 1) i < n := by
  refine bO_lt h0 (fun j hj => ?_) i
  rw [shf_at]
  have h := hE j
  have h2 := hE (j + 1)
  rw [bO_t (by omega)] at h h2
  split
  · exact h2
  · exact h
set_option maxRecDepth 100000 in
set_option maxHeartbeats 4000000 in
/-- readRootBlock(block), with no entries yet -/
theorem c_X1_readRootBlock (l : Launch) (D : va_G) (b0 b1 b2 a0 a1 a2 a3 : Nat) (cB cI : ClassId) (n : Nat) (L : Lg) (fd : Nat → Nat) (fc : Nat) (op : Nat) (tn : Nat) (eb : Nat → Nat) (ec : Nat) (bk : Nat) (sz : Nat) (hn0 : 4 ≤ n) (hn : n ≤ 64) (hg : ∀ j, L.1 j < 256) (h0 : ec = 0) (h1 : bk < n) : Met l yX1_readRootBlock wsX1_readRootBlock ({ frames := 4, cells := 0, slots := 0, locals := 91 }) (wP [.ref b0, .int (nI bk)] D (bW b0 b1 b2 a0 a1 a2 a3 cB cI n L fd fc op tn eb ec) (ty2 cB cI) sz) (wQi (nI (b01 (rdO L.1 bk n))) D (bW b0 b1 b2 a0 a1 a2 a3 cB cI n L fd fc op tn (cpE L.1 bk eb (rdN L.1 bk n)) (rdN L.1 bk n)) (va_A (bW b0 b1 b2 a0 a1 a2 a3 cB cI n L fd fc op tn eb ec) sz)) 0 0 (va_A (bW b0 b1 b2 a0 a1 a2 a3 cB cI n L fd fc op tn eb ec) sz) := by
  subst h0
  refine met_wi (by decide) rfl (Nat.le_of_ble_eq_true rfl) ?_
  intro p e s m below meth c hx hb hml hr hlocks hown hts hP hK A hD hA hS ls hl
  have hown : s.vm.findClass RX1 = some m.cls := hown
  have hinX1 : ∀ w ∈ u_ws RX1 TX1 7, w ∈ wsX1_readRootBlock := by decide +kernel
  have hinX0 : ∀ w ∈ u_ws RX0 TX0 5, w ∈ wsX1_readRootBlock := by decide +kernel
  have hl : lv_has ls 5 [(0, .ref b0), (1, .int (nI bk))] := hl
  have g0 := hg (64 * bk)
  refine lv_aload_n hx hb dX1_readRootBlock_0 rfl (lv_at hl 0 rfl) ?_
  refine va_get (D := D) (ci := 2) (v := .ref a0) (C := RX1) (T := TX1) (N := 7) hx hb hts hinX1 hown hK hP 0 rfl rfl 0 (by decide) (hts (.fieldLink RX1 28 "PuzzleBook" "store" "LPuzzleBook$Store;") (by decide +kernel)) (fun _ h9 => h9) rfl dX1_readRootBlock_1 ?_
  refine lv_iload_n hx hb dX1_readRootBlock_4 rfl (lv_at hl 1 rfl) ?_
  refine lv_iconst (v := nI 0) hx hb dX1_readRootBlock_5 (by decide +kernel) ?_
  refine rd_V (As := [.int (nI bk), .int (nI 0)]) (rest := []) ⟨hx, hb, hml, hown, hts⟩ (c_X0_read l D a0 a1 a2 a3 cB cI n L bk 0 hn hg h1 (by decide)) (cwV 2 hts gX1_readRootBlock_X0_read rfl rfl rfl (by decide +kernel) ⟨Nat.le_of_ble_eq_true rfl, Nat.le_of_ble_eq_true rfl⟩) hK hP [3, 4, 5, 6] rfl (ci := 1) rfl rfl (q0 := 3) rfl rfl hl.1 rfl (Nat.le_of_ble_eq_true rfl) dX1_readRootBlock_6 ⟨Nat.zero_le _, Nat.zero_le _⟩ (fun r1 hr1 => ?_)
  subst hr1
  refine lv_as (y := nI (L.1 (64 * bk))) rfl ?_
  refine lv_istore_n (lv' := [(2, .int (nI (L.1 (64 * bk)))), (0, .ref b0), (1, .int (nI bk))]) hx hb dX1_readRootBlock_9 rfl hl (by decide) rfl (fun ls hl => ?_)
  refine lv_aload_n hx hb dX1_readRootBlock_10 rfl (lv_at hl 1 rfl) ?_
  refine va_get (D := D) (ci := 2) (v := .ref a0) (C := RX1) (T := TX1) (N := 7) hx hb hts hinX1 hown hK hP 0 rfl rfl 0 (by decide) (hts (.fieldLink RX1 28 "PuzzleBook" "store" "LPuzzleBook$Store;") (by decide +kernel)) (fun _ h9 => h9) rfl dX1_readRootBlock_11 ?_
  refine lv_iload_n hx hb dX1_readRootBlock_14 rfl (lv_at hl 2 rfl) ?_
  refine rd_V (As := [.int (nI bk)]) (rest := []) ⟨hx, hb, hml, hown, hts⟩ (c_X0_hasRightSum l D a0 a1 a2 a3 cB cI n L bk hn hg h1) (cwV 1 hts gX1_readRootBlock_X0_hasRightSum rfl rfl rfl (by decide +kernel) ⟨Nat.le_of_ble_eq_true rfl, Nat.le_of_ble_eq_true rfl⟩) hK hP [3, 4, 5, 6] rfl (ci := 1) rfl rfl (q0 := 3) rfl rfl hl.1 rfl (Nat.le_of_ble_eq_true rfl) dX1_readRootBlock_15 ⟨Nat.zero_le _, Nat.zero_le _⟩ (fun r2 hr2 => ?_)
  subst hr2
  by_cases q3 : (okS L.1 (64 * bk))
  · skip
    refine lv_as (y := nI 1) (congrArg nI (b01_t q3)) ?_
    refine j0_eq (tgt := 27) hx hb (nI_toInt (n := 1) (by decide)) dX1_readRootBlock_18 (by decide) (fun c4 => absurd c4 (by omega)) (fun c4 => ?_)
    refine lv_iload_n hx hb dX1_readRootBlock_21 rfl (lv_at hl 0 rfl) ?_
    refine lv_bipush (v := nI 40) hx hb dX1_readRootBlock_22 (by decide +kernel) ?_
    refine jb_le (tgt := 29) hx hb (nI_toInt (n := L.1 (64 * bk)) (by omega)) (nI_toInt (n := 40) (by decide)) dX1_readRootBlock_24 (by decide) (fun c5 => ?_) (fun c5 => ?_)
    · skip
      have hgd : gdR L.1 bk := ⟨q3, by omega⟩
      have loop : ∀ (fu k : Nat), k ≤ L.1 (64 * bk) → L.1 (64 * bk) - k < fu → (∀ j, j < k → ¬ badK L.1 bk n j) → ∀ (H : Heap) (locs : List Loc), va_P D vwCl (bW b0 b1 b2 a0 a1 a2 a3 cB cI n L fd fc op tn (cpE L.1 bk eb k) k) H → va_D A (bW b0 b1 b2 a0 a1 a2 a3 cB cI n L fd fc op tn (cpE L.1 bk eb k) k) → va_S A s.heap H locs → ∀ ls : Array Slot, lv_has ls 5 [(3, .int (nI k)), (2, .int (nI (L.1 (64 * bk)))), (0, .ref b0), (1, .int (nI bk))] → W p l e ({ frames := 4, cells := 0, slots := 0, locals := 91 }) s m [.ref b0, .int (nI bk)].toArray below meth c H locs 0 0 (MQ below (wQi (nI (b01 (rdO L.1 bk n))) D (bW b0 b1 b2 a0 a1 a2 a3 cB cI n L fd fc op tn (cpE L.1 bk eb (rdN L.1 bk n)) (rdN L.1 bk n)) A) [.ref b0, .int (nI bk)].toArray s 0 0 A) (F0 m 31 ls []) := by
        intro fu
        induction fu with
        | zero => intro k hk hf; omega
        | succ fu ih =>
          intro k hk hfu hi H locs hP hD hS ls hl
          refine lv_iload_n hx hb dX1_readRootBlock_31 rfl (lv_at hl 0 rfl) ?_
          refine lv_iload_n hx hb dX1_readRootBlock_32 rfl (lv_at hl 1 rfl) ?_
          refine jb_ge (tgt := 90) hx hb (nI_toInt (n := k) (by omega)) (nI_toInt (n := L.1 (64 * bk)) (by omega)) dX1_readRootBlock_33 (by decide) (fun c6 => ?_) (fun c6 => ?_)
          · skip
            refine lv_iconst (v := nI 1) hx hb dX1_readRootBlock_90 (by decide +kernel) ?_
            have hk9 : k = L.1 (64 * bk) := by omega
            have e9 : rdN L.1 bk n = k := by rw [rdN_t hgd, hk9]; exact fN_no (fun j hj => hi j (by omega))
            rw [e9]
            exact rt_wz hx hb hr hlocks hP hD hS dX1_readRootBlock_91 (by decide +kernel) (by rw [b01_t ⟨hgd, fun j hj => hi j (by omega)⟩])
          · skip
            refine lv_aload_n hx hb dX1_readRootBlock_36 rfl (lv_at hl 2 rfl) ?_
            refine va_get (D := D) (ci := 2) (v := .ref a0) (C := RX1) (T := TX1) (N := 7) hx hb hts hinX1 hown hK hP 0 rfl rfl 0 (by decide) (hts (.fieldLink RX1 28 "PuzzleBook" "store" "LPuzzleBook$Store;") (by decide +kernel)) (fun _ h9 => h9) rfl dX1_readRootBlock_37 ?_
            refine lv_iload_n hx hb dX1_readRootBlock_40 rfl (lv_at hl 3 rfl) ?_
            refine lv_iconst (v := nI 1) hx hb dX1_readRootBlock_41 (by decide +kernel) ?_
            refine lv_iload_n hx hb dX1_readRootBlock_42 rfl (lv_at hl 0 rfl) ?_
            refine lv_iadd hx hb dX1_readRootBlock_43 ?_
            refine lv_as (y := nI (1 + k)) (nI_add _ _) ?_
            refine rd_V (As := [.int (nI bk), .int (nI (1 + k))]) (rest := []) ⟨hx, hb, hml, hown, hts⟩ (c_X0_read l D a0 a1 a2 a3 cB cI n L bk (1 + k) hn hg h1 (by omega)) (cwV 2 hts gX1_readRootBlock_X0_read rfl rfl rfl (by decide +kernel) ⟨Nat.le_of_ble_eq_true rfl, Nat.le_of_ble_eq_true rfl⟩) hK hP [3, 4, 5, 6] rfl (ci := 1) rfl rfl (q0 := 3) rfl rfl hl.1 rfl (Nat.le_of_ble_eq_true rfl) dX1_readRootBlock_44 ⟨Nat.zero_le _, Nat.zero_le _⟩ (fun r7 hr7 => ?_)
            subst hr7
            have g9 := hg (64 * bk + (1 + k))
            refine lv_istore (lv' := [(4, .int (nI (L.1 (64 * bk + (1 + k))))), (3, .int (nI k)), (2, .int (nI (L.1 (64 * bk)))), (0, .ref b0), (1, .int (nI bk))]) hx hb dX1_readRootBlock_47 hl (by decide) rfl (fun ls hl => ?_)
            refine lv_iload hx hb dX1_readRootBlock_49 (lv_at hl 0 rfl) ?_
            refine lv_iconst (v := nI 3) hx hb dX1_readRootBlock_51 (by decide +kernel) ?_
            refine jb_lt (tgt := 76) hx hb (nI_toInt (n := L.1 (64 * bk + (1 + k))) (by omega)) (nI_toInt (n := 3) (by decide)) dX1_readRootBlock_52 (by decide) (fun c8 => ?_) (fun c8 => ?_)
            · skip
              refine lv_iconst (v := nI 0) hx hb dX1_readRootBlock_76 (by decide +kernel) ?_
              have b9 : badK L.1 bk n k := Or.inl (by omega)
              have e9 : rdN L.1 bk n = k := by rw [rdN_t hgd]; exact fN_eq (by omega) b9 hi
              rw [e9]
              exact rt_wz hx hb hr hlocks hP hD hS dX1_readRootBlock_77 (by decide +kernel) (by rw [b01_f (fun h => h.2 k (by omega) b9)])
            · skip
              refine lv_iload hx hb dX1_readRootBlock_55 (lv_at hl 0 rfl) ?_
              refine lv_aload_n hx hb dX1_readRootBlock_57 rfl (lv_at hl 3 rfl) ?_
              refine va_get (D := D) (ci := 2) (v := .ref a0) (C := RX1) (T := TX1) (N := 7) hx hb hts hinX1 hown hK hP 0 rfl rfl 0 (by decide) (hts (.fieldLink RX1 28 "PuzzleBook" "store" "LPuzzleBook$Store;") (by decide +kernel)) (fun _ h9 => h9) rfl dX1_readRootBlock_58 ?_
              refine rd_V (As := []) (rest := [.int (nI (L.1 (64 * bk + (1 + k))))]) ⟨hx, hb, hml, hown, hts⟩ (c_X0_blockCount l D a0 a1 a2 a3 cB cI n L  ) (cwV 0 hts gX1_readRootBlock_X0_blockCount rfl rfl rfl (by decide +kernel) ⟨Nat.le_of_ble_eq_true rfl, Nat.le_of_ble_eq_true rfl⟩) hK hP [3, 4, 5, 6] rfl (ci := 1) rfl rfl (q0 := 3) rfl rfl hl.1 rfl (Nat.le_of_ble_eq_true rfl) dX1_readRootBlock_61 ⟨Nat.zero_le _, Nat.zero_le _⟩ (fun r9 hr9 => ?_)
              subst hr9
              refine jb_ge (tgt := 76) hx hb (nI_toInt (n := L.1 (64 * bk + (1 + k))) (by omega)) (nI_toInt (n := n) (by omega)) dX1_readRootBlock_64 (by decide) (fun c10 => ?_) (fun c10 => ?_)
              · skip
                refine lv_iconst (v := nI 0) hx hb dX1_readRootBlock_76 (by decide +kernel) ?_
                have b9 : badK L.1 bk n k := Or.inr (Or.inl (by omega))
                have e9 : rdN L.1 bk n = k := by rw [rdN_t hgd]; exact fN_eq (by omega) b9 hi
                rw [e9]
                exact rt_wz hx hb hr hlocks hP hD hS dX1_readRootBlock_77 (by decide +kernel) (by rw [b01_f (fun h => h.2 k (by omega) b9)])
              · skip
                refine lv_aload_n hx hb dX1_readRootBlock_67 rfl (lv_at hl 3 rfl) ?_
                refine lv_iload hx hb dX1_readRootBlock_68 (lv_at hl 0 rfl) ?_
                refine rd_V (As := [.int (nI (L.1 (64 * bk + (1 + k))))]) (rest := []) ⟨hx, hb, hml, hown, hts⟩ (c_X1_isTaken l D b0 b1 b2 a0 a1 a2 a3 cB cI n L fd fc op tn (cpE L.1 bk eb k) k (L.1 (64 * bk + (1 + k))) hn (by omega) (cpE_n (by omega) hi) (by omega)) (cwV 1 hts gX1_readRootBlock_X1_isTaken rfl rfl rfl (by decide +kernel) ⟨Nat.le_of_ble_eq_true rfl, Nat.le_of_ble_eq_true rfl⟩) hK hP [0, 1, 2, 3, 4, 5, 6] rfl (ci := 2) rfl rfl (q0 := 0) rfl rfl hl.1 rfl (Nat.le_of_ble_eq_true rfl) dX1_readRootBlock_70 ⟨Nat.zero_le _, Nat.zero_le _⟩ (fun r11 hr11 => ?_)
                subst hr11
                by_cases q12 : (tk (bO (cpE L.1 bk eb k) k) k (L.1 (64 * bk + (1 + k))))
                · skip
                  refine lv_as (y := nI 1) (congrArg nI (b01_t q12)) ?_
                  refine j0_eq (tgt := 78) hx hb (nI_toInt (n := 1) (by decide)) dX1_readRootBlock_73 (by decide) (fun c13 => absurd c13 (by omega)) (fun c13 => ?_)
                  refine lv_iconst (v := nI 0) hx hb dX1_readRootBlock_76 (by decide +kernel) ?_
                  have b9 : badK L.1 bk n k := Or.inr (Or.inr (tk_cpE.mp q12))
                  have e9 : rdN L.1 bk n = k := by rw [rdN_t hgd]; exact fN_eq (by omega) b9 hi
                  rw [e9]
                  exact rt_wz hx hb hr hlocks hP hD hS dX1_readRootBlock_77 (by decide +kernel) (by rw [b01_f (fun h => h.2 k (by omega) b9)])
                · skip
                  refine lv_as (y := nI 0) (congrArg nI (b01_f q12)) ?_
                  refine j0_eq (tgt := 78) hx hb (nI_toInt (n := 0) (by decide)) dX1_readRootBlock_73 (by decide) (fun c14 => ?_) (fun c14 => absurd c14 (by omega))
                  refine lv_aload_n hx hb dX1_readRootBlock_78 rfl (lv_at hl 3 rfl) ?_
                  refine lv_iload hx hb dX1_readRootBlock_79 (lv_at hl 0 rfl) ?_
                  refine wr_V (wr := []) (wo := (bW b0 b1 b2 a0 a1 a2 a3 cB cI n L fd fc op tn (va_up (cpE L.1 bk eb k) k (L.1 (64 * bk + (1 + k)))) (k + 1))) (As := [.int (nI (L.1 (64 * bk + (1 + k))))]) (rest := []) ⟨hx, hb, hml, hown, hts⟩ (c_X1_addEntryBlock l D b0 b1 b2 a0 a1 a2 a3 cB cI n L fd fc op tn (cpE L.1 bk eb k) k (L.1 (64 * bk + (1 + k))) H.size  (by omega)) (cwV 1 hts gX1_readRootBlock_X1_addEntryBlock rfl rfl rfl (by decide +kernel) ⟨Nat.le_of_ble_eq_true rfl, Nat.le_of_ble_eq_true rfl⟩) hK hP hD hS hA [0, 1, 2, 3, 4, 5, 6] [] rfl rfl rfl rfl (by decide) [0, 1, 2, 3, 4, 5, 6] rfl rfl (ci := 2) rfl rfl (q0 := 0) rfl rfl hl.1 rfl (Nat.le_of_ble_eq_true rfl) dX1_readRootBlock_81 ⟨Nat.zero_le _, Nat.zero_le _⟩ (fun H locs hP hD hS => ?_)
                  refine lv_iinc (v := nI (k + 1)) (lv' := [(3, .int (nI (k + 1))), (4, .int (nI (L.1 (64 * bk + (1 + k))))), (2, .int (nI (L.1 (64 * bk)))), (0, .ref b0), (1, .int (nI bk))]) hx hb dX1_readRootBlock_84 hl (k := 1) rfl (nI_add _ 1) (by decide) rfl (fun ls hl => ?_)
                  refine lv_goto (tgt := 31) hx hb dX1_readRootBlock_87 (by decide) ?_
                  exact ih (k + 1) (by omega) (by omega) (fun j q => (Nat.lt_or_eq_of_le (Nat.le_of_lt_succ q)).elim (hi j) (fun q => by rw [q]; exact fun z => z.elim (fun z => by omega) (fun z => z.elim (fun z => by omega) (fun z => q12 (tk_cpE.mpr z))))) H locs hP hD hS ls (lv_sub hl [0, 2, 3, 4] rfl)
      refine lv_iconst (v := nI 0) hx hb dX1_readRootBlock_29 (by decide +kernel) ?_
      refine lv_istore_n (lv' := [(3, .int (nI 0)), (2, .int (nI (L.1 (64 * bk)))), (0, .ref b0), (1, .int (nI bk))]) hx hb dX1_readRootBlock_30 rfl hl (by decide) rfl (fun ls hl => ?_)
      exact loop (L.1 (64 * bk) + 1) 0 (by omega) (by omega) (fun j q => absurd q (Nat.not_lt_zero j)) s.heap [] hP hD hS ls (lv_sub hl [0, 1, 2, 3] rfl)
    · skip
      refine lv_iconst (v := nI 0) hx hb dX1_readRootBlock_27 (by decide +kernel) ?_
      have e9 : rdN L.1 bk n = 0 := rdN_f (fun h => absurd h.2 (by omega))
      rw [e9]
      exact rt_wz hx hb hr hlocks hP hD hS dX1_readRootBlock_28 (by decide +kernel) (by rw [b01_f (fun h => (fun h => absurd h.2 (by omega)) h.1)])
  · skip
    refine lv_as (y := nI 0) (congrArg nI (b01_f q3)) ?_
    refine j0_eq (tgt := 27) hx hb (nI_toInt (n := 0) (by decide)) dX1_readRootBlock_18 (by decide) (fun c15 => ?_) (fun c15 => absurd c15 (by omega))
    refine lv_iconst (v := nI 0) hx hb dX1_readRootBlock_27 (by decide +kernel) ?_
    have e9 : rdN L.1 bk n = 0 := rdN_f (fun h => q3 h.1)
    rw [e9]
    exact rt_wz hx hb hr hlocks hP hD hS dX1_readRootBlock_28 (by decide +kernel) (by rw [b01_f (fun h => (fun h => q3 h.1) h.1)])
set_option maxRecDepth 100000 in
set_option maxHeartbeats 4000000 in
/-- readFromStore() -/
theorem c_X1_readFromStore (l : Launch) (D : va_G) (b0 b1 b2 a0 a1 a2 a3 : Nat) (cB cI : ClassId) (n : Nat) (L : Lg) (fd : Nat → Nat) (fc : Nat) (op : Nat) (tn : Nat) (eb : Nat → Nat) (ec : Nat)  (sz : Nat) (hn0 : 4 ≤ n) (hn : n ≤ 64) (hg : ∀ j, L.1 j < 256) : Met l yX1_readFromStore wsX1_readFromStore ({ frames := 5, cells := 0, slots := 0, locals := 115 }) (wP [.ref b0] D (bW b0 b1 b2 a0 a1 a2 a3 cB cI n L fd fc op tn eb ec) (ty2 cB cI) sz) (wQi ((rfR L.1 n eb)) D (bW b0 b1 b2 a0 a1 a2 a3 cB cI n L fd fc op (L.1 0) (rfE L.1 n eb) (rfC L.1 n)) (va_A (bW b0 b1 b2 a0 a1 a2 a3 cB cI n L fd fc op tn eb ec) sz)) 0 0 (va_A (bW b0 b1 b2 a0 a1 a2 a3 cB cI n L fd fc op tn eb ec) sz) := by
  refine met_wi (by decide) rfl (Nat.le_of_ble_eq_true rfl) ?_
  intro p e s m below meth c hx hb hml hr hlocks hown hts hP hK A hD hA hS ls hl
  have hown : s.vm.findClass RX1 = some m.cls := hown
  have hinX1 : ∀ w ∈ u_ws RX1 TX1 7, w ∈ wsX1_readFromStore := by decide +kernel
  have hinX0 : ∀ w ∈ u_ws RX0 TX0 5, w ∈ wsX1_readFromStore := by decide +kernel
  have hl : lv_has ls 1 [(0, .ref b0)] := hl
  have g0 := hg 0
  refine lv_aload_n hx hb dX1_readFromStore_0 rfl (lv_at hl 0 rfl) ?_
  refine lv_iconst (v := nI 0) hx hb dX1_readFromStore_1 (by decide +kernel) ?_
  refine va_put (D := D) (ci := 2) (v := .int (nI 0)) (ty := .int) (C := RX1) (T := TX1) (N := 7) hx hb hts hinX1 tyX1 tyX1_ok nmX1 hown hK hP hD hS 0 rfl rfl 6 (by decide) (hts (.fieldLink RX1 20 "PuzzleBook" "entryCount" "I") (by decide +kernel)) (fun _ h9 => h9) rfl (by decide +kernel) rfl rfl (Nat.le_of_ble_eq_true rfl) dX1_readFromStore_2 (fun H locs hP hD hS => ?_)
  have hP : va_P D vwCl (bW b0 b1 b2 a0 a1 a2 a3 cB cI n L fd fc op tn eb 0) H := hP
  have hD : va_D A (bW b0 b1 b2 a0 a1 a2 a3 cB cI n L fd fc op tn eb 0) := hD
  refine lv_aload_n hx hb dX1_readFromStore_5 rfl (lv_at hl 0 rfl) ?_
  refine lv_aload_n hx hb dX1_readFromStore_6 rfl (lv_at hl 0 rfl) ?_
  refine va_get (D := D) (ci := 2) (v := .ref a0) (C := RX1) (T := TX1) (N := 7) hx hb hts hinX1 hown hK hP 0 rfl rfl 0 (by decide) (hts (.fieldLink RX1 28 "PuzzleBook" "store" "LPuzzleBook$Store;") (by decide +kernel)) (fun _ h9 => h9) rfl dX1_readFromStore_7 ?_
  refine lv_iconst (v := nI 0) hx hb dX1_readFromStore_10 (by decide +kernel) ?_
  refine lv_iconst (v := nI 0) hx hb dX1_readFromStore_11 (by decide +kernel) ?_
  refine rd_V (As := [.int (nI 0), .int (nI 0)]) (rest := [.ref b0]) ⟨hx, hb, hml, hown, hts⟩ (c_X0_read l D a0 a1 a2 a3 cB cI n L 0 0 hn hg (by omega) (by decide)) (cwV 2 hts gX1_readFromStore_X0_read rfl rfl rfl (by decide +kernel) ⟨Nat.le_of_ble_eq_true rfl, Nat.le_of_ble_eq_true rfl⟩) hK hP [3, 4, 5, 6] rfl (ci := 1) rfl rfl (q0 := 3) rfl rfl hl.1 rfl (Nat.le_of_ble_eq_true rfl) dX1_readFromStore_12 ⟨Nat.zero_le _, Nat.zero_le _⟩ (fun r1 hr1 => ?_)
  subst hr1
  refine lv_as (y := nI (L.1 0)) rfl ?_
  refine va_put (D := D) (ci := 2) (v := .int (nI (L.1 0))) (ty := .int) (C := RX1) (T := TX1) (N := 7) hx hb hts hinX1 tyX1 tyX1_ok nmX1 hown hK hP hD hS 0 rfl rfl 4 (by decide) (hts (.fieldLink RX1 32 "PuzzleBook" "turn" "I") (by decide +kernel)) (fun _ h9 => h9) rfl (by decide +kernel) rfl rfl (Nat.le_of_ble_eq_true rfl) dX1_readFromStore_15 (fun H locs hP hD hS => ?_)
  have hP : va_P D vwCl (bW b0 b1 b2 a0 a1 a2 a3 cB cI n L fd fc op (L.1 0) eb 0) H := hP
  have hD : va_D A (bW b0 b1 b2 a0 a1 a2 a3 cB cI n L fd fc op (L.1 0) eb 0) := hD
  refine lv_aload_n hx hb dX1_readFromStore_18 rfl (lv_at hl 0 rfl) ?_
  refine va_get (D := D) (ci := 2) (v := .int (nI (L.1 0))) (C := RX1) (T := TX1) (N := 7) hx hb hts hinX1 hown hK hP 0 rfl rfl 4 (by decide) (hts (.fieldLink RX1 32 "PuzzleBook" "turn" "I") (by decide +kernel)) (fun _ h9 => h9) rfl dX1_readFromStore_19 ?_
  refine lv_iconst (v := nI 1) hx hb dX1_readFromStore_22 (by decide +kernel) ?_
  refine jb_eq (tgt := 36) hx hb (nI_toInt (n := L.1 0) (by omega)) (nI_toInt (n := 1) (by decide)) dX1_readFromStore_23 (by decide) (fun c2 => ?_) (fun c2 => ?_)
  · skip
    have t9 : t12 L.1 := by unfold t12; omega
    rw [rfE_t t9, rfC_t t9]
    refine lv_aload_n hx hb dX1_readFromStore_36 rfl (lv_at hl 0 rfl) ?_
    refine lv_aload_n hx hb dX1_readFromStore_37 rfl (lv_at hl 0 rfl) ?_
    refine va_get (D := D) (ci := 2) (v := .int (nI (L.1 0))) (C := RX1) (T := TX1) (N := 7) hx hb hts hinX1 hown hK hP 0 rfl rfl 4 (by decide) (hts (.fieldLink RX1 32 "PuzzleBook" "turn" "I") (by decide +kernel)) (fun _ h9 => h9) rfl dX1_readFromStore_38 ?_
    refine wr_Vi (wr := []) (wo := (bW b0 b1 b2 a0 a1 a2 a3 cB cI n L fd fc op (L.1 0) (cpE L.1 (L.1 0) eb (rdN L.1 (L.1 0) n)) (rdN L.1 (L.1 0) n))) (As := [.int (nI (L.1 0))]) (rest := []) ⟨hx, hb, hml, hown, hts⟩ (c_X1_readRootBlock l D b0 b1 b2 a0 a1 a2 a3 cB cI n L fd fc op (L.1 0) eb 0 (L.1 0) H.size  hn0 hn hg rfl (by omega)) (cwV 1 hts gX1_readFromStore_X1_readRootBlock rfl rfl rfl (by decide +kernel) ⟨Nat.le_of_ble_eq_true rfl, Nat.le_of_ble_eq_true rfl⟩) hK hP hD hS hA [0, 1, 2, 3, 4, 5, 6] [] rfl rfl rfl rfl (by decide) [0, 1, 2, 3, 4, 5, 6] rfl rfl (ci := 2) rfl rfl (q0 := 0) rfl rfl hl.1 rfl (Nat.le_of_ble_eq_true rfl) dX1_readFromStore_41 ⟨Nat.zero_le _, Nat.zero_le _⟩ (fun H locs hP hD hS => ?_)
    by_cases q3 : (rdO L.1 (L.1 0) n)
    · skip
      refine lv_as (y := nI 1) (congrArg nI (b01_t q3)) ?_
      refine j0_ne (tgt := 52) hx hb (nI_toInt (n := 1) (by decide)) dX1_readFromStore_44 (by decide) (fun c4 => ?_) (fun c4 => absurd c4 (by omega))
      refine lv_aload_n hx hb dX1_readFromStore_52 rfl (lv_at hl 0 rfl) ?_
      refine rd_V (As := []) (rest := []) ⟨hx, hb, hml, hown, hts⟩ (c_X1_leastWrongEntryBlock l D b0 b1 b2 a0 a1 a2 a3 cB cI n L fd fc op (L.1 0) (cpE L.1 (L.1 0) eb (rdN L.1 (L.1 0) n)) (rdN L.1 (L.1 0) n)  hn hg rdN_le (rdN_n (by omega))) (cwV 0 hts gX1_readFromStore_X1_leastWrongEntryBlock rfl rfl rfl (by decide +kernel) ⟨Nat.le_of_ble_eq_true rfl, Nat.le_of_ble_eq_true rfl⟩) hK hP [0, 1, 2, 3, 4, 5, 6] rfl (ci := 2) rfl rfl (q0 := 0) rfl rfl hl.1 rfl (Nat.le_of_ble_eq_true rfl) dX1_readFromStore_53 ⟨Nat.zero_le _, Nat.zero_le _⟩ (fun r5 hr5 => ?_)
      subst hr5
      exact rt_wi hx hb hr hlocks hP hD hS dX1_readFromStore_56 (rfR_tt t9 q3).symm
    · skip
      refine lv_as (y := nI 0) (congrArg nI (b01_f q3)) ?_
      refine j0_ne (tgt := 52) hx hb (nI_toInt (n := 0) (by decide)) dX1_readFromStore_44 (by decide) (fun c6 => absurd c6 (by omega)) (fun c6 => ?_)
      refine lv_aload_n hx hb dX1_readFromStore_47 rfl (lv_at hl 0 rfl) ?_
      refine va_get (D := D) (ci := 2) (v := .int (nI (L.1 0))) (C := RX1) (T := TX1) (N := 7) hx hb hts hinX1 hown hK hP 0 rfl rfl 4 (by decide) (hts (.fieldLink RX1 32 "PuzzleBook" "turn" "I") (by decide +kernel)) (fun _ h9 => h9) rfl dX1_readFromStore_48 ?_
      exact rt_wi hx hb hr hlocks hP hD hS dX1_readFromStore_51 (rfR_tf t9 q3).symm
  · skip
    refine lv_aload_n hx hb dX1_readFromStore_26 rfl (lv_at hl 0 rfl) ?_
    refine va_get (D := D) (ci := 2) (v := .int (nI (L.1 0))) (C := RX1) (T := TX1) (N := 7) hx hb hts hinX1 hown hK hP 0 rfl rfl 4 (by decide) (hts (.fieldLink RX1 32 "PuzzleBook" "turn" "I") (by decide +kernel)) (fun _ h9 => h9) rfl dX1_readFromStore_27 ?_
    refine lv_iconst (v := nI 2) hx hb dX1_readFromStore_30 (by decide +kernel) ?_
    refine jb_eq (tgt := 36) hx hb (nI_toInt (n := L.1 0) (by omega)) (nI_toInt (n := 2) (by decide)) dX1_readFromStore_31 (by decide) (fun c7 => ?_) (fun c7 => ?_)
    · skip
      have t9 : t12 L.1 := by unfold t12; omega
      rw [rfE_t t9, rfC_t t9]
      refine lv_aload_n hx hb dX1_readFromStore_36 rfl (lv_at hl 0 rfl) ?_
      refine lv_aload_n hx hb dX1_readFromStore_37 rfl (lv_at hl 0 rfl) ?_
      refine va_get (D := D) (ci := 2) (v := .int (nI (L.1 0))) (C := RX1) (T := TX1) (N := 7) hx hb hts hinX1 hown hK hP 0 rfl rfl 4 (by decide) (hts (.fieldLink RX1 32 "PuzzleBook" "turn" "I") (by decide +kernel)) (fun _ h9 => h9) rfl dX1_readFromStore_38 ?_
      refine wr_Vi (wr := []) (wo := (bW b0 b1 b2 a0 a1 a2 a3 cB cI n L fd fc op (L.1 0) (cpE L.1 (L.1 0) eb (rdN L.1 (L.1 0) n)) (rdN L.1 (L.1 0) n))) (As := [.int (nI (L.1 0))]) (rest := []) ⟨hx, hb, hml, hown, hts⟩ (c_X1_readRootBlock l D b0 b1 b2 a0 a1 a2 a3 cB cI n L fd fc op (L.1 0) eb 0 (L.1 0) H.size  hn0 hn hg rfl (by omega)) (cwV 1 hts gX1_readFromStore_X1_readRootBlock rfl rfl rfl (by decide +kernel) ⟨Nat.le_of_ble_eq_true rfl, Nat.le_of_ble_eq_true rfl⟩) hK hP hD hS hA [0, 1, 2, 3, 4, 5, 6] [] rfl rfl rfl rfl (by decide) [0, 1, 2, 3, 4, 5, 6] rfl rfl (ci := 2) rfl rfl (q0 := 0) rfl rfl hl.1 rfl (Nat.le_of_ble_eq_true rfl) dX1_readFromStore_41 ⟨Nat.zero_le _, Nat.zero_le _⟩ (fun H locs hP hD hS => ?_)
      by_cases q8 : (rdO L.1 (L.1 0) n)
      · skip
        refine lv_as (y := nI 1) (congrArg nI (b01_t q8)) ?_
        refine j0_ne (tgt := 52) hx hb (nI_toInt (n := 1) (by decide)) dX1_readFromStore_44 (by decide) (fun c9 => ?_) (fun c9 => absurd c9 (by omega))
        refine lv_aload_n hx hb dX1_readFromStore_52 rfl (lv_at hl 0 rfl) ?_
        refine rd_V (As := []) (rest := []) ⟨hx, hb, hml, hown, hts⟩ (c_X1_leastWrongEntryBlock l D b0 b1 b2 a0 a1 a2 a3 cB cI n L fd fc op (L.1 0) (cpE L.1 (L.1 0) eb (rdN L.1 (L.1 0) n)) (rdN L.1 (L.1 0) n)  hn hg rdN_le (rdN_n (by omega))) (cwV 0 hts gX1_readFromStore_X1_leastWrongEntryBlock rfl rfl rfl (by decide +kernel) ⟨Nat.le_of_ble_eq_true rfl, Nat.le_of_ble_eq_true rfl⟩) hK hP [0, 1, 2, 3, 4, 5, 6] rfl (ci := 2) rfl rfl (q0 := 0) rfl rfl hl.1 rfl (Nat.le_of_ble_eq_true rfl) dX1_readFromStore_53 ⟨Nat.zero_le _, Nat.zero_le _⟩ (fun r10 hr10 => ?_)
        subst hr10
        exact rt_wi hx hb hr hlocks hP hD hS dX1_readFromStore_56 (rfR_tt t9 q8).symm
      · skip
        refine lv_as (y := nI 0) (congrArg nI (b01_f q8)) ?_
        refine j0_ne (tgt := 52) hx hb (nI_toInt (n := 0) (by decide)) dX1_readFromStore_44 (by decide) (fun c11 => absurd c11 (by omega)) (fun c11 => ?_)
        refine lv_aload_n hx hb dX1_readFromStore_47 rfl (lv_at hl 0 rfl) ?_
        refine va_get (D := D) (ci := 2) (v := .int (nI (L.1 0))) (C := RX1) (T := TX1) (N := 7) hx hb hts hinX1 hown hK hP 0 rfl rfl 4 (by decide) (hts (.fieldLink RX1 32 "PuzzleBook" "turn" "I") (by decide +kernel)) (fun _ h9 => h9) rfl dX1_readFromStore_48 ?_
        exact rt_wi hx hb hr hlocks hP hD hS dX1_readFromStore_51 (rfR_tf t9 q8).symm
    · skip
      have t9 : ¬ t12 L.1 := by unfold t12; omega
      rw [rfE_f t9, rfC_f t9]
      refine lv_iconst (v := nI 0) hx hb dX1_readFromStore_34 (by decide +kernel) ?_
      exact rt_wi hx hb hr hlocks hP hD hS dX1_readFromStore_35 (rfR_f t9).symm
set_option maxRecDepth 100000 in
set_option maxHeartbeats 4000000 in
/-- feed(b) -/
theorem c_X1_feed (l : Launch) (D : va_G) (b0 b1 b2 a0 a1 a2 a3 : Nat) (cB cI : ClassId) (n : Nat) (L : Lg) (fd : Nat → Nat) (fc : Nat) (op : Nat) (tn : Nat) (eb : Nat → Nat) (ec : Nat) (bv : Int32) (bz : Int) (sz : Nat) (hf : fc ≤ 48) (h1 : bv.toInt = bz) : Met l yX1_feed wsX1_feed ({ frames := 0, cells := 0, slots := 0, locals := 0 }) (wP [.ref b0, .int bv] D (bW b0 b1 b2 a0 a1 a2 a3 cB cI n L fd fc op tn eb ec) (ty2 cB cI) sz) (wQi ((fedF fd fc bz).2.2) D (bW b0 b1 b2 a0 a1 a2 a3 cB cI n L ((fedF fd fc bz).1) ((fedF fd fc bz).2.1) op tn eb ec) (va_A (bW b0 b1 b2 a0 a1 a2 a3 cB cI n L fd fc op tn eb ec) sz)) 0 0 (va_A (bW b0 b1 b2 a0 a1 a2 a3 cB cI n L fd fc op tn eb ec) sz) := by
  refine met_wi (by decide) rfl (Nat.le_of_ble_eq_true rfl) ?_
  intro p e s m below meth c hx hb hml hr hlocks hown hts hP hK A hD hA hS ls hl
  have hown : s.vm.findClass RX1 = some m.cls := hown
  have hinX1 : ∀ w ∈ u_ws RX1 TX1 7, w ∈ wsX1_feed := by decide +kernel
  have hl : lv_has ls 2 [(0, .ref b0), (1, .int bv)] := hl
  refine lv_iload_n hx hb dX1_feed_0 rfl (lv_at hl 1 rfl) ?_
  refine j0_lt (tgt := 30) hx hb h1 dX1_feed_1 (by decide) (fun c1 => ?_) (fun c1 => ?_)
  · skip
    have e9 : fedF fd fc bz = (fd, fc, nI 0) := if_neg (by omega)
    rw [e9]
    refine lv_iconst (v := nI 0) hx hb dX1_feed_30 (by decide +kernel) ?_
    exact rt_wz hx hb hr hlocks hP hD hS dX1_feed_31 (by decide +kernel) rfl
  · skip
    refine lv_iload_n hx hb dX1_feed_4 rfl (lv_at hl 1 rfl) ?_
    refine lv_sipush (v := nI 255) hx hb dX1_feed_5 (by decide +kernel) ?_
    refine jb_gt (tgt := 30) hx hb h1 (nI_toInt (n := 255) (by decide)) dX1_feed_8 (by decide) (fun c2 => ?_) (fun c2 => ?_)
    · skip
      have e9 : fedF fd fc bz = (fd, fc, nI 0) := if_neg (by omega)
      rw [e9]
      refine lv_iconst (v := nI 0) hx hb dX1_feed_30 (by decide +kernel) ?_
      exact rt_wz hx hb hr hlocks hP hD hS dX1_feed_31 (by decide +kernel) rfl
    · skip
      refine lv_aload_n hx hb dX1_feed_11 rfl (lv_at hl 0 rfl) ?_
      refine va_get (D := D) (ci := 2) (v := .int (nI fc)) (C := RX1) (T := TX1) (N := 7) hx hb hts hinX1 hown hK hP 0 rfl rfl 2 (by decide) (hts (.fieldLink RX1 13 "PuzzleBook" "fedCount" "I") (by decide +kernel)) (fun _ h9 => h9) rfl dX1_feed_12 ?_
      refine j0_lt (tgt := 30) hx hb (nI_toInt (n := fc) (by omega)) dX1_feed_15 (by decide) (fun c3 => absurd c3 (by omega)) (fun c3 => ?_)
      refine lv_aload_n hx hb dX1_feed_18 rfl (lv_at hl 0 rfl) ?_
      refine va_get (D := D) (ci := 2) (v := .int (nI fc)) (C := RX1) (T := TX1) (N := 7) hx hb hts hinX1 hown hK hP 0 rfl rfl 2 (by decide) (hts (.fieldLink RX1 13 "PuzzleBook" "fedCount" "I") (by decide +kernel)) (fun _ h9 => h9) rfl dX1_feed_19 ?_
      refine lv_aload_n hx hb dX1_feed_22 rfl (lv_at hl 0 rfl) ?_
      refine va_get (D := D) (ci := 2) (v := .ref b1) (C := RX1) (T := TX1) (N := 7) hx hb hts hinX1 hown hK hP 0 rfl rfl 1 (by decide) (hts (.fieldLink RX1 9 "PuzzleBook" "fedBytes" "[I") (by decide +kernel)) (fun _ h9 => h9) rfl dX1_feed_23 ?_
      refine al_i hx hb hK hP 1 1 rfl rfl dX1_feed_26 ?_
      refine jb_lt (tgt := 32) hx hb (nI_toInt (n := fc) (by omega)) (nI_toInt (n := 48) (by decide)) dX1_feed_27 (by decide) (fun c4 => ?_) (fun c4 => ?_)
      · skip
        obtain ⟨j, hj⟩ : ∃ j : Nat, bz = (j : Int) := ⟨bz.toNat, by omega⟩
        have hj2 : bv = nI j := Int32.toInt_inj.mp (by rw [h1, hj, nI_toInt (by omega)])
        have hj3 : bz.toNat = j := by omega
        have e9 : fedF fd fc bz = (va_up fd fc j, fc + 1, nI 1) := by rw [← hj3]; exact if_pos (by omega)
        rw [e9]
        refine lv_aload_n hx hb dX1_feed_32 rfl (lv_at hl 0 rfl) ?_
        refine va_get (D := D) (ci := 2) (v := .ref b1) (C := RX1) (T := TX1) (N := 7) hx hb hts hinX1 hown hK hP 0 rfl rfl 1 (by decide) (hts (.fieldLink RX1 9 "PuzzleBook" "fedBytes" "[I") (by decide +kernel)) (fun _ h9 => h9) rfl dX1_feed_33 ?_
        refine lv_aload_n hx hb dX1_feed_36 rfl (lv_at hl 0 rfl) ?_
        refine va_get (D := D) (ci := 2) (v := .int (nI fc)) (C := RX1) (T := TX1) (N := 7) hx hb hts hinX1 hown hK hP 0 rfl rfl 2 (by decide) (hts (.fieldLink RX1 13 "PuzzleBook" "fedCount" "I") (by decide +kernel)) (fun _ h9 => h9) rfl dX1_feed_37 ?_
        refine lv_iload_n hx hb dX1_feed_40 rfl (lv_at hl 1 rfl) ?_
        refine lv_as (y := nI j) hj2 ?_
        refine st_i (f := fd) (k := fc) (x := j) hx hb hK hP hD hS 1 1 rfl rfl (by omega) (by decide) dX1_feed_41 (fun H locs hP hD hS => ?_)
        have hP : va_P D vwCl (bW b0 b1 b2 a0 a1 a2 a3 cB cI n L (va_up fd fc j) fc op tn eb ec) H := hP
        have hD : va_D A (bW b0 b1 b2 a0 a1 a2 a3 cB cI n L (va_up fd fc j) fc op tn eb ec) := hD
        refine lv_aload_n hx hb dX1_feed_42 rfl (lv_at hl 0 rfl) ?_
        refine lv_dup hx hb dX1_feed_43 rfl ?_
        refine va_get (D := D) (ci := 2) (v := .int (nI fc)) (C := RX1) (T := TX1) (N := 7) hx hb hts hinX1 hown hK hP 0 rfl rfl 2 (by decide) (hts (.fieldLink RX1 13 "PuzzleBook" "fedCount" "I") (by decide +kernel)) (fun _ h9 => h9) rfl dX1_feed_44 ?_
        refine lv_iconst (v := nI 1) hx hb dX1_feed_47 (by decide +kernel) ?_
        refine lv_iadd hx hb dX1_feed_48 ?_
        refine lv_as (y := nI (fc + 1)) (nI_add _ _) ?_
        refine va_put (D := D) (ci := 2) (v := .int (nI (fc + 1))) (ty := .int) (C := RX1) (T := TX1) (N := 7) hx hb hts hinX1 tyX1 tyX1_ok nmX1 hown hK hP hD hS 0 rfl rfl 2 (by decide) (hts (.fieldLink RX1 13 "PuzzleBook" "fedCount" "I") (by decide +kernel)) (fun _ h9 => h9) rfl (by decide +kernel) rfl rfl (Nat.le_of_ble_eq_true rfl) dX1_feed_49 (fun H locs hP hD hS => ?_)
        have hP : va_P D vwCl (bW b0 b1 b2 a0 a1 a2 a3 cB cI n L (va_up fd fc j) (fc + 1) op tn eb ec) H := hP
        have hD : va_D A (bW b0 b1 b2 a0 a1 a2 a3 cB cI n L (va_up fd fc j) (fc + 1) op tn eb ec) := hD
        refine lv_iconst (v := nI 1) hx hb dX1_feed_52 (by decide +kernel) ?_
        exact rt_wz hx hb hr hlocks hP hD hS dX1_feed_53 (by decide +kernel) rfl
      · skip
        have e9 : fedF fd fc bz = (fd, fc, nI 0) := if_neg (by omega)
        rw [e9]
        refine lv_iconst (v := nI 0) hx hb dX1_feed_30 (by decide +kernel) ?_
        exact rt_wz hx hb hr hlocks hP hD hS dX1_feed_31 (by decide +kernel) rfl
set_option maxRecDepth 100000 in
set_option maxHeartbeats 4000000 in
/-- put(name) -/
theorem c_X1_put (l : Launch) (D : va_G) (b0 b1 b2 a0 a1 a2 a3 : Nat) (cB cI : ClassId) (n : Nat) (L : Lg) (fd : Nat → Nat) (fc : Nat) (op : Nat) (tn : Nat) (eb : Nat → Nat) (ec : Nat) (nv : Int32) (nz : Int) (sz : Nat) (hn0 : 4 ≤ n) (hn : n ≤ 64) (hg : ∀ j, L.1 j < 256) (he : ec ≤ 40) (hE : ∀ k, bO eb ec k < n) (hf : fc ≤ 48) (hd : ∀ i, fd i < 256) (ho : op ≤ 1) (ht : op ≠ 0 → tn = 1 ∨ tn = 2) (h1 : nv.toInt = nz) : Met l yX1_put wsX1_put ({ frames := 6, cells := 0, slots := 0, locals := 134 }) (wP [.ref b0, .int nv] D (bW b0 b1 b2 a0 a1 a2 a3 cB cI n L fd fc op tn eb ec) (ty2 cB cI) sz) (wQi ((putF n L fd fc op tn eb ec nz).2.2.2.2.2) D (bW b0 b1 b2 a0 a1 a2 a3 cB cI n ((putF n L fd fc op tn eb ec nz).1) fd ((putF n L fd fc op tn eb ec nz).2.1) op ((putF n L fd fc op tn eb ec nz).2.2.1) ((putF n L fd fc op tn eb ec nz).2.2.2.1) ((putF n L fd fc op tn eb ec nz).2.2.2.2.1)) (va_A (bW b0 b1 b2 a0 a1 a2 a3 cB cI n L fd fc op tn eb ec) sz)) 0 0 (va_A (bW b0 b1 b2 a0 a1 a2 a3 cB cI n L fd fc op tn eb ec) sz) := by
  refine met_wi (by decide) rfl (Nat.le_of_ble_eq_true rfl) ?_
  intro p e s m below meth c hx hb hml hr hlocks hown hts hP hK A hD hA hS ls hl
  have hown : s.vm.findClass RX1 = some m.cls := hown
  have hinX1 : ∀ w ∈ u_ws RX1 TX1 7, w ∈ wsX1_put := by decide +kernel
  have hinX0 : ∀ w ∈ u_ws RX0 TX0 5, w ∈ wsX1_put := by decide +kernel
  have hl : lv_has ls 4 [(0, .ref b0), (1, .int nv)] := hl
  refine lv_aload_n hx hb dX1_put_0 rfl (lv_at hl 0 rfl) ?_
  refine va_get (D := D) (ci := 2) (v := .int (nI op)) (C := RX1) (T := TX1) (N := 7) hx hb hts hinX1 hown hK hP 0 rfl rfl 3 (by decide) (hts (.fieldLink RX1 45 "PuzzleBook" "isOpen" "Z") (by decide +kernel)) (fun _ h9 => h9) rfl dX1_put_1 ?_
  refine j0_eq (tgt := 24) hx hb (nI_toInt (n := op) (by omega)) dX1_put_4 (by decide) (fun c1 => ?_) (fun c1 => ?_)
  · skip
    have e9 : putF n L fd fc op tn eb ec nz = (L, fc, tn, eb, ec, -1) := if_neg (by omega)
    rw [e9]
    refine lv_iconst (v := -1) hx hb dX1_put_24 (by decide +kernel) ?_
    exact rt_wi hx hb hr hlocks hP hD hS dX1_put_25 rfl
  · skip
    refine lv_iload_n hx hb dX1_put_7 rfl (lv_at hl 1 rfl) ?_
    refine j0_lt (tgt := 24) hx hb h1 dX1_put_8 (by decide) (fun c2 => ?_) (fun c2 => ?_)
    · skip
      have e9 : putF n L fd fc op tn eb ec nz = (L, fc, tn, eb, ec, -1) := if_neg (by omega)
      rw [e9]
      refine lv_iconst (v := -1) hx hb dX1_put_24 (by decide +kernel) ?_
      exact rt_wi hx hb hr hlocks hP hD hS dX1_put_25 rfl
    · skip
      refine lv_iload_n hx hb dX1_put_11 rfl (lv_at hl 1 rfl) ?_
      refine lv_ldc (v := (65535)) hx hb hown (hts (.constant RX1 49 (65535)) (by decide +kernel)) dX1_put_12 ?_
      refine lv_as (y := nI 65535) (by decide +kernel) ?_
      refine jb_gt (tgt := 24) hx hb h1 (nI_toInt (n := 65535) (by decide)) dX1_put_14 (by decide) (fun c3 => ?_) (fun c3 => ?_)
      · skip
        have e9 : putF n L fd fc op tn eb ec nz = (L, fc, tn, eb, ec, -1) := if_neg (by omega)
        rw [e9]
        refine lv_iconst (v := -1) hx hb dX1_put_24 (by decide +kernel) ?_
        exact rt_wi hx hb hr hlocks hP hD hS dX1_put_25 rfl
      · skip
        refine lv_aload_n hx hb dX1_put_17 rfl (lv_at hl 0 rfl) ?_
        refine va_get (D := D) (ci := 2) (v := .int (nI fc)) (C := RX1) (T := TX1) (N := 7) hx hb hts hinX1 hown hK hP 0 rfl rfl 2 (by decide) (hts (.fieldLink RX1 13 "PuzzleBook" "fedCount" "I") (by decide +kernel)) (fun _ h9 => h9) rfl dX1_put_18 ?_
        refine j0_ne (tgt := 26) hx hb (nI_toInt (n := fc) (by omega)) dX1_put_21 (by decide) (fun c4 => ?_) (fun c4 => ?_)
        · skip
          have hA1 : op ≠ 0 ∧ 0 ≤ nz ∧ nz ≤ 65535 ∧ fc ≠ 0 := by omega
          obtain ⟨nm, hj⟩ : ∃ j : Nat, nz = (j : Int) := ⟨nz.toNat, by omega⟩
          have hj2 : nv = nI nm := Int32.toInt_inj.mp (by rw [h1, hj, nI_toInt (by omega)])
          have hj3 : nz.toNat = nm := by omega
          refine lv_aload_n hx hb dX1_put_26 rfl (lv_at hl 0 rfl) ?_
          refine rd_V (As := []) (rest := []) ⟨hx, hb, hml, hown, hts⟩ (c_X1_firstEntryWithFedRow l D b0 b1 b2 a0 a1 a2 a3 cB cI n L fd fc op tn eb ec  hn hg he hE hf hd) (cwV 0 hts gX1_put_X1_firstEntryWithFedRow rfl rfl rfl (by decide +kernel) ⟨Nat.le_of_ble_eq_true rfl, Nat.le_of_ble_eq_true rfl⟩) hK hP [0, 1, 2, 3, 4, 5, 6] rfl (ci := 2) rfl rfl (q0 := 0) rfl rfl hl.1 rfl (Nat.le_of_ble_eq_true rfl) dX1_put_27 ⟨Nat.zero_le _, Nat.zero_le _⟩ (fun r5 hr5 => ?_)
          subst hr5
          by_cases q1 : fN (fun k => hF L.1 (bO eb ec k) fd fc) ec < ec
          · skip
            refine lv_as (y := nI (fN (fun k => hF L.1 (bO eb ec k) fd fc) ec)) (by unfold fI; rw [if_pos q1]) ?_
            have e9 : putF n L fd fc op tn eb ec nz = (L, 0, tn, eb, ec, nI (fN (fun k => hF L.1 (bO eb ec k) fd fc) ec)) := (if_pos hA1).trans (if_pos q1)
            rw [e9]
            refine lv_istore_n (lv' := [(2, .int (nI (fN (fun k => hF L.1 (bO eb ec k) fd fc) ec))), (0, .ref b0), (1, .int nv)]) hx hb dX1_put_30 rfl hl (by decide) rfl (fun ls hl => ?_)
            refine lv_iload_n hx hb dX1_put_31 rfl (lv_at hl 0 rfl) ?_
            refine lv_iconst (v := -1) hx hb dX1_put_32 (by decide +kernel) ?_
            refine jb_eq (tgt := 43) hx hb (nI_toInt (n := fN (fun k => hF L.1 (bO eb ec k) fd fc) ec) (by omega)) neg1_toInt dX1_put_33 (by decide) (fun c6 => absurd c6 (by omega)) (fun c6 => ?_)
            refine lv_aload_n hx hb dX1_put_36 rfl (lv_at hl 1 rfl) ?_
            refine lv_iconst (v := nI 0) hx hb dX1_put_37 (by decide +kernel) ?_
            refine va_put (D := D) (ci := 2) (v := .int (nI 0)) (ty := .int) (C := RX1) (T := TX1) (N := 7) hx hb hts hinX1 tyX1 tyX1_ok nmX1 hown hK hP hD hS 0 rfl rfl 2 (by decide) (hts (.fieldLink RX1 13 "PuzzleBook" "fedCount" "I") (by decide +kernel)) (fun _ h9 => h9) rfl (by decide +kernel) rfl rfl (Nat.le_of_ble_eq_true rfl) dX1_put_38 (fun H locs hP hD hS => ?_)
            have hP : va_P D vwCl (bW b0 b1 b2 a0 a1 a2 a3 cB cI n L fd 0 op tn eb ec) H := hP
            have hD : va_D A (bW b0 b1 b2 a0 a1 a2 a3 cB cI n L fd 0 op tn eb ec) := hD
            refine lv_iload_n hx hb dX1_put_41 rfl (lv_at hl 0 rfl) ?_
            exact rt_wi hx hb hr hlocks hP hD hS dX1_put_42 rfl
          · skip
            refine lv_as (y := (-1)) (by unfold fI; rw [if_neg q1]) ?_
            refine lv_istore_n (lv' := [(2, .int (-1)), (0, .ref b0), (1, .int nv)]) hx hb dX1_put_30 rfl hl (by decide) rfl (fun ls hl => ?_)
            refine lv_iload_n hx hb dX1_put_31 rfl (lv_at hl 0 rfl) ?_
            refine lv_iconst (v := -1) hx hb dX1_put_32 (by decide +kernel) ?_
            refine jb_eq (tgt := 43) hx hb neg1_toInt neg1_toInt dX1_put_33 (by decide) (fun c7 => ?_) (fun c7 => absurd c7 (by omega))
            refine lv_aload_n hx hb dX1_put_43 rfl (lv_at hl 1 rfl) ?_
            refine rd_V (As := []) (rest := []) ⟨hx, hb, hml, hown, hts⟩ (c_X1_leastFreeBlock l D b0 b1 b2 a0 a1 a2 a3 cB cI n L fd fc op tn eb ec  hn0 hn he hE) (cwV 0 hts gX1_put_X1_leastFreeBlock rfl rfl rfl (by decide +kernel) ⟨Nat.le_of_ble_eq_true rfl, Nat.le_of_ble_eq_true rfl⟩) hK hP [0, 1, 2, 3, 4, 5, 6] rfl (ci := 2) rfl rfl (q0 := 0) rfl rfl hl.1 rfl (Nat.le_of_ble_eq_true rfl) dX1_put_44 ⟨Nat.zero_le _, Nat.zero_le _⟩ (fun r8 hr8 => ?_)
            subst hr8
            by_cases q2 : (lfB (bO eb ec) ec n) < n
            · skip
              refine lv_as (y := nI (lfB (bO eb ec) ec n)) (if_pos q2) ?_
              refine lv_istore_n (lv' := [(3, .int (nI (lfB (bO eb ec) ec n))), (2, .int (-1)), (0, .ref b0), (1, .int nv)]) hx hb dX1_put_47 rfl hl (by decide) rfl (fun ls hl => ?_)
              refine lv_iload_n hx hb dX1_put_48 rfl (lv_at hl 0 rfl) ?_
              refine lv_iconst (v := -1) hx hb dX1_put_49 (by decide +kernel) ?_
              refine jb_eq (tgt := 62) hx hb (nI_toInt (n := (lfB (bO eb ec) ec n)) (by omega)) neg1_toInt dX1_put_50 (by decide) (fun c9 => absurd c9 (by omega)) (fun c9 => ?_)
              refine lv_aload_n hx hb dX1_put_53 rfl (lv_at hl 2 rfl) ?_
              refine va_get (D := D) (ci := 2) (v := .int (nI ec)) (C := RX1) (T := TX1) (N := 7) hx hb hts hinX1 hown hK hP 0 rfl rfl 6 (by decide) (hts (.fieldLink RX1 20 "PuzzleBook" "entryCount" "I") (by decide +kernel)) (fun _ h9 => h9) rfl dX1_put_54 ?_
              refine lv_bipush (v := nI 40) hx hb dX1_put_57 (by decide +kernel) ?_
              refine jb_lt (tgt := 64) hx hb (nI_toInt (n := ec) (by omega)) (nI_toInt (n := 40) (by decide)) dX1_put_59 (by decide) (fun c10 => ?_) (fun c10 => ?_)
              · skip
                have t9 := ht (by omega)
                have e9 : putF n L fd fc op tn eb ec nz = (w1 (wR (wE (w0 L) (lfB (bO eb ec) ec n) nm fc fd) (3 - tn) (ec + 1) (bO (va_up eb ec (lfB (bO eb ec) ec n)) (ec + 1))) (64 * 0 + 0) (3 - tn), 0, 3 - tn, va_up eb ec (lfB (bO eb ec) ec n), ec + 1, nI ec) := by rw [← hj3]; exact (if_pos hA1).trans ((if_neg q1).trans (if_pos (by omega)))
                rw [e9]
                refine lv_aload_n hx hb dX1_put_64 rfl (lv_at hl 2 rfl) ?_
                refine va_get (D := D) (ci := 2) (v := .ref a0) (C := RX1) (T := TX1) (N := 7) hx hb hts hinX1 hown hK hP 0 rfl rfl 0 (by decide) (hts (.fieldLink RX1 28 "PuzzleBook" "store" "LPuzzleBook$Store;") (by decide +kernel)) (fun _ h9 => h9) rfl dX1_put_65 ?_
                refine wr_V (wr := [(b0, .inr (2, [.ref a0, .ref b1, .int (nI fc), .int (nI op), .int (nI tn), .ref b2, .int (nI ec)])), (b1, .inl (cI, 48, .inl (aI fd))), (b2, .inl (cI, 40, .inl (aI eb)))]) (wo := (bW b0 b1 b2 a0 a1 a2 a3 cB cI n (w0 L) fd fc op tn eb ec)) (As := []) (rest := []) ⟨hx, hb, hml, hown, hts⟩ (c_X0_beginChange l D a0 a1 a2 a3 cB cI n L  s.heap.size  ) (cwV 0 hts gX1_put_X0_beginChange rfl rfl rfl (by decide +kernel) ⟨Nat.le_of_ble_eq_true rfl, Nat.le_of_ble_eq_true rfl⟩) hK hP hD hS hA [3, 4, 5, 6] [0, 1, 2] rfl rfl rfl rfl (by decide) [0, 1, 2, 3, 4, 5, 6] rfl rfl (ci := 1) rfl rfl (q0 := 3) rfl rfl hl.1 rfl (Nat.le_of_ble_eq_true rfl) dX1_put_68 ⟨Nat.zero_le _, Nat.zero_le _⟩ (fun H locs hP hD hS => ?_)
                refine lv_aload_n hx hb dX1_put_71 rfl (lv_at hl 2 rfl) ?_
                refine lv_iload_n hx hb dX1_put_72 rfl (lv_at hl 0 rfl) ?_
                refine lv_iload_n hx hb dX1_put_73 rfl (lv_at hl 3 rfl) ?_
                refine lv_as (y := nI nm) hj2 ?_
                refine wr_V (wr := []) (wo := (bW b0 b1 b2 a0 a1 a2 a3 cB cI n (wE (w0 L) (lfB (bO eb ec) ec n) nm fc fd) fd fc op tn eb ec)) (As := [.int (nI (lfB (bO eb ec) ec n)), .int (nI nm)]) (rest := []) ⟨hx, hb, hml, hown, hts⟩ (c_X1_writeEntryBlock l D b0 b1 b2 a0 a1 a2 a3 cB cI n (w0 L) fd fc op tn eb ec (lfB (bO eb ec) ec n) nm H.size  hn hg q2 (by omega) hf hd (by show 0 + 64 ≤ 129; omega)) (cwV 2 hts gX1_put_X1_writeEntryBlock rfl rfl rfl (by decide +kernel) ⟨Nat.le_of_ble_eq_true rfl, Nat.le_of_ble_eq_true rfl⟩) hK hP hD hS hA [0, 1, 2, 3, 4, 5, 6] [] rfl rfl rfl rfl (by decide) [0, 1, 2, 3, 4, 5, 6] rfl rfl (ci := 2) rfl rfl (q0 := 0) rfl rfl hl.1 rfl (Nat.le_of_ble_eq_true rfl) dX1_put_74 ⟨Nat.zero_le _, Nat.zero_le _⟩ (fun H locs hP hD hS => ?_)
                refine lv_aload_n hx hb dX1_put_77 rfl (lv_at hl 2 rfl) ?_
                refine lv_iload_n hx hb dX1_put_78 rfl (lv_at hl 0 rfl) ?_
                refine wr_V (wr := []) (wo := (bW b0 b1 b2 a0 a1 a2 a3 cB cI n (wE (w0 L) (lfB (bO eb ec) ec n) nm fc fd) fd fc op tn (va_up eb ec (lfB (bO eb ec) ec n)) (ec + 1))) (As := [.int (nI (lfB (bO eb ec) ec n))]) (rest := []) ⟨hx, hb, hml, hown, hts⟩ (c_X1_addEntryBlock l D b0 b1 b2 a0 a1 a2 a3 cB cI n (wE (w0 L) (lfB (bO eb ec) ec n) nm fc fd) fd fc op tn eb ec (lfB (bO eb ec) ec n) H.size  (by omega)) (cwV 1 hts gX1_put_X1_addEntryBlock rfl rfl rfl (by decide +kernel) ⟨Nat.le_of_ble_eq_true rfl, Nat.le_of_ble_eq_true rfl⟩) hK hP hD hS hA [0, 1, 2, 3, 4, 5, 6] [] rfl rfl rfl rfl (by decide) [0, 1, 2, 3, 4, 5, 6] rfl rfl (ci := 2) rfl rfl (q0 := 0) rfl rfl hl.1 rfl (Nat.le_of_ble_eq_true rfl) dX1_put_79 ⟨Nat.zero_le _, Nat.zero_le _⟩ (fun H locs hP hD hS => ?_)
                refine lv_aload_n hx hb dX1_put_82 rfl (lv_at hl 2 rfl) ?_
                refine wr_V (wr := []) (wo := (bW b0 b1 b2 a0 a1 a2 a3 cB cI n (w1 (wR (wE (w0 L) (lfB (bO eb ec) ec n) nm fc fd) (3 - tn) (ec + 1) (bO (va_up eb ec (lfB (bO eb ec) ec n)) (ec + 1))) (64 * 0 + 0) (3 - tn)) fd fc op (3 - tn) (va_up eb ec (lfB (bO eb ec) ec n)) (ec + 1))) (As := []) (rest := []) ⟨hx, hb, hml, hown, hts⟩ (c_X1_writeOtherRootAndTurn l D b0 b1 b2 a0 a1 a2 a3 cB cI n (wE (w0 L) (lfB (bO eb ec) ec n) nm fc fd) fd fc op tn (va_up eb ec (lfB (bO eb ec) ec n)) (ec + 1)  H.size  hn0 hn (wE_lt hg (by omega) hf hd) (by omega) (bO_add hE q2) t9 (by rw [wE_c]; show 0 + 64 + 65 ≤ 129; omega)) (cwV 0 hts gX1_put_X1_writeOtherRootAndTurn rfl rfl rfl (by decide +kernel) ⟨Nat.le_of_ble_eq_true rfl, Nat.le_of_ble_eq_true rfl⟩) hK hP hD hS hA [0, 1, 2, 3, 4, 5, 6] [] rfl rfl rfl rfl (by decide) [0, 1, 2, 3, 4, 5, 6] rfl rfl (ci := 2) rfl rfl (q0 := 0) rfl rfl hl.1 rfl (Nat.le_of_ble_eq_true rfl) dX1_put_83 ⟨Nat.zero_le _, Nat.zero_le _⟩ (fun H locs hP hD hS => ?_)
                refine lv_aload_n hx hb dX1_put_86 rfl (lv_at hl 2 rfl) ?_
                refine lv_iconst (v := nI 0) hx hb dX1_put_87 (by decide +kernel) ?_
                refine va_put (D := D) (ci := 2) (v := .int (nI 0)) (ty := .int) (C := RX1) (T := TX1) (N := 7) hx hb hts hinX1 tyX1 tyX1_ok nmX1 hown hK hP hD hS 0 rfl rfl 2 (by decide) (hts (.fieldLink RX1 13 "PuzzleBook" "fedCount" "I") (by decide +kernel)) (fun _ h9 => h9) rfl (by decide +kernel) rfl rfl (Nat.le_of_ble_eq_true rfl) dX1_put_88 (fun H locs hP hD hS => ?_)
                have hP : va_P D vwCl (bW b0 b1 b2 a0 a1 a2 a3 cB cI n (w1 (wR (wE (w0 L) (lfB (bO eb ec) ec n) nm fc fd) (3 - tn) (ec + 1) (bO (va_up eb ec (lfB (bO eb ec) ec n)) (ec + 1))) (64 * 0 + 0) (3 - tn)) fd 0 op (3 - tn) (va_up eb ec (lfB (bO eb ec) ec n)) (ec + 1)) H := hP
                have hD : va_D A (bW b0 b1 b2 a0 a1 a2 a3 cB cI n (w1 (wR (wE (w0 L) (lfB (bO eb ec) ec n) nm fc fd) (3 - tn) (ec + 1) (bO (va_up eb ec (lfB (bO eb ec) ec n)) (ec + 1))) (64 * 0 + 0) (3 - tn)) fd 0 op (3 - tn) (va_up eb ec (lfB (bO eb ec) ec n)) (ec + 1)) := hD
                refine lv_aload_n hx hb dX1_put_91 rfl (lv_at hl 2 rfl) ?_
                refine va_get (D := D) (ci := 2) (v := .int (nI (ec + 1))) (C := RX1) (T := TX1) (N := 7) hx hb hts hinX1 hown hK hP 0 rfl rfl 6 (by decide) (hts (.fieldLink RX1 20 "PuzzleBook" "entryCount" "I") (by decide +kernel)) (fun _ h9 => h9) rfl dX1_put_92 ?_
                refine lv_iconst (v := nI 1) hx hb dX1_put_95 (by decide +kernel) ?_
                refine lv_isub hx hb dX1_put_96 ?_
                refine lv_as (y := nI ((ec + 1) - 1)) (pk_sub (by omega)) ?_
                exact rt_wi hx hb hr hlocks hP hD hS dX1_put_97 (congrArg nI (by omega))
              · skip
                have e9 : putF n L fd fc op tn eb ec nz = (L, fc, tn, eb, ec, -1) := (if_pos hA1).trans ((if_neg q1).trans (if_neg (by omega)))
                rw [e9]
                refine lv_iconst (v := -1) hx hb dX1_put_62 (by decide +kernel) ?_
                exact rt_wi hx hb hr hlocks hP hD hS dX1_put_63 rfl
            · skip
              refine lv_as (y := (-1)) (if_neg q2) ?_
              refine lv_istore_n (lv' := [(3, .int (-1)), (2, .int (-1)), (0, .ref b0), (1, .int nv)]) hx hb dX1_put_47 rfl hl (by decide) rfl (fun ls hl => ?_)
              refine lv_iload_n hx hb dX1_put_48 rfl (lv_at hl 0 rfl) ?_
              refine lv_iconst (v := -1) hx hb dX1_put_49 (by decide +kernel) ?_
              refine jb_eq (tgt := 62) hx hb neg1_toInt neg1_toInt dX1_put_50 (by decide) (fun c11 => ?_) (fun c11 => absurd c11 (by omega))
              have e9 : putF n L fd fc op tn eb ec nz = (L, fc, tn, eb, ec, -1) := (if_pos hA1).trans ((if_neg q1).trans (if_neg (fun h => q2 h.1)))
              rw [e9]
              refine lv_iconst (v := -1) hx hb dX1_put_62 (by decide +kernel) ?_
              exact rt_wi hx hb hr hlocks hP hD hS dX1_put_63 rfl
        · skip
          have e9 : putF n L fd fc op tn eb ec nz = (L, fc, tn, eb, ec, -1) := if_neg (by omega)
          rw [e9]
          refine lv_iconst (v := -1) hx hb dX1_put_24 (by decide +kernel) ?_
          exact rt_wi hx hb hr hlocks hP hD hS dX1_put_25 rfl
set_option maxRecDepth 100000 in
set_option maxHeartbeats 4000000 in
/-- drop(entry) -/
theorem c_X1_drop (l : Launch) (D : va_G) (b0 b1 b2 a0 a1 a2 a3 : Nat) (cB cI : ClassId) (n : Nat) (L : Lg) (fd : Nat → Nat) (fc : Nat) (op : Nat) (tn : Nat) (eb : Nat → Nat) (ec : Nat) (kv : Int32) (kz : Int) (sz : Nat) (hn0 : 4 ≤ n) (hn : n ≤ 64) (hg : ∀ j, L.1 j < 256) (he : ec ≤ 40) (hE : ∀ k, bO eb ec k < n) (ho : op ≤ 1) (ht : op ≠ 0 → tn = 1 ∨ tn = 2) (h1 : kv.toInt = kz) : Met l yX1_drop wsX1_drop ({ frames := 6, cells := 0, slots := 0, locals := 134 }) (wP [.ref b0, .int kv] D (bW b0 b1 b2 a0 a1 a2 a3 cB cI n L fd fc op tn eb ec) (ty2 cB cI) sz) (wQi ((dropF L op tn eb ec kz).2.2.2.2) D (bW b0 b1 b2 a0 a1 a2 a3 cB cI n ((dropF L op tn eb ec kz).1) fd fc op ((dropF L op tn eb ec kz).2.1) ((dropF L op tn eb ec kz).2.2.1) ((dropF L op tn eb ec kz).2.2.2.1)) (va_A (bW b0 b1 b2 a0 a1 a2 a3 cB cI n L fd fc op tn eb ec) sz)) 0 0 (va_A (bW b0 b1 b2 a0 a1 a2 a3 cB cI n L fd fc op tn eb ec) sz) := by
  refine met_wi (by decide) rfl (Nat.le_of_ble_eq_true rfl) ?_
  intro p e s m below meth c hx hb hml hr hlocks hown hts hP hK A hD hA hS ls hl
  have hown : s.vm.findClass RX1 = some m.cls := hown
  have hinX1 : ∀ w ∈ u_ws RX1 TX1 7, w ∈ wsX1_drop := by decide +kernel
  have hinX0 : ∀ w ∈ u_ws RX0 TX0 5, w ∈ wsX1_drop := by decide +kernel
  have hl : lv_has ls 2 [(0, .ref b0), (1, .int kv)] := hl
  refine lv_aload_n hx hb dX1_drop_0 rfl (lv_at hl 0 rfl) ?_
  refine lv_iload_n hx hb dX1_drop_1 rfl (lv_at hl 1 rfl) ?_
  refine rd_V (As := [.int kv]) (rest := []) ⟨hx, hb, hml, hown, hts⟩ (c_X1_isEntry l D b0 b1 b2 a0 a1 a2 a3 cB cI n L fd fc op tn eb ec kv kz ho he h1) (cwV 1 hts gX1_drop_X1_isEntry rfl rfl rfl (by decide +kernel) ⟨Nat.le_of_ble_eq_true rfl, Nat.le_of_ble_eq_true rfl⟩) hK hP [0, 1, 2, 3, 4, 5, 6] rfl (ci := 2) rfl rfl (q0 := 0) rfl rfl hl.1 rfl (Nat.le_of_ble_eq_true rfl) dX1_drop_2 ⟨Nat.zero_le _, Nat.zero_le _⟩ (fun r1 hr1 => ?_)
  subst hr1
  by_cases q2 : (op ≠ 0 ∧ 0 ≤ kz ∧ kz < ((ec : Nat) : Int))
  · skip
    refine lv_as (y := nI 1) (congrArg nI (b01_t q2)) ?_
    refine j0_ne (tgt := 10) hx hb (nI_toInt (n := 1) (by decide)) dX1_drop_5 (by decide) (fun c3 => ?_) (fun c3 => absurd c3 (by omega))
    have t9 := ht (by omega)
    obtain ⟨j, hj⟩ : ∃ j : Nat, kz = (j : Int) := ⟨kz.toNat, by omega⟩
    have hj2 : kv = nI j := Int32.toInt_inj.mp (by rw [h1, hj, nI_toInt (by omega)])
    have hj3 : kz.toNat = j := by omega
    have e9 : dropF L op tn eb ec kz = (w1 (wR (w0 L) (3 - tn) (ec - 1) (bO (shf eb j (ec - 1 - j)) (ec - 1))) (64 * 0 + 0) (3 - tn), 3 - tn, shf eb j (ec - 1 - j), ec - 1, nI 1) := by rw [← hj3]; exact if_pos q2
    rw [e9]
    refine lv_aload_n hx hb dX1_drop_10 rfl (lv_at hl 0 rfl) ?_
    refine va_get (D := D) (ci := 2) (v := .ref a0) (C := RX1) (T := TX1) (N := 7) hx hb hts hinX1 hown hK hP 0 rfl rfl 0 (by decide) (hts (.fieldLink RX1 28 "PuzzleBook" "store" "LPuzzleBook$Store;") (by decide +kernel)) (fun _ h9 => h9) rfl dX1_drop_11 ?_
    refine wr_V (wr := [(b0, .inr (2, [.ref a0, .ref b1, .int (nI fc), .int (nI op), .int (nI tn), .ref b2, .int (nI ec)])), (b1, .inl (cI, 48, .inl (aI fd))), (b2, .inl (cI, 40, .inl (aI eb)))]) (wo := (bW b0 b1 b2 a0 a1 a2 a3 cB cI n (w0 L) fd fc op tn eb ec)) (As := []) (rest := []) ⟨hx, hb, hml, hown, hts⟩ (c_X0_beginChange l D a0 a1 a2 a3 cB cI n L  s.heap.size  ) (cwV 0 hts gX1_drop_X0_beginChange rfl rfl rfl (by decide +kernel) ⟨Nat.le_of_ble_eq_true rfl, Nat.le_of_ble_eq_true rfl⟩) hK hP hD hS hA [3, 4, 5, 6] [0, 1, 2] rfl rfl rfl rfl (by decide) [0, 1, 2, 3, 4, 5, 6] rfl rfl (ci := 1) rfl rfl (q0 := 3) rfl rfl hl.1 rfl (Nat.le_of_ble_eq_true rfl) dX1_drop_14 ⟨Nat.zero_le _, Nat.zero_le _⟩ (fun H locs hP hD hS => ?_)
    refine lv_aload_n hx hb dX1_drop_17 rfl (lv_at hl 0 rfl) ?_
    refine lv_iload_n hx hb dX1_drop_18 rfl (lv_at hl 1 rfl) ?_
    refine lv_as (y := nI j) hj2 ?_
    refine wr_V (wr := []) (wo := (bW b0 b1 b2 a0 a1 a2 a3 cB cI n (w0 L) fd fc op tn (shf eb j (ec - 1 - j)) (ec - 1))) (As := [.int (nI j)]) (rest := []) ⟨hx, hb, hml, hown, hts⟩ (c_X1_removeEntryBlock l D b0 b1 b2 a0 a1 a2 a3 cB cI n (w0 L) fd fc op tn eb ec j H.size  (by omega) he) (cwV 1 hts gX1_drop_X1_removeEntryBlock rfl rfl rfl (by decide +kernel) ⟨Nat.le_of_ble_eq_true rfl, Nat.le_of_ble_eq_true rfl⟩) hK hP hD hS hA [0, 1, 2, 3, 4, 5, 6] [] rfl rfl rfl rfl (by decide) [0, 1, 2, 3, 4, 5, 6] rfl rfl (ci := 2) rfl rfl (q0 := 0) rfl rfl hl.1 rfl (Nat.le_of_ble_eq_true rfl) dX1_drop_19 ⟨Nat.zero_le _, Nat.zero_le _⟩ (fun H locs hP hD hS => ?_)
    refine lv_aload_n hx hb dX1_drop_22 rfl (lv_at hl 0 rfl) ?_
    refine wr_V (wr := []) (wo := (bW b0 b1 b2 a0 a1 a2 a3 cB cI n (w1 (wR (w0 L) (3 - tn) (ec - 1) (bO (shf eb j (ec - 1 - j)) (ec - 1))) (64 * 0 + 0) (3 - tn)) fd fc op (3 - tn) (shf eb j (ec - 1 - j)) (ec - 1))) (As := []) (rest := []) ⟨hx, hb, hml, hown, hts⟩ (c_X1_writeOtherRootAndTurn l D b0 b1 b2 a0 a1 a2 a3 cB cI n (w0 L) fd fc op tn (shf eb j (ec - 1 - j)) (ec - 1)  H.size  hn0 hn hg (by omega) (shf_n (by omega) hE (by omega)) t9 (by show 0 + 65 ≤ 129; omega)) (cwV 0 hts gX1_drop_X1_writeOtherRootAndTurn rfl rfl rfl (by decide +kernel) ⟨Nat.le_of_ble_eq_true rfl, Nat.le_of_ble_eq_true rfl⟩) hK hP hD hS hA [0, 1, 2, 3, 4, 5, 6] [] rfl rfl rfl rfl (by decide) [0, 1, 2, 3, 4, 5, 6] rfl rfl (ci := 2) rfl rfl (q0 := 0) rfl rfl hl.1 rfl (Nat.le_of_ble_eq_true rfl) dX1_drop_23 ⟨Nat.zero_le _, Nat.zero_le _⟩ (fun H locs hP hD hS => ?_)
    refine lv_iconst (v := nI 1) hx hb dX1_drop_26 (by decide +kernel) ?_
    exact rt_wz hx hb hr hlocks hP hD hS dX1_drop_27 (by decide +kernel) rfl
  · skip
    refine lv_as (y := nI 0) (congrArg nI (b01_f q2)) ?_
    refine j0_ne (tgt := 10) hx hb (nI_toInt (n := 0) (by decide)) dX1_drop_5 (by decide) (fun c4 => absurd c4 (by omega)) (fun c4 => ?_)
    have e9 : dropF L op tn eb ec kz = (L, tn, eb, ec, nI 0) := if_neg q2
    rw [e9]
    refine lv_iconst (v := nI 0) hx hb dX1_drop_8 (by decide +kernel) ?_
    exact rt_wz hx hb hr hlocks hP hD hS dX1_drop_9 (by decide +kernel) rfl
set_option maxRecDepth 100000 in
set_option maxHeartbeats 4000000 in
/-- crash(kept) -/
theorem c_X1_crash (l : Launch) (D : va_G) (b0 b1 b2 a0 a1 a2 a3 : Nat) (cB cI : ClassId) (n : Nat) (L : Lg) (fd : Nat → Nat) (fc : Nat) (op : Nat) (tn : Nat) (eb : Nat → Nat) (ec : Nat) (kv : Int32) (kz : Int) (sz : Nat) (hn : n ≤ 64) (ho : op ≤ 1) (h2 : L.2.2.2 ≤ 129) (hp : op ≠ 0 → ∀ k, k < L.2.2.2 → L.2.1 k < 64 * n) (h1 : kv.toInt = kz) : Met l yX1_crash wsX1_crash ({ frames := 2, cells := 0, slots := 0, locals := 44 }) (wP [.ref b0, .int kv] D (bW b0 b1 b2 a0 a1 a2 a3 cB cI n L fd fc op tn eb ec) (ty2 cB cI) sz) (wQi ((crF L op kz).2.2) D (bW b0 b1 b2 a0 a1 a2 a3 cB cI n ((crF L op kz).1) fd fc ((crF L op kz).2.1) tn eb ec) (va_A (bW b0 b1 b2 a0 a1 a2 a3 cB cI n L fd fc op tn eb ec) sz)) 0 0 (va_A (bW b0 b1 b2 a0 a1 a2 a3 cB cI n L fd fc op tn eb ec) sz) := by
  refine met_wi (by decide) rfl (Nat.le_of_ble_eq_true rfl) ?_
  intro p e s m below meth c hx hb hml hr hlocks hown hts hP hK A hD hA hS ls hl
  have hown : s.vm.findClass RX1 = some m.cls := hown
  have hinX1 : ∀ w ∈ u_ws RX1 TX1 7, w ∈ wsX1_crash := by decide +kernel
  have hinX0 : ∀ w ∈ u_ws RX0 TX0 5, w ∈ wsX1_crash := by decide +kernel
  have hl : lv_has ls 3 [(0, .ref b0), (1, .int kv)] := hl
  refine lv_aload_n hx hb dX1_crash_0 rfl (lv_at hl 0 rfl) ?_
  refine va_get (D := D) (ci := 2) (v := .ref a0) (C := RX1) (T := TX1) (N := 7) hx hb hts hinX1 hown hK hP 0 rfl rfl 0 (by decide) (hts (.fieldLink RX1 28 "PuzzleBook" "store" "LPuzzleBook$Store;") (by decide +kernel)) (fun _ h9 => h9) rfl dX1_crash_1 ?_
  refine rd_V (As := []) (rest := []) ⟨hx, hb, hml, hown, hts⟩ (c_X0_writtenBytes l D a0 a1 a2 a3 cB cI n L  ) (cwV 0 hts gX1_crash_X0_writtenBytes rfl rfl rfl (by decide +kernel) ⟨Nat.le_of_ble_eq_true rfl, Nat.le_of_ble_eq_true rfl⟩) hK hP [3, 4, 5, 6] rfl (ci := 1) rfl rfl (q0 := 3) rfl rfl hl.1 rfl (Nat.le_of_ble_eq_true rfl) dX1_crash_4 ⟨Nat.zero_le _, Nat.zero_le _⟩ (fun r1 hr1 => ?_)
  subst hr1
  refine lv_istore_n (lv' := [(2, .int (nI L.2.2.2)), (0, .ref b0), (1, .int kv)]) hx hb dX1_crash_7 rfl hl (by decide) rfl (fun ls hl => ?_)
  refine lv_aload_n hx hb dX1_crash_8 rfl (lv_at hl 1 rfl) ?_
  refine va_get (D := D) (ci := 2) (v := .int (nI op)) (C := RX1) (T := TX1) (N := 7) hx hb hts hinX1 hown hK hP 0 rfl rfl 3 (by decide) (hts (.fieldLink RX1 45 "PuzzleBook" "isOpen" "Z") (by decide +kernel)) (fun _ h9 => h9) rfl dX1_crash_9 ?_
  refine j0_eq (tgt := 28) hx hb (nI_toInt (n := op) (by omega)) dX1_crash_12 (by decide) (fun c2 => ?_) (fun c2 => ?_)
  · skip
    have e9 : crF L op kz = (L, op, nI 0) := if_neg (by omega)
    rw [e9]
    refine lv_iconst (v := nI 0) hx hb dX1_crash_28 (by decide +kernel) ?_
    exact rt_wz hx hb hr hlocks hP hD hS dX1_crash_29 (by decide +kernel) rfl
  · skip
    refine lv_iload_n hx hb dX1_crash_15 rfl (lv_at hl 0 rfl) ?_
    refine j0_eq (tgt := 28) hx hb (nI_toInt (n := L.2.2.2) (by omega)) dX1_crash_16 (by decide) (fun c3 => ?_) (fun c3 => ?_)
    · skip
      have e9 : crF L op kz = (L, op, nI 0) := if_neg (by omega)
      rw [e9]
      refine lv_iconst (v := nI 0) hx hb dX1_crash_28 (by decide +kernel) ?_
      exact rt_wz hx hb hr hlocks hP hD hS dX1_crash_29 (by decide +kernel) rfl
    · skip
      refine lv_iload_n hx hb dX1_crash_19 rfl (lv_at hl 2 rfl) ?_
      refine j0_lt (tgt := 28) hx hb h1 dX1_crash_20 (by decide) (fun c4 => ?_) (fun c4 => ?_)
      · skip
        have e9 : crF L op kz = (L, op, nI 0) := if_neg (by omega)
        rw [e9]
        refine lv_iconst (v := nI 0) hx hb dX1_crash_28 (by decide +kernel) ?_
        exact rt_wz hx hb hr hlocks hP hD hS dX1_crash_29 (by decide +kernel) rfl
      · skip
        refine lv_iload_n hx hb dX1_crash_23 rfl (lv_at hl 2 rfl) ?_
        refine lv_iload_n hx hb dX1_crash_24 rfl (lv_at hl 0 rfl) ?_
        refine jb_le (tgt := 30) hx hb h1 (nI_toInt (n := L.2.2.2) (by omega)) dX1_crash_25 (by decide) (fun c5 => ?_) (fun c5 => ?_)
        · skip
          obtain ⟨j, hj⟩ : ∃ j : Nat, kz = (j : Int) := ⟨kz.toNat, by omega⟩
          have hj2 : kv = nI j := Int32.toInt_inj.mp (by rw [h1, hj, nI_toInt (by omega)])
          have hj3 : kz.toNat = j := by omega
          have e9 : crF L op kz = (wU L j, 0, nI 1) := by rw [← hj3]; exact if_pos (by omega)
          rw [e9]
          refine lv_aload_n hx hb dX1_crash_30 rfl (lv_at hl 1 rfl) ?_
          refine va_get (D := D) (ci := 2) (v := .ref a0) (C := RX1) (T := TX1) (N := 7) hx hb hts hinX1 hown hK hP 0 rfl rfl 0 (by decide) (hts (.fieldLink RX1 28 "PuzzleBook" "store" "LPuzzleBook$Store;") (by decide +kernel)) (fun _ h9 => h9) rfl dX1_crash_31 ?_
          refine lv_iload_n hx hb dX1_crash_34 rfl (lv_at hl 2 rfl) ?_
          refine lv_as (y := nI j) hj2 ?_
          refine wr_V (wr := [(b0, .inr (2, [.ref a0, .ref b1, .int (nI fc), .int (nI op), .int (nI tn), .ref b2, .int (nI ec)])), (b1, .inl (cI, 48, .inl (aI fd))), (b2, .inl (cI, 40, .inl (aI eb)))]) (wo := (bW b0 b1 b2 a0 a1 a2 a3 cB cI n (wU L j) fd fc op tn eb ec)) (As := [.int (nI j)]) (rest := []) ⟨hx, hb, hml, hown, hts⟩ (c_X0_undoAllBut l D a0 a1 a2 a3 cB cI n L j s.heap.size  hn (by omega) h2 (hp (by omega))) (cwV 1 hts gX1_crash_X0_undoAllBut rfl rfl rfl (by decide +kernel) ⟨Nat.le_of_ble_eq_true rfl, Nat.le_of_ble_eq_true rfl⟩) hK hP hD hS hA [3, 4, 5, 6] [0, 1, 2] rfl rfl rfl rfl (by decide) [0, 1, 2, 3, 4, 5, 6] rfl rfl (ci := 1) rfl rfl (q0 := 3) rfl rfl hl.1 rfl (Nat.le_of_ble_eq_true rfl) dX1_crash_35 ⟨Nat.zero_le _, Nat.zero_le _⟩ (fun H locs hP hD hS => ?_)
          refine lv_aload_n hx hb dX1_crash_38 rfl (lv_at hl 1 rfl) ?_
          refine lv_iconst (v := nI 0) hx hb dX1_crash_39 (by decide +kernel) ?_
          refine va_put (D := D) (ci := 2) (v := .int (nI 0)) (ty := .boolean) (C := RX1) (T := TX1) (N := 7) hx hb hts hinX1 tyX1 tyX1_ok nmX1 hown hK hP hD hS 0 rfl rfl 3 (by decide) (hts (.fieldLink RX1 45 "PuzzleBook" "isOpen" "Z") (by decide +kernel)) (fun _ h9 => h9) rfl (by decide +kernel) rfl rfl (Nat.le_of_ble_eq_true rfl) dX1_crash_40 (fun H locs hP hD hS => ?_)
          have hP : va_P D vwCl (bW b0 b1 b2 a0 a1 a2 a3 cB cI n (wU L j) fd fc 0 tn eb ec) H := hP
          have hD : va_D A (bW b0 b1 b2 a0 a1 a2 a3 cB cI n (wU L j) fd fc 0 tn eb ec) := hD
          refine lv_iconst (v := nI 1) hx hb dX1_crash_43 (by decide +kernel) ?_
          exact rt_wz hx hb hr hlocks hP hD hS dX1_crash_44 (by decide +kernel) rfl
        · skip
          have e9 : crF L op kz = (L, op, nI 0) := if_neg (by omega)
          rw [e9]
          refine lv_iconst (v := nI 0) hx hb dX1_crash_28 (by decide +kernel) ?_
          exact rt_wz hx hb hr hlocks hP hD hS dX1_crash_29 (by decide +kernel) rfl
set_option maxRecDepth 100000 in
set_option maxHeartbeats 4000000 in
/-- reopen() -/
theorem c_X1_reopen (l : Launch) (D : va_G) (b0 b1 b2 a0 a1 a2 a3 : Nat) (cB cI : ClassId) (n : Nat) (L : Lg) (fd : Nat → Nat) (fc : Nat) (op : Nat) (tn : Nat) (eb : Nat → Nat) (ec : Nat)  (sz : Nat) (hn0 : 4 ≤ n) (hn : n ≤ 64) (hg : ∀ j, L.1 j < 256) : Met l yX1_reopen wsX1_reopen ({ frames := 6, cells := 0, slots := 0, locals := 135 }) (wP [.ref b0] D (bW b0 b1 b2 a0 a1 a2 a3 cB cI n L fd fc op tn eb ec) (ty2 cB cI) sz) (wQi ((if (rfR L.1 n eb).toInt = -1 then nI (rfC L.1 n) else -1 - (rfR L.1 n eb))) D (bW b0 b1 b2 a0 a1 a2 a3 cB cI n (w0 L) fd fc (if (rfR L.1 n eb).toInt = -1 then 1 else 0) (L.1 0) (rfE L.1 n eb) (rfC L.1 n)) (va_A (bW b0 b1 b2 a0 a1 a2 a3 cB cI n L fd fc op tn eb ec) sz)) 0 0 (va_A (bW b0 b1 b2 a0 a1 a2 a3 cB cI n L fd fc op tn eb ec) sz) := by
  refine met_wi (by decide) rfl (Nat.le_of_ble_eq_true rfl) ?_
  intro p e s m below meth c hx hb hml hr hlocks hown hts hP hK A hD hA hS ls hl
  have hown : s.vm.findClass RX1 = some m.cls := hown
  have hinX1 : ∀ w ∈ u_ws RX1 TX1 7, w ∈ wsX1_reopen := by decide +kernel
  have hinX0 : ∀ w ∈ u_ws RX0 TX0 5, w ∈ wsX1_reopen := by decide +kernel
  have hl : lv_has ls 2 [(0, .ref b0)] := hl
  refine lv_aload_n hx hb dX1_reopen_0 rfl (lv_at hl 0 rfl) ?_
  refine va_get (D := D) (ci := 2) (v := .ref a0) (C := RX1) (T := TX1) (N := 7) hx hb hts hinX1 hown hK hP 0 rfl rfl 0 (by decide) (hts (.fieldLink RX1 28 "PuzzleBook" "store" "LPuzzleBook$Store;") (by decide +kernel)) (fun _ h9 => h9) rfl dX1_reopen_1 ?_
  refine wr_V (wr := [(b0, .inr (2, [.ref a0, .ref b1, .int (nI fc), .int (nI op), .int (nI tn), .ref b2, .int (nI ec)])), (b1, .inl (cI, 48, .inl (aI fd))), (b2, .inl (cI, 40, .inl (aI eb)))]) (wo := (bW b0 b1 b2 a0 a1 a2 a3 cB cI n (w0 L) fd fc op tn eb ec)) (As := []) (rest := []) ⟨hx, hb, hml, hown, hts⟩ (c_X0_beginChange l D a0 a1 a2 a3 cB cI n L  s.heap.size  ) (cwV 0 hts gX1_reopen_X0_beginChange rfl rfl rfl (by decide +kernel) ⟨Nat.le_of_ble_eq_true rfl, Nat.le_of_ble_eq_true rfl⟩) hK hP hD hS hA [3, 4, 5, 6] [0, 1, 2] rfl rfl rfl rfl (by decide) [0, 1, 2, 3, 4, 5, 6] rfl rfl (ci := 1) rfl rfl (q0 := 3) rfl rfl hl.1 rfl (Nat.le_of_ble_eq_true rfl) dX1_reopen_4 ⟨Nat.zero_le _, Nat.zero_le _⟩ (fun H locs hP hD hS => ?_)
  refine lv_aload_n hx hb dX1_reopen_7 rfl (lv_at hl 0 rfl) ?_
  refine wr_Vi (wr := []) (wo := (bW b0 b1 b2 a0 a1 a2 a3 cB cI n (w0 L) fd fc op ((w0 L).1 0) (rfE (w0 L).1 n eb) (rfC (w0 L).1 n))) (As := []) (rest := []) ⟨hx, hb, hml, hown, hts⟩ (c_X1_readFromStore l D b0 b1 b2 a0 a1 a2 a3 cB cI n (w0 L) fd fc op tn eb ec  H.size  hn0 hn hg) (cwV 0 hts gX1_reopen_X1_readFromStore rfl rfl rfl (by decide +kernel) ⟨Nat.le_of_ble_eq_true rfl, Nat.le_of_ble_eq_true rfl⟩) hK hP hD hS hA [0, 1, 2, 3, 4, 5, 6] [] rfl rfl rfl rfl (by decide) [0, 1, 2, 3, 4, 5, 6] rfl rfl (ci := 2) rfl rfl (q0 := 0) rfl rfl hl.1 rfl (Nat.le_of_ble_eq_true rfl) dX1_reopen_8 ⟨Nat.zero_le _, Nat.zero_le _⟩ (fun H locs hP hD hS => ?_)
  refine lv_istore_n (lv' := [(1, .int (rfR L.1 n eb)), (0, .ref b0)]) hx hb dX1_reopen_11 rfl hl (by decide) rfl (fun ls hl => ?_)
  refine lv_aload_n hx hb dX1_reopen_12 rfl (lv_at hl 1 rfl) ?_
  refine lv_iload_n hx hb dX1_reopen_13 rfl (lv_at hl 0 rfl) ?_
  refine lv_iconst (v := -1) hx hb dX1_reopen_14 (by decide +kernel) ?_
  refine jb_ne (tgt := 22) hx hb rfl neg1_toInt dX1_reopen_15 (by decide) (fun c1 => ?_) (fun c1 => ?_)
  · skip
    rw [if_neg c1, if_neg c1]
    refine lv_iconst (v := nI 0) hx hb dX1_reopen_22 (by decide +kernel) ?_
    refine va_put (D := D) (ci := 2) (v := .int (nI 0)) (ty := .boolean) (C := RX1) (T := TX1) (N := 7) hx hb hts hinX1 tyX1 tyX1_ok nmX1 hown hK hP hD hS 0 rfl rfl 3 (by decide) (hts (.fieldLink RX1 45 "PuzzleBook" "isOpen" "Z") (by decide +kernel)) (fun _ h9 => h9) rfl (by decide +kernel) rfl rfl (Nat.le_of_ble_eq_true rfl) dX1_reopen_23 (fun H locs hP hD hS => ?_)
    have hP : va_P D vwCl (bW b0 b1 b2 a0 a1 a2 a3 cB cI n (w0 L) fd fc 0 ((w0 L).1 0) (rfE (w0 L).1 n eb) (rfC (w0 L).1 n)) H := hP
    have hD : va_D A (bW b0 b1 b2 a0 a1 a2 a3 cB cI n (w0 L) fd fc 0 ((w0 L).1 0) (rfE (w0 L).1 n eb) (rfC (w0 L).1 n)) := hD
    refine lv_aload_n hx hb dX1_reopen_26 rfl (lv_at hl 1 rfl) ?_
    refine va_get (D := D) (ci := 2) (v := .int (nI 0)) (C := RX1) (T := TX1) (N := 7) hx hb hts hinX1 hown hK hP 0 rfl rfl 3 (by decide) (hts (.fieldLink RX1 45 "PuzzleBook" "isOpen" "Z") (by decide +kernel)) (fun _ h9 => h9) rfl dX1_reopen_27 ?_
    refine j0_eq (tgt := 40) hx hb (nI_toInt (n := 0) (by decide)) dX1_reopen_30 (by decide) (fun c2 => ?_) (fun c2 => absurd c2 (by omega))
    refine lv_iconst (v := -1) hx hb dX1_reopen_40 (by decide +kernel) ?_
    refine lv_iload_n hx hb dX1_reopen_41 rfl (lv_at hl 0 rfl) ?_
    refine lv_isub hx hb dX1_reopen_42 ?_
    exact rt_wi hx hb hr hlocks hP hD hS dX1_reopen_43 rfl
  · skip
    rw [if_pos c1, if_pos c1]
    refine lv_iconst (v := nI 1) hx hb dX1_reopen_18 (by decide +kernel) ?_
    refine lv_goto (tgt := 23) hx hb dX1_reopen_19 (by decide) ?_
    refine va_put (D := D) (ci := 2) (v := .int (nI 1)) (ty := .boolean) (C := RX1) (T := TX1) (N := 7) hx hb hts hinX1 tyX1 tyX1_ok nmX1 hown hK hP hD hS 0 rfl rfl 3 (by decide) (hts (.fieldLink RX1 45 "PuzzleBook" "isOpen" "Z") (by decide +kernel)) (fun _ h9 => h9) rfl (by decide +kernel) rfl rfl (Nat.le_of_ble_eq_true rfl) dX1_reopen_23 (fun H locs hP hD hS => ?_)
    have hP : va_P D vwCl (bW b0 b1 b2 a0 a1 a2 a3 cB cI n (w0 L) fd fc 1 ((w0 L).1 0) (rfE (w0 L).1 n eb) (rfC (w0 L).1 n)) H := hP
    have hD : va_D A (bW b0 b1 b2 a0 a1 a2 a3 cB cI n (w0 L) fd fc 1 ((w0 L).1 0) (rfE (w0 L).1 n eb) (rfC (w0 L).1 n)) := hD
    refine lv_aload_n hx hb dX1_reopen_26 rfl (lv_at hl 1 rfl) ?_
    refine va_get (D := D) (ci := 2) (v := .int (nI 1)) (C := RX1) (T := TX1) (N := 7) hx hb hts hinX1 hown hK hP 0 rfl rfl 3 (by decide) (hts (.fieldLink RX1 45 "PuzzleBook" "isOpen" "Z") (by decide +kernel)) (fun _ h9 => h9) rfl dX1_reopen_27 ?_
    refine j0_eq (tgt := 40) hx hb (nI_toInt (n := 1) (by decide)) dX1_reopen_30 (by decide) (fun c3 => absurd c3 (by omega)) (fun c3 => ?_)
    refine lv_aload_n hx hb dX1_reopen_33 rfl (lv_at hl 1 rfl) ?_
    refine va_get (D := D) (ci := 2) (v := .int (nI (rfC (w0 L).1 n))) (C := RX1) (T := TX1) (N := 7) hx hb hts hinX1 hown hK hP 0 rfl rfl 6 (by decide) (hts (.fieldLink RX1 20 "PuzzleBook" "entryCount" "I") (by decide +kernel)) (fun _ h9 => h9) rfl dX1_reopen_34 ?_
    refine lv_goto (tgt := 43) hx hb dX1_reopen_37 (by decide) ?_
    exact rt_wi hx hb hr hlocks hP hD hS dX1_reopen_43 rfl
set_option maxRecDepth 100000 in
set_option maxHeartbeats 4000000 in
/-- poke(block, i, mask) -/
theorem c_X1_poke (l : Launch) (D : va_G) (b0 b1 b2 a0 a1 a2 a3 : Nat) (cB cI : ClassId) (n : Nat) (L : Lg) (fd : Nat → Nat) (fc : Nat) (op : Nat) (tn : Nat) (eb : Nat → Nat) (ec : Nat) (bv iv mv : Int32) (bz iz mz : Int) (sz : Nat) (hn : n ≤ 64) (h1 : bv.toInt = bz) (h2 : iv.toInt = iz) (h3 : mv.toInt = mz) : Met l yX1_poke wsX1_poke ({ frames := 2, cells := 0, slots := 0, locals := 46 }) (wP [.ref b0, .int bv, .int iv, .int mv] D (bW b0 b1 b2 a0 a1 a2 a3 cB cI n L fd fc op tn eb ec) (ty2 cB cI) sz) (wQi ((pkF n L bz iz mz).2) D (bW b0 b1 b2 a0 a1 a2 a3 cB cI n ((pkF n L bz iz mz).1) fd fc op tn eb ec) (va_A (bW b0 b1 b2 a0 a1 a2 a3 cB cI n L fd fc op tn eb ec) sz)) 0 0 (va_A (bW b0 b1 b2 a0 a1 a2 a3 cB cI n L fd fc op tn eb ec) sz) := by
  refine met_wi (by decide) rfl (Nat.le_of_ble_eq_true rfl) ?_
  intro p e s m below meth c hx hb hml hr hlocks hown hts hP hK A hD hA hS ls hl
  have hown : s.vm.findClass RX1 = some m.cls := hown
  have hinX1 : ∀ w ∈ u_ws RX1 TX1 7, w ∈ wsX1_poke := by decide +kernel
  have hinX0 : ∀ w ∈ u_ws RX0 TX0 5, w ∈ wsX1_poke := by decide +kernel
  have hl : lv_has ls 4 [(0, .ref b0), (1, .int bv), (2, .int iv), (3, .int mv)] := hl
  refine lv_aload_n hx hb dX1_poke_0 rfl (lv_at hl 0 rfl) ?_
  refine va_get (D := D) (ci := 2) (v := .ref a0) (C := RX1) (T := TX1) (N := 7) hx hb hts hinX1 hown hK hP 0 rfl rfl 0 (by decide) (hts (.fieldLink RX1 28 "PuzzleBook" "store" "LPuzzleBook$Store;") (by decide +kernel)) (fun _ h9 => h9) rfl dX1_poke_1 ?_
  refine lv_iload_n hx hb dX1_poke_4 rfl (lv_at hl 1 rfl) ?_
  refine lv_iload_n hx hb dX1_poke_5 rfl (lv_at hl 2 rfl) ?_
  refine rd_V (As := [.int bv, .int iv]) (rest := []) ⟨hx, hb, hml, hown, hts⟩ (c_X0_has l D a0 a1 a2 a3 cB cI n L bv iv bz iz hn h1 h2) (cwV 2 hts gX1_poke_X0_has rfl rfl rfl (by decide +kernel) ⟨Nat.le_of_ble_eq_true rfl, Nat.le_of_ble_eq_true rfl⟩) hK hP [3, 4, 5, 6] rfl (ci := 1) rfl rfl (q0 := 3) rfl rfl hl.1 rfl (Nat.le_of_ble_eq_true rfl) dX1_poke_6 ⟨Nat.zero_le _, Nat.zero_le _⟩ (fun r1 hr1 => ?_)
  subst hr1
  by_cases q2 : (0 ≤ bz ∧ bz < (n : Int) ∧ 0 ≤ iz ∧ iz < 64)
  · skip
    refine lv_as (y := nI 1) (congrArg nI (b01_t q2)) ?_
    refine j0_eq (tgt := 24) hx hb (nI_toInt (n := 1) (by decide)) dX1_poke_9 (by decide) (fun c3 => absurd c3 (by omega)) (fun c3 => ?_)
    refine lv_iload_n hx hb dX1_poke_12 rfl (lv_at hl 3 rfl) ?_
    refine lv_iconst (v := nI 1) hx hb dX1_poke_13 (by decide +kernel) ?_
    refine jb_lt (tgt := 24) hx hb h3 (nI_toInt (n := 1) (by decide)) dX1_poke_14 (by decide) (fun c4 => ?_) (fun c4 => ?_)
    · skip
      have e9 : pkF n L bz iz mz = (L, nI 0) := if_neg (by omega)
      rw [e9]
      refine lv_iconst (v := nI 0) hx hb dX1_poke_24 (by decide +kernel) ?_
      exact rt_wz hx hb hr hlocks hP hD hS dX1_poke_25 (by decide +kernel) rfl
    · skip
      refine lv_iload_n hx hb dX1_poke_17 rfl (lv_at hl 3 rfl) ?_
      refine lv_sipush (v := nI 255) hx hb dX1_poke_18 (by decide +kernel) ?_
      refine jb_le (tgt := 26) hx hb h3 (nI_toInt (n := 255) (by decide)) dX1_poke_21 (by decide) (fun c5 => ?_) (fun c5 => ?_)
      · skip
        obtain ⟨jb, hjb⟩ : ∃ j : Nat, bz = (j : Int) := ⟨bz.toNat, by omega⟩
        have ejb : bv = nI jb := Int32.toInt_inj.mp (by rw [h1, hjb, nI_toInt (by omega)])
        have zjb : bz.toNat = jb := by omega
        obtain ⟨ji, hji⟩ : ∃ j : Nat, iz = (j : Int) := ⟨iz.toNat, by omega⟩
        have eji : iv = nI ji := Int32.toInt_inj.mp (by rw [h2, hji, nI_toInt (by omega)])
        have zji : iz.toNat = ji := by omega
        obtain ⟨jm, hjm⟩ : ∃ j : Nat, mz = (j : Int) := ⟨mz.toNat, by omega⟩
        have ejm : mv = nI jm := Int32.toInt_inj.mp (by rw [h3, hjm, nI_toInt (by omega)])
        have zjm : mz.toNat = jm := by omega
        have e9 : pkF n L bz iz mz = (wX L (64 * jb + ji) jm, nI 1) := by rw [← zjb, ← zji, ← zjm]; exact if_pos (by omega)
        rw [e9]
        refine lv_aload_n hx hb dX1_poke_26 rfl (lv_at hl 0 rfl) ?_
        refine va_get (D := D) (ci := 2) (v := .ref a0) (C := RX1) (T := TX1) (N := 7) hx hb hts hinX1 hown hK hP 0 rfl rfl 0 (by decide) (hts (.fieldLink RX1 28 "PuzzleBook" "store" "LPuzzleBook$Store;") (by decide +kernel)) (fun _ h9 => h9) rfl dX1_poke_27 ?_
        refine lv_iload_n hx hb dX1_poke_30 rfl (lv_at hl 1 rfl) ?_
        refine lv_as (y := nI jb) ejb ?_
        refine lv_iload_n hx hb dX1_poke_31 rfl (lv_at hl 2 rfl) ?_
        refine lv_as (y := nI ji) eji ?_
        refine lv_iload_n hx hb dX1_poke_32 rfl (lv_at hl 3 rfl) ?_
        refine lv_as (y := nI jm) ejm ?_
        refine wr_V (wr := [(b0, .inr (2, [.ref a0, .ref b1, .int (nI fc), .int (nI op), .int (nI tn), .ref b2, .int (nI ec)])), (b1, .inl (cI, 48, .inl (aI fd))), (b2, .inl (cI, 40, .inl (aI eb)))]) (wo := (bW b0 b1 b2 a0 a1 a2 a3 cB cI n (wX L (64 * jb + ji) jm) fd fc op tn eb ec)) (As := [.int (nI jb), .int (nI ji), .int (nI jm)]) (rest := []) ⟨hx, hb, hml, hown, hts⟩ (c_X0_alter l D a0 a1 a2 a3 cB cI n L jb ji jm s.heap.size  hn (by omega) (by omega)) (cwV 3 hts gX1_poke_X0_alter rfl rfl rfl (by decide +kernel) ⟨Nat.le_of_ble_eq_true rfl, Nat.le_of_ble_eq_true rfl⟩) hK hP hD hS hA [3, 4, 5, 6] [0, 1, 2] rfl rfl rfl rfl (by decide) [0, 1, 2, 3, 4, 5, 6] rfl rfl (ci := 1) rfl rfl (q0 := 3) rfl rfl hl.1 rfl (Nat.le_of_ble_eq_true rfl) dX1_poke_33 ⟨Nat.zero_le _, Nat.zero_le _⟩ (fun H locs hP hD hS => ?_)
        refine lv_iconst (v := nI 1) hx hb dX1_poke_36 (by decide +kernel) ?_
        exact rt_wz hx hb hr hlocks hP hD hS dX1_poke_37 (by decide +kernel) rfl
      · skip
        have e9 : pkF n L bz iz mz = (L, nI 0) := if_neg (by omega)
        rw [e9]
        refine lv_iconst (v := nI 0) hx hb dX1_poke_24 (by decide +kernel) ?_
        exact rt_wz hx hb hr hlocks hP hD hS dX1_poke_25 (by decide +kernel) rfl
  · skip
    refine lv_as (y := nI 0) (congrArg nI (b01_f q2)) ?_
    refine j0_eq (tgt := 24) hx hb (nI_toInt (n := 0) (by decide)) dX1_poke_9 (by decide) (fun c6 => ?_) (fun c6 => absurd c6 (by omega))
    have e9 : pkF n L bz iz mz = (L, nI 0) := if_neg (by omega)
    rw [e9]
    refine lv_iconst (v := nI 0) hx hb dX1_poke_24 (by decide +kernel) ?_
    exact rt_wz hx hb hr hlocks hP hD hS dX1_poke_25 (by decide +kernel) rfl
end
section
/-! 10: PuzzleBookModel, its own methods (laid by wip/whole/gen/gen_model.py) -/
theorem shf_v {eb : Nat → Nat} {ec z k x : Nat} (hz : z < ec) (hk : k < ec - 1) (hq : (k < z ∧ x = k) ∨ (z ≤ k ∧ x = k + 1)) : eb x = bO (shf eb z (ec - 1 - z)) (ec - 1) k := by
  rw [bO_t hk, shf_at]
  rcases hq with ⟨h, rfl⟩ | ⟨h, rfl⟩
  · rw [if_neg (by omega)]
  · rw [if_pos (by omega)]
set_option maxRecDepth 100000 in
set_option maxHeartbeats 4000000 in
/-- thrown() -/
theorem c_X2_thrown (l : Launch) (D : va_G) (m0 m1 m2 m3 m4 m5 : Nat) (cB cI : ClassId) (n : Nat) (L : Lg) (fd : Nat → Nat) (fc : Nat) (op : Nat) (tn : Nat) (eb : Nat → Nat) (ec : Nat) (th : Nat)   : Met l yX2_thrown wsX2_thrown ({ frames := 0, cells := 0, slots := 0, locals := 0 }) (rP [.ref m0] D (mW m0 m1 m2 m3 m4 m5 cB cI n L fd fc op tn eb ec th) (ty2 cB cI)) (vp_Si (fun r => r = nI th)) 0 0 (fun _ => False) := by
  refine met_r (by decide) rfl (Nat.le_of_ble_eq_true rfl) ?_
  intro p e s m below meth c hx hb hml hr hlocks hown hts hP hK ls hl
  have hown : s.vm.findClass RX2 = some m.cls := hown
  have hinX2 : ∀ w ∈ u_ws RX2 TX2 12, w ∈ wsX2_thrown := by decide +kernel
  have hl : lv_has ls 1 [(0, .ref m0)] := hl
  refine lv_aload_n hx hb dX2_thrown_0 rfl (lv_at hl 0 rfl) ?_
  refine va_get (D := D) (ci := 3) (v := .int (nI th)) (C := RX2) (T := TX2) (N := 12) hx hb hts hinX2 hown hK hP 0 rfl rfl 5 (by decide) (hts (.fieldLink RX2 46 "PuzzleBookModel" "thrown" "I") (by decide +kernel)) (fun _ h9 => h9) rfl dX2_thrown_1 ?_
  exact rt_i hx hb hr hlocks dX2_thrown_4 rfl
set_option maxRecDepth 100000 in
set_option maxHeartbeats 4000000 in
/-- sumOf(b) -/
theorem c_X2_sumOf (l : Launch) (D : va_G) (m0 m1 m2 m3 m4 m5 : Nat) (cB cI : ClassId) (n : Nat) (L : Lg) (fd : Nat → Nat) (fc : Nat) (op : Nat) (tn : Nat) (eb : Nat → Nat) (ec : Nat) (th : Nat) (bk : Nat) (h1 : bk < 64) : Met l yX2_sumOf wsX2_sumOf ({ frames := 0, cells := 0, slots := 0, locals := 0 }) (rP [.ref m0, .int (nI bk)] D (mW m0 m1 m2 m3 m4 m5 cB cI n L fd fc op tn eb ec th) (ty2 cB cI)) (vp_Si (fun r => r = smS L.1 (64 * bk) 60)) 0 0 (fun _ => False) := by
  refine met_r (by decide) rfl (Nat.le_of_ble_eq_true rfl) ?_
  intro p e s m below meth c hx hb hml hr hlocks hown hts hP hK ls hl
  have hown : s.vm.findClass RX2 = some m.cls := hown
  have hinX2 : ∀ w ∈ u_ws RX2 TX2 12, w ∈ wsX2_sumOf := by decide +kernel
  have hl : lv_has ls 4 [(0, .ref m0), (1, .int (nI bk))] := hl
  have loop : ∀ (fu k : Nat) (sv : Int32), k ≤ 60 → 60 - k < fu → sv = smS L.1 (64 * bk) k → ∀ ls : Array Slot, lv_has ls 4 [(3, .int (nI k)), (2, .int sv), (0, .ref m0), (1, .int (nI bk))] → W p l e ({ frames := 0, cells := 0, slots := 0, locals := 0 }) s m [.ref m0, .int (nI bk)].toArray below meth c s.heap [] 0 0 (MQ below (vp_Si (fun r => r = smS L.1 (64 * bk) 60)) [.ref m0, .int (nI bk)].toArray s 0 0 (fun _ => False)) (F0 m 4 ls []) := by
    intro fu
    induction fu with
    | zero => intro k sv hk hf; omega
    | succ fu ih =>
      intro k sv hk hf hs ls hl
      refine lv_iload_n hx hb dX2_sumOf_4 rfl (lv_at hl 0 rfl) ?_
      refine lv_bipush (v := nI 60) hx hb dX2_sumOf_5 (by decide +kernel) ?_
      refine jb_ge (tgt := 45) hx hb (nI_toInt (n := k) (by omega)) (nI_toInt (n := 60) (by decide)) dX2_sumOf_7 (by decide) (fun c1 => ?_) (fun c1 => ?_)
      · skip
        refine lv_iload_n hx hb dX2_sumOf_45 rfl (lv_at hl 1 rfl) ?_
        have hk9 : 60 = k := by omega
        subst hk9
        exact rt_i hx hb hr hlocks dX2_sumOf_46 hs
      · skip
        refine lv_iload_n hx hb dX2_sumOf_10 rfl (lv_at hl 1 rfl) ?_
        refine lv_aload_n hx hb dX2_sumOf_11 rfl (lv_at hl 2 rfl) ?_
        refine va_get (D := D) (ci := 3) (v := .ref m1) (C := RX2) (T := TX2) (N := 12) hx hb hts hinX2 hown hK hP 0 rfl rfl 1 (by decide) (hts (.fieldLink RX2 7 "PuzzleBookModel" "store" "[I") (by decide +kernel)) (fun _ h9 => h9) rfl dX2_sumOf_12 ?_
        refine lv_bipush (v := nI 64) hx hb dX2_sumOf_15 (by decide +kernel) ?_
        refine lv_iload_n hx hb dX2_sumOf_17 rfl (lv_at hl 3 rfl) ?_
        refine lv_imul hx hb dX2_sumOf_18 ?_
        refine lv_as (y := nI (64 * bk)) (pk_mul _ _) ?_
        refine lv_iload_n hx hb dX2_sumOf_19 rfl (lv_at hl 0 rfl) ?_
        refine lv_iadd hx hb dX2_sumOf_20 ?_
        refine lv_as (y := nI ((64 * bk) + k)) (nI_add _ _) ?_
        refine ld_i (f := L.1) (k := (64 * bk) + k) hx hb hK hP 1 1 rfl rfl (by omega) (by decide) dX2_sumOf_21 ?_
        refine lv_ixor hx hb dX2_sumOf_22 ?_
        refine lv_istore_n (lv' := [(2, .int (sv ^^^ nI (L.1 ((64 * bk) + k)))), (3, .int (nI k)), (0, .ref m0), (1, .int (nI bk))]) hx hb dX2_sumOf_23 rfl hl (by decide) rfl (fun ls hl => ?_)
        refine lv_iload_n hx hb dX2_sumOf_24 rfl (lv_at hl 0 rfl) ?_
        refine lv_bipush (v := nI 17) hx hb dX2_sumOf_25 (by decide +kernel) ?_
        refine lv_ishl hx hb dX2_sumOf_27 ?_
        refine lv_iload_n hx hb dX2_sumOf_28 rfl (lv_at hl 0 rfl) ?_
        refine lv_bipush (v := nI 15) hx hb dX2_sumOf_29 (by decide +kernel) ?_
        refine lv_iushr (v := ((sv ^^^ nI (L.1 ((64 * bk) + k))).toUInt32 >>> ((nI 15).toUInt32 &&& Int32.toUInt32 31)).toInt32) hx hb dX2_sumOf_31 rfl ?_
        refine lv_ior hx hb dX2_sumOf_32 ?_
        refine lv_istore_n (lv' := [(2, .int (((sv ^^^ nI (L.1 ((64 * bk) + k))) <<< (nI 17 &&& 31)) ||| (((sv ^^^ nI (L.1 ((64 * bk) + k))).toUInt32 >>> ((nI 15).toUInt32 &&& Int32.toUInt32 31)).toInt32))), (3, .int (nI k)), (0, .ref m0), (1, .int (nI bk))]) hx hb dX2_sumOf_33 rfl hl (by decide) rfl (fun ls hl => ?_)
        refine lv_iload_n hx hb dX2_sumOf_34 rfl (lv_at hl 0 rfl) ?_
        refine lv_ldc (v := (-2048144789)) hx hb hown (hts (.constant RX2 49 (-2048144789)) (by decide +kernel)) dX2_sumOf_35 ?_
        refine lv_imul hx hb dX2_sumOf_37 ?_
        refine lv_istore_n (lv' := [(2, .int ((((sv ^^^ nI (L.1 ((64 * bk) + k))) <<< (nI 17 &&& 31)) ||| (((sv ^^^ nI (L.1 ((64 * bk) + k))).toUInt32 >>> ((nI 15).toUInt32 &&& Int32.toUInt32 31)).toInt32)) * (-2048144789))), (3, .int (nI k)), (0, .ref m0), (1, .int (nI bk))]) hx hb dX2_sumOf_38 rfl hl (by decide) rfl (fun ls hl => ?_)
        refine lv_iinc (v := nI (k + 1)) (lv' := [(3, .int (nI (k + 1))), (2, .int ((((sv ^^^ nI (L.1 ((64 * bk) + k))) <<< (nI 17 &&& 31)) ||| (((sv ^^^ nI (L.1 ((64 * bk) + k))).toUInt32 >>> ((nI 15).toUInt32 &&& Int32.toUInt32 31)).toInt32)) * (-2048144789))), (0, .ref m0), (1, .int (nI bk))]) hx hb dX2_sumOf_39 hl (k := 1) rfl (nI_add _ 1) (by decide) rfl (fun ls hl => ?_)
        refine lv_goto (tgt := 4) hx hb dX2_sumOf_42 (by decide) ?_
        exact ih (k + 1) _ (by omega) (by omega) (by rw [hs]; rfl) ls (lv_sub hl [0, 1, 2, 3] rfl)
  refine lv_iconst (v := nI 1) hx hb dX2_sumOf_0 (by decide +kernel) ?_
  refine lv_istore_n (lv' := [(2, .int (nI 1)), (0, .ref m0), (1, .int (nI bk))]) hx hb dX2_sumOf_1 rfl hl (by decide) rfl (fun ls hl => ?_)
  refine lv_iconst (v := nI 0) hx hb dX2_sumOf_2 (by decide +kernel) ?_
  refine lv_istore_n (lv' := [(3, .int (nI 0)), (2, .int (nI 1)), (0, .ref m0), (1, .int (nI bk))]) hx hb dX2_sumOf_3 rfl hl (by decide) rfl (fun ls hl => ?_)
  exact loop 61 0 _ (by omega) (by omega) rfl ls (lv_sub hl [0, 1, 2, 3] rfl)
set_option maxRecDepth 100000 in
set_option maxHeartbeats 4000000 in
/-- isRight(b) -/
theorem c_X2_isRight (l : Launch) (D : va_G) (m0 m1 m2 m3 m4 m5 : Nat) (cB cI : ClassId) (n : Nat) (L : Lg) (fd : Nat → Nat) (fc : Nat) (op : Nat) (tn : Nat) (eb : Nat → Nat) (ec : Nat) (th : Nat) (bk : Nat) (hg : ∀ j, L.1 j < 256) (h1 : bk < 64) : Met l yX2_isRight wsX2_isRight ({ frames := 1, cells := 0, slots := 0, locals := 23 }) (rP [.ref m0, .int (nI bk)] D (mW m0 m1 m2 m3 m4 m5 cB cI n L fd fc op tn eb ec th) (ty2 cB cI)) (vp_Si (fun r => r = nI (b01 (okS L.1 (64 * bk))))) 0 0 (fun _ => False) := by
  refine met_r (by decide) rfl (Nat.le_of_ble_eq_true rfl) ?_
  intro p e s m below meth c hx hb hml hr hlocks hown hts hP hK ls hl
  have hown : s.vm.findClass RX2 = some m.cls := hown
  have hinX2 : ∀ w ∈ u_ws RX2 TX2 12, w ∈ wsX2_isRight := by decide +kernel
  have hl : lv_has ls 4 [(0, .ref m0), (1, .int (nI bk))] := hl
  have loop : ∀ (fu k : Nat), k ≤ 4 → 4 - k < fu → (∀ j, j < k → L.1 (64 * bk + 60 + j) = (sby (smS L.1 (64 * bk) 60)) j) → ∀ ls : Array Slot, lv_has ls 4 [(3, .int (nI k)), (2, .int (smS L.1 (64 * bk) 60)), (0, .ref m0), (1, .int (nI bk))] → W p l e ({ frames := 1, cells := 0, slots := 0, locals := 23 }) s m [.ref m0, .int (nI bk)].toArray below meth c s.heap [] 0 0 (MQ below (vp_Si (fun r => r = nI (b01 (okS L.1 (64 * bk))))) [.ref m0, .int (nI bk)].toArray s 0 0 (fun _ => False)) (F0 m 8 ls []) := by
    intro fu
    induction fu with
    | zero => intro k hk hf; omega
    | succ fu ih =>
      intro k hk hf hi ls hl
      refine lv_iload_n hx hb dX2_isRight_8 rfl (lv_at hl 0 rfl) ?_
      refine lv_iconst (v := nI 4) hx hb dX2_isRight_9 (by decide +kernel) ?_
      refine jb_ge (tgt := 48) hx hb (nI_toInt (n := k) (by omega)) (nI_toInt (n := 4) (by decide)) dX2_isRight_10 (by decide) (fun c1 => ?_) (fun c1 => ?_)
      · skip
        refine lv_iconst (v := nI 1) hx hb dX2_isRight_48 (by decide +kernel) ?_
        have hk9 : 4 = k := by omega
        subst hk9
        exact rt_z hx hb hr hlocks dX2_isRight_49 (by decide +kernel) (by rw [b01_t (show okS L.1 (64 * bk) from hi)])
      · skip
        have g9 := hg (64 * bk + 60 + k)
        have s9 := sby_lt (smS L.1 (64 * bk) 60) k
        refine lv_aload_n hx hb dX2_isRight_13 rfl (lv_at hl 2 rfl) ?_
        refine va_get (D := D) (ci := 3) (v := .ref m1) (C := RX2) (T := TX2) (N := 12) hx hb hts hinX2 hown hK hP 0 rfl rfl 1 (by decide) (hts (.fieldLink RX2 7 "PuzzleBookModel" "store" "[I") (by decide +kernel)) (fun _ h9 => h9) rfl dX2_isRight_14 ?_
        refine lv_bipush (v := nI 64) hx hb dX2_isRight_17 (by decide +kernel) ?_
        refine lv_iload_n hx hb dX2_isRight_19 rfl (lv_at hl 3 rfl) ?_
        refine lv_imul hx hb dX2_isRight_20 ?_
        refine lv_as (y := nI (64 * bk)) (pk_mul _ _) ?_
        refine lv_bipush (v := nI 60) hx hb dX2_isRight_21 (by decide +kernel) ?_
        refine lv_iadd hx hb dX2_isRight_23 ?_
        refine lv_as (y := nI ((64 * bk) + 60)) (nI_add _ _) ?_
        refine lv_iload_n hx hb dX2_isRight_24 rfl (lv_at hl 0 rfl) ?_
        refine lv_iadd hx hb dX2_isRight_25 ?_
        refine lv_as (y := nI (((64 * bk) + 60) + k)) (nI_add _ _) ?_
        refine ld_i (f := L.1) (k := ((64 * bk) + 60) + k) hx hb hK hP 1 1 rfl rfl (by omega) (by decide) dX2_isRight_26 ?_
        refine lv_iload_n hx hb dX2_isRight_27 rfl (lv_at hl 1 rfl) ?_
        refine lv_bipush (v := nI 8) hx hb dX2_isRight_28 (by decide +kernel) ?_
        refine lv_iload_n hx hb dX2_isRight_30 rfl (lv_at hl 0 rfl) ?_
        refine lv_imul hx hb dX2_isRight_31 ?_
        refine lv_as (y := nI (8 * k)) (pk_mul _ _) ?_
        refine lv_iushr (v := ((smS L.1 (64 * bk) 60).toUInt32 >>> ((nI (8 * k)).toUInt32 &&& Int32.toUInt32 31)).toInt32) hx hb dX2_isRight_32 rfl ?_
        refine lv_sipush (v := nI 255) hx hb dX2_isRight_33 (by decide +kernel) ?_
        refine lv_iand hx hb dX2_isRight_36 ?_
        refine lv_as (y := nI ((sby (smS L.1 (64 * bk) 60)) k)) (sby_and _ k (by omega)) ?_
        refine jb_eq (tgt := 42) hx hb (nI_toInt (n := L.1 (((64 * bk) + 60) + k)) (by omega)) (nI_toInt (n := (sby (smS L.1 (64 * bk) 60)) k) (by omega)) dX2_isRight_37 (by decide) (fun c2 => ?_) (fun c2 => ?_)
        · skip
          refine lv_iinc (v := nI (k + 1)) (lv' := [(3, .int (nI (k + 1))), (2, .int (smS L.1 (64 * bk) 60)), (0, .ref m0), (1, .int (nI bk))]) hx hb dX2_isRight_42 hl (k := 0) rfl (nI_add _ 1) (by decide) rfl (fun ls hl => ?_)
          refine lv_goto (tgt := 8) hx hb dX2_isRight_45 (by decide) ?_
          exact ih (k + 1) (by omega) (by omega) (fun j hj => (Nat.lt_or_eq_of_le (Nat.le_of_lt_succ hj)).elim (hi j) (fun q => by rw [q]; exact Int.ofNat_inj.mp c2)) ls (lv_sub hl [0, 1, 2, 3] rfl)
        · skip
          refine lv_iconst (v := nI 0) hx hb dX2_isRight_40 (by decide +kernel) ?_
          exact rt_z hx hb hr hlocks dX2_isRight_41 (by decide +kernel) (by rw [b01_f (fun h => c2 (by rw [h k (by omega)]))])
  refine lv_aload_n hx hb dX2_isRight_0 rfl (lv_at hl 0 rfl) ?_
  refine lv_iload_n hx hb dX2_isRight_1 rfl (lv_at hl 1 rfl) ?_
  refine rd_V (As := [.int (nI bk)]) (rest := []) ⟨hx, hb, hml, hown, hts⟩ (c_X2_sumOf l D m0 m1 m2 m3 m4 m5 cB cI n L fd fc op tn eb ec th bk h1) (cwV 1 hts gX2_isRight_X2_sumOf rfl rfl rfl (by decide +kernel) ⟨Nat.le_of_ble_eq_true rfl, Nat.le_of_ble_eq_true rfl⟩) hK hP [0, 1, 2, 3, 4, 5] rfl (ci := 3) rfl rfl (q0 := 0) rfl rfl hl.1 rfl (Nat.le_of_ble_eq_true rfl) dX2_isRight_2 ⟨Nat.zero_le _, Nat.zero_le _⟩ (fun r3 hr3 => ?_)
  subst hr3
  refine lv_istore_n (lv' := [(2, .int (smS L.1 (64 * bk) 60)), (0, .ref m0), (1, .int (nI bk))]) hx hb dX2_isRight_5 rfl hl (by decide) rfl (fun ls hl => ?_)
  refine lv_iconst (v := nI 0) hx hb dX2_isRight_6 (by decide +kernel) ?_
  refine lv_istore_n (lv' := [(3, .int (nI 0)), (2, .int (smS L.1 (64 * bk) 60)), (0, .ref m0), (1, .int (nI bk))]) hx hb dX2_isRight_7 rfl hl (by decide) rfl (fun ls hl => ?_)
  exact loop 5 0 (by omega) (by omega) (fun j hj => absurd hj (Nat.not_lt_zero j)) ls (lv_sub hl [0, 1, 2, 3] rfl)
set_option maxRecDepth 100000 in
set_option maxHeartbeats 4000000 in
/-- write(place, b) -/
theorem c_X2_write (l : Launch) (D : va_G) (m0 m1 m2 m3 m4 m5 : Nat) (cB cI : ClassId) (n : Nat) (L : Lg) (fd : Nat → Nat) (fc : Nat) (op : Nat) (tn : Nat) (eb : Nat → Nat) (ec : Nat) (th : Nat) (pl x : Nat) (sz : Nat) (h1 : pl < 4096) (hw : L.2.2.2 < 129) : Met l yX2_write wsX2_write ({ frames := 0, cells := 0, slots := 0, locals := 0 }) (wP [.ref m0, .int (nI pl), .int (nI x)] D (mW m0 m1 m2 m3 m4 m5 cB cI n L fd fc op tn eb ec th) (ty2 cB cI) sz) (wQv D (mW m0 m1 m2 m3 m4 m5 cB cI n (w1 L pl x) fd fc op tn eb ec th) (va_A (mW m0 m1 m2 m3 m4 m5 cB cI n L fd fc op tn eb ec th) sz)) 0 0 (va_A (mW m0 m1 m2 m3 m4 m5 cB cI n L fd fc op tn eb ec th) sz) := by
  refine met_w (by decide) rfl (Nat.le_of_ble_eq_true rfl) ?_
  intro p e s m below meth c hx hb hml hr hlocks hown hts hP hK A hD hA hS ls hl
  have hown : s.vm.findClass RX2 = some m.cls := hown
  have hinX2 : ∀ w ∈ u_ws RX2 TX2 12, w ∈ wsX2_write := by decide +kernel
  have hl : lv_has ls 3 [(0, .ref m0), (1, .int (nI pl)), (2, .int (nI x))] := hl
  refine lv_aload_n hx hb dX2_write_0 rfl (lv_at hl 0 rfl) ?_
  refine va_get (D := D) (ci := 3) (v := .ref m4) (C := RX2) (T := TX2) (N := 12) hx hb hts hinX2 hown hK hP 0 rfl rfl 9 (by decide) (hts (.fieldLink RX2 19 "PuzzleBookModel" "where" "[I") (by decide +kernel)) (fun _ h9 => h9) rfl dX2_write_1 ?_
  refine lv_aload_n hx hb dX2_write_4 rfl (lv_at hl 0 rfl) ?_
  refine va_get (D := D) (ci := 3) (v := .int (nI L.2.2.2)) (C := RX2) (T := TX2) (N := 12) hx hb hts hinX2 hown hK hP 0 rfl rfl 11 (by decide) (hts (.fieldLink RX2 43 "PuzzleBookModel" "written" "I") (by decide +kernel)) (fun _ h9 => h9) rfl dX2_write_5 ?_
  refine lv_iload_n hx hb dX2_write_8 rfl (lv_at hl 1 rfl) ?_
  refine st_i (f := L.2.1) (k := L.2.2.2) (x := pl) hx hb hK hP hD hS 4 1 rfl rfl (by omega) (by decide) dX2_write_9 (fun H locs hP hD hS => ?_)
  have hP : va_P D vwCl (mW m0 m1 m2 m3 m4 m5 cB cI n (L.1, va_up L.2.1 L.2.2.2 pl, L.2.2.1, L.2.2.2) fd fc op tn eb ec th) H := hP
  have hD : va_D A (mW m0 m1 m2 m3 m4 m5 cB cI n (L.1, va_up L.2.1 L.2.2.2 pl, L.2.2.1, L.2.2.2) fd fc op tn eb ec th) := hD
  refine lv_aload_n hx hb dX2_write_10 rfl (lv_at hl 0 rfl) ?_
  refine va_get (D := D) (ci := 3) (v := .ref m5) (C := RX2) (T := TX2) (N := 12) hx hb hts hinX2 hown hK hP 0 rfl rfl 10 (by decide) (hts (.fieldLink RX2 22 "PuzzleBookModel" "before" "[I") (by decide +kernel)) (fun _ h9 => h9) rfl dX2_write_11 ?_
  refine lv_aload_n hx hb dX2_write_14 rfl (lv_at hl 0 rfl) ?_
  refine va_get (D := D) (ci := 3) (v := .int (nI L.2.2.2)) (C := RX2) (T := TX2) (N := 12) hx hb hts hinX2 hown hK hP 0 rfl rfl 11 (by decide) (hts (.fieldLink RX2 43 "PuzzleBookModel" "written" "I") (by decide +kernel)) (fun _ h9 => h9) rfl dX2_write_15 ?_
  refine lv_aload_n hx hb dX2_write_18 rfl (lv_at hl 0 rfl) ?_
  refine va_get (D := D) (ci := 3) (v := .ref m1) (C := RX2) (T := TX2) (N := 12) hx hb hts hinX2 hown hK hP 0 rfl rfl 1 (by decide) (hts (.fieldLink RX2 7 "PuzzleBookModel" "store" "[I") (by decide +kernel)) (fun _ h9 => h9) rfl dX2_write_19 ?_
  refine lv_iload_n hx hb dX2_write_22 rfl (lv_at hl 1 rfl) ?_
  refine ld_i (f := L.1) (k := pl) hx hb hK hP 1 1 rfl rfl (by omega) (by decide) dX2_write_23 ?_
  refine st_i (f := L.2.2.1) (k := L.2.2.2) (x := L.1 pl) hx hb hK hP hD hS 5 1 rfl rfl (by omega) (by decide) dX2_write_24 (fun H locs hP hD hS => ?_)
  have hP : va_P D vwCl (mW m0 m1 m2 m3 m4 m5 cB cI n (L.1, va_up L.2.1 L.2.2.2 pl, va_up L.2.2.1 L.2.2.2 (L.1 pl), L.2.2.2) fd fc op tn eb ec th) H := hP
  have hD : va_D A (mW m0 m1 m2 m3 m4 m5 cB cI n (L.1, va_up L.2.1 L.2.2.2 pl, va_up L.2.2.1 L.2.2.2 (L.1 pl), L.2.2.2) fd fc op tn eb ec th) := hD
  refine lv_aload_n hx hb dX2_write_25 rfl (lv_at hl 0 rfl) ?_
  refine va_get (D := D) (ci := 3) (v := .ref m1) (C := RX2) (T := TX2) (N := 12) hx hb hts hinX2 hown hK hP 0 rfl rfl 1 (by decide) (hts (.fieldLink RX2 7 "PuzzleBookModel" "store" "[I") (by decide +kernel)) (fun _ h9 => h9) rfl dX2_write_26 ?_
  refine lv_iload_n hx hb dX2_write_29 rfl (lv_at hl 1 rfl) ?_
  refine lv_iload_n hx hb dX2_write_30 rfl (lv_at hl 2 rfl) ?_
  refine st_i (f := L.1) (k := pl) (x := x) hx hb hK hP hD hS 1 1 rfl rfl (by omega) (by decide) dX2_write_31 (fun H locs hP hD hS => ?_)
  have hP : va_P D vwCl (mW m0 m1 m2 m3 m4 m5 cB cI n (va_up L.1 pl x, va_up L.2.1 L.2.2.2 pl, va_up L.2.2.1 L.2.2.2 (L.1 pl), L.2.2.2) fd fc op tn eb ec th) H := hP
  have hD : va_D A (mW m0 m1 m2 m3 m4 m5 cB cI n (va_up L.1 pl x, va_up L.2.1 L.2.2.2 pl, va_up L.2.2.1 L.2.2.2 (L.1 pl), L.2.2.2) fd fc op tn eb ec th) := hD
  refine lv_aload_n hx hb dX2_write_32 rfl (lv_at hl 0 rfl) ?_
  refine lv_dup hx hb dX2_write_33 rfl ?_
  refine va_get (D := D) (ci := 3) (v := .int (nI L.2.2.2)) (C := RX2) (T := TX2) (N := 12) hx hb hts hinX2 hown hK hP 0 rfl rfl 11 (by decide) (hts (.fieldLink RX2 43 "PuzzleBookModel" "written" "I") (by decide +kernel)) (fun _ h9 => h9) rfl dX2_write_34 ?_
  refine lv_iconst (v := nI 1) hx hb dX2_write_37 (by decide +kernel) ?_
  refine lv_iadd hx hb dX2_write_38 ?_
  refine lv_as (y := nI (L.2.2.2 + 1)) (nI_add _ _) ?_
  refine va_put (D := D) (ci := 3) (v := .int (nI (L.2.2.2 + 1))) (ty := .int) (C := RX2) (T := TX2) (N := 12) hx hb hts hinX2 tyX2 tyX2_ok nmX2 hown hK hP hD hS 0 rfl rfl 11 (by decide) (hts (.fieldLink RX2 43 "PuzzleBookModel" "written" "I") (by decide +kernel)) (fun _ h9 => h9) rfl (by decide +kernel) rfl rfl (Nat.le_of_ble_eq_true rfl) dX2_write_39 (fun H locs hP hD hS => ?_)
  have hP : va_P D vwCl (mW m0 m1 m2 m3 m4 m5 cB cI n (va_up L.1 pl x, va_up L.2.1 L.2.2.2 pl, va_up L.2.2.1 L.2.2.2 (L.1 pl), L.2.2.2 + 1) fd fc op tn eb ec th) H := hP
  have hD : va_D A (mW m0 m1 m2 m3 m4 m5 cB cI n (va_up L.1 pl x, va_up L.2.1 L.2.2.2 pl, va_up L.2.2.1 L.2.2.2 (L.1 pl), L.2.2.2 + 1) fd fc op tn eb ec th) := hD
  exact rt_v hx hb hr hlocks hP hD hS dX2_write_42
set_option maxRecDepth 100000 in
set_option maxHeartbeats 4000000 in
/-- writeSum(b) -/
theorem c_X2_writeSum (l : Launch) (D : va_G) (m0 m1 m2 m3 m4 m5 : Nat) (cB cI : ClassId) (n : Nat) (L : Lg) (fd : Nat → Nat) (fc : Nat) (op : Nat) (tn : Nat) (eb : Nat → Nat) (ec : Nat) (th : Nat) (bk : Nat) (sz : Nat) (h1 : bk < 64) (hw : L.2.2.2 + 4 ≤ 129) : Met l yX2_writeSum wsX2_writeSum ({ frames := 1, cells := 0, slots := 0, locals := 23 }) (wP [.ref m0, .int (nI bk)] D (mW m0 m1 m2 m3 m4 m5 cB cI n L fd fc op tn eb ec th) (ty2 cB cI) sz) (wQv D (mW m0 m1 m2 m3 m4 m5 cB cI n (wS L (64 * bk)) fd fc op tn eb ec th) (va_A (mW m0 m1 m2 m3 m4 m5 cB cI n L fd fc op tn eb ec th) sz)) 0 0 (va_A (mW m0 m1 m2 m3 m4 m5 cB cI n L fd fc op tn eb ec th) sz) := by
  refine met_w (by decide) rfl (Nat.le_of_ble_eq_true rfl) ?_
  intro p e s m below meth c hx hb hml hr hlocks hown hts hP hK A hD hA hS ls hl
  have hown : s.vm.findClass RX2 = some m.cls := hown
  have hinX2 : ∀ w ∈ u_ws RX2 TX2 12, w ∈ wsX2_writeSum := by decide +kernel
  have hl : lv_has ls 4 [(0, .ref m0), (1, .int (nI bk))] := hl
  have loop : ∀ (fu k : Nat), k ≤ 4 → 4 - k < fu → ∀ (H : Heap) (locs : List Loc), va_P D vwCl (mW m0 m1 m2 m3 m4 m5 cB cI n (wN L (64 * bk + 60) (sby (smS L.1 (64 * bk) 60)) k) fd fc op tn eb ec th) H → va_D A (mW m0 m1 m2 m3 m4 m5 cB cI n (wN L (64 * bk + 60) (sby (smS L.1 (64 * bk) 60)) k) fd fc op tn eb ec th) → va_S A s.heap H locs → ∀ ls : Array Slot, lv_has ls 4 [(3, .int (nI k)), (2, .int (smS L.1 (64 * bk) 60)), (0, .ref m0), (1, .int (nI bk))] → W p l e ({ frames := 1, cells := 0, slots := 0, locals := 23 }) s m [.ref m0, .int (nI bk)].toArray below meth c H locs 0 0 (MQ below (wQv D (mW m0 m1 m2 m3 m4 m5 cB cI n (wS L (64 * bk)) fd fc op tn eb ec th) A) [.ref m0, .int (nI bk)].toArray s 0 0 A) (F0 m 8 ls []) := by
    intro fu
    induction fu with
    | zero => intro k hk hf; omega
    | succ fu ih =>
      intro k hk hf H locs hP hD hS ls hl
      refine lv_iload_n hx hb dX2_writeSum_8 rfl (lv_at hl 0 rfl) ?_
      refine lv_iconst (v := nI 4) hx hb dX2_writeSum_9 (by decide +kernel) ?_
      refine jb_ge (tgt := 42) hx hb (nI_toInt (n := k) (by omega)) (nI_toInt (n := 4) (by decide)) dX2_writeSum_10 (by decide) (fun c1 => ?_) (fun c1 => ?_)
      · skip
        have hk9 : 4 = k := by omega
        subst hk9
        exact rt_v hx hb hr hlocks hP hD hS dX2_writeSum_42
      · skip
        refine lv_aload_n hx hb dX2_writeSum_13 rfl (lv_at hl 2 rfl) ?_
        refine lv_bipush (v := nI 64) hx hb dX2_writeSum_14 (by decide +kernel) ?_
        refine lv_iload_n hx hb dX2_writeSum_16 rfl (lv_at hl 3 rfl) ?_
        refine lv_imul hx hb dX2_writeSum_17 ?_
        refine lv_as (y := nI (64 * bk)) (pk_mul _ _) ?_
        refine lv_bipush (v := nI 60) hx hb dX2_writeSum_18 (by decide +kernel) ?_
        refine lv_iadd hx hb dX2_writeSum_20 ?_
        refine lv_as (y := nI ((64 * bk) + 60)) (nI_add _ _) ?_
        refine lv_iload_n hx hb dX2_writeSum_21 rfl (lv_at hl 0 rfl) ?_
        refine lv_iadd hx hb dX2_writeSum_22 ?_
        refine lv_as (y := nI (((64 * bk) + 60) + k)) (nI_add _ _) ?_
        refine lv_iload_n hx hb dX2_writeSum_23 rfl (lv_at hl 1 rfl) ?_
        refine lv_bipush (v := nI 8) hx hb dX2_writeSum_24 (by decide +kernel) ?_
        refine lv_iload_n hx hb dX2_writeSum_26 rfl (lv_at hl 0 rfl) ?_
        refine lv_imul hx hb dX2_writeSum_27 ?_
        refine lv_as (y := nI (8 * k)) (pk_mul _ _) ?_
        refine lv_iushr (v := ((smS L.1 (64 * bk) 60).toUInt32 >>> ((nI (8 * k)).toUInt32 &&& Int32.toUInt32 31)).toInt32) hx hb dX2_writeSum_28 rfl ?_
        refine lv_sipush (v := nI 255) hx hb dX2_writeSum_29 (by decide +kernel) ?_
        refine lv_iand hx hb dX2_writeSum_32 ?_
        refine lv_as (y := nI ((sby (smS L.1 (64 * bk) 60)) k)) (sby_and _ k (by omega)) ?_
        refine wr_V (wr := []) (wo := (mW m0 m1 m2 m3 m4 m5 cB cI n (w1 (wN L (64 * bk + 60) (sby (smS L.1 (64 * bk) 60)) k) (((64 * bk) + 60) + k) ((sby (smS L.1 (64 * bk) 60)) k)) fd fc op tn eb ec th)) (As := [.int (nI (((64 * bk) + 60) + k)), .int (nI ((sby (smS L.1 (64 * bk) 60)) k))]) (rest := []) ⟨hx, hb, hml, hown, hts⟩ (c_X2_write l D m0 m1 m2 m3 m4 m5 cB cI n (wN L (64 * bk + 60) (sby (smS L.1 (64 * bk) 60)) k) fd fc op tn eb ec th (((64 * bk) + 60) + k) ((sby (smS L.1 (64 * bk) 60)) k) H.size  (by omega) (by rw [wN_c]; omega)) (cwV 2 hts gX2_writeSum_X2_write rfl rfl rfl (by decide +kernel) ⟨Nat.le_of_ble_eq_true rfl, Nat.le_of_ble_eq_true rfl⟩) hK hP hD hS hA [0, 1, 2, 3, 4, 5] [] rfl rfl rfl rfl (by decide) [0, 1, 2, 3, 4, 5] rfl rfl (ci := 3) rfl rfl (q0 := 0) rfl rfl hl.1 rfl (Nat.le_of_ble_eq_true rfl) dX2_writeSum_33 ⟨Nat.zero_le _, Nat.zero_le _⟩ (fun H locs hP hD hS => ?_)
        refine lv_iinc (v := nI (k + 1)) (lv' := [(3, .int (nI (k + 1))), (2, .int (smS L.1 (64 * bk) 60)), (0, .ref m0), (1, .int (nI bk))]) hx hb dX2_writeSum_36 hl (k := 0) rfl (nI_add _ 1) (by decide) rfl (fun ls hl => ?_)
        refine lv_goto (tgt := 8) hx hb dX2_writeSum_39 (by decide) ?_
        exact ih (k + 1) (by omega) (by omega) H locs hP hD hS ls (lv_sub hl [0, 1, 2, 3] rfl)
  refine lv_aload_n hx hb dX2_writeSum_0 rfl (lv_at hl 0 rfl) ?_
  refine lv_iload_n hx hb dX2_writeSum_1 rfl (lv_at hl 1 rfl) ?_
  refine rd_V (As := [.int (nI bk)]) (rest := []) ⟨hx, hb, hml, hown, hts⟩ (c_X2_sumOf l D m0 m1 m2 m3 m4 m5 cB cI n L fd fc op tn eb ec th bk h1) (cwV 1 hts gX2_writeSum_X2_sumOf rfl rfl rfl (by decide +kernel) ⟨Nat.le_of_ble_eq_true rfl, Nat.le_of_ble_eq_true rfl⟩) hK hP [0, 1, 2, 3, 4, 5] rfl (ci := 3) rfl rfl (q0 := 0) rfl rfl hl.1 rfl (Nat.le_of_ble_eq_true rfl) dX2_writeSum_2 ⟨Nat.zero_le _, Nat.zero_le _⟩ (fun r2 hr2 => ?_)
  subst hr2
  refine lv_istore_n (lv' := [(2, .int (smS L.1 (64 * bk) 60)), (0, .ref m0), (1, .int (nI bk))]) hx hb dX2_writeSum_5 rfl hl (by decide) rfl (fun ls hl => ?_)
  refine lv_iconst (v := nI 0) hx hb dX2_writeSum_6 (by decide +kernel) ?_
  refine lv_istore_n (lv' := [(3, .int (nI 0)), (2, .int (smS L.1 (64 * bk) 60)), (0, .ref m0), (1, .int (nI bk))]) hx hb dX2_writeSum_7 rfl hl (by decide) rfl (fun ls hl => ?_)
  exact loop 5 0 (by omega) (by omega) s.heap [] hP hD hS ls (lv_sub hl [0, 1, 2, 3] rfl)
set_option maxRecDepth 100000 in
set_option maxHeartbeats 4000000 in
/-- writeRoot(b, -1) -/
theorem c_X2_writeRoot (l : Launch) (D : va_G) (m0 m1 m2 m3 m4 m5 : Nat) (cB cI : ClassId) (n : Nat) (L : Lg) (fd : Nat → Nat) (fc : Nat) (op : Nat) (tn : Nat) (eb : Nat → Nat) (ec : Nat) (th : Nat) (bk : Nat) (sz : Nat) (he : ec ≤ 40) (h1 : bk < 64) (hw : L.2.2.2 + 64 ≤ 129) : Met l yX2_writeRoot wsX2_writeRoot ({ frames := 2, cells := 0, slots := 0, locals := 46 }) (wP [.ref m0, .int (nI bk), .int (-1)] D (mW m0 m1 m2 m3 m4 m5 cB cI n L fd fc op tn eb ec th) (ty2 cB cI) sz) (wQv D (mW m0 m1 m2 m3 m4 m5 cB cI n (wR L bk ec (bO eb ec)) fd fc op tn eb ec th) (va_A (mW m0 m1 m2 m3 m4 m5 cB cI n L fd fc op tn eb ec th) sz)) 0 0 (va_A (mW m0 m1 m2 m3 m4 m5 cB cI n L fd fc op tn eb ec th) sz) := by
  refine met_w (by decide) rfl (Nat.le_of_ble_eq_true rfl) ?_
  intro p e s m below meth c hx hb hml hr hlocks hown hts hP hK A hD hA hS ls hl
  have hown : s.vm.findClass RX2 = some m.cls := hown
  have hinX2 : ∀ w ∈ u_ws RX2 TX2 12, w ∈ wsX2_writeRoot := by decide +kernel
  have hl : lv_has ls 6 [(0, .ref m0), (1, .int (nI bk)), (2, .int (-1))] := hl
  have loop : ∀ (fu k : Nat), k ≤ 59 → 59 - k < fu → ∀ (H : Heap) (locs : List Loc), va_P D vwCl (mW m0 m1 m2 m3 m4 m5 cB cI n (wN (w1 L (64 * bk + 0) ec) (64 * bk + 1) (bO eb ec) k) fd fc op tn eb ec th) H → va_D A (mW m0 m1 m2 m3 m4 m5 cB cI n (wN (w1 L (64 * bk + 0) ec) (64 * bk + 1) (bO eb ec) k) fd fc op tn eb ec th) → va_S A s.heap H locs → ∀ ls : Array Slot, lv_has ls 6 [(5, .int (nI (1 + k))), (4, .int (nI k)), (3, .int (nI ec)), (0, .ref m0), (1, .int (nI bk)), (2, .int (-1))] → W p l e ({ frames := 2, cells := 0, slots := 0, locals := 46 }) s m [.ref m0, .int (nI bk), .int (-1)].toArray below meth c H locs 0 0 (MQ below (wQv D (mW m0 m1 m2 m3 m4 m5 cB cI n (wR L bk ec (bO eb ec)) fd fc op tn eb ec th) A) [.ref m0, .int (nI bk), .int (-1)].toArray s 0 0 A) (F0 m 33 ls []) := by
    intro fu
    induction fu with
    | zero => intro k hk hf; omega
    | succ fu ih =>
      intro k hk hfu H locs hP hD hS ls hl
      refine lv_iload hx hb dX2_writeRoot_33 (lv_at hl 0 rfl) ?_
      refine lv_bipush (v := nI 60) hx hb dX2_writeRoot_35 (by decide +kernel) ?_
      refine jb_ge (tgt := 86) hx hb (nI_toInt (n := 1 + k) (by omega)) (nI_toInt (n := 60) (by decide)) dX2_writeRoot_37 (by decide) (fun c1 => ?_) (fun c1 => ?_)
      · skip
        have hk9 : 59 = k := by omega
        subst hk9
        refine lv_aload_n hx hb dX2_writeRoot_86 rfl (lv_at hl 3 rfl) ?_
        refine lv_iload_n hx hb dX2_writeRoot_87 rfl (lv_at hl 4 rfl) ?_
        refine wr_V (wr := []) (wo := (mW m0 m1 m2 m3 m4 m5 cB cI n (wS (wN (w1 L (64 * bk + 0) ec) (64 * bk + 1) (bO eb ec) 59) (64 * bk)) fd fc op tn eb ec th)) (As := [.int (nI bk)]) (rest := []) ⟨hx, hb, hml, hown, hts⟩ (c_X2_writeSum l D m0 m1 m2 m3 m4 m5 cB cI n (wN (w1 L (64 * bk + 0) ec) (64 * bk + 1) (bO eb ec) 59) fd fc op tn eb ec th bk H.size  h1 (by simp only [wN_c, w1_c]; omega)) (cwV 1 hts gX2_writeRoot_X2_writeSum rfl rfl rfl (by decide +kernel) ⟨Nat.le_of_ble_eq_true rfl, Nat.le_of_ble_eq_true rfl⟩) hK hP hD hS hA [0, 1, 2, 3, 4, 5] [] rfl rfl rfl rfl (by decide) [0, 1, 2, 3, 4, 5] rfl rfl (ci := 3) rfl rfl (q0 := 0) rfl rfl hl.1 rfl (Nat.le_of_ble_eq_true rfl) dX2_writeRoot_88 ⟨Nat.zero_le _, Nat.zero_le _⟩ (fun H locs hP hD hS => ?_)
        exact rt_v hx hb hr hlocks hP hD hS dX2_writeRoot_91
      · skip
        refine lv_iload hx hb dX2_writeRoot_40 (lv_at hl 1 rfl) ?_
        refine lv_iload_n hx hb dX2_writeRoot_42 rfl (lv_at hl 5 rfl) ?_
        refine jb_ne (tgt := 49) hx hb (nI_toInt (n := k) (by omega)) neg1_toInt dX2_writeRoot_43 (by decide) (fun c2 => ?_) (fun c2 => absurd c2 (by omega))
        refine lv_aload_n hx hb dX2_writeRoot_49 rfl (lv_at hl 3 rfl) ?_
        refine lv_bipush (v := nI 64) hx hb dX2_writeRoot_50 (by decide +kernel) ?_
        refine lv_iload_n hx hb dX2_writeRoot_52 rfl (lv_at hl 4 rfl) ?_
        refine lv_imul hx hb dX2_writeRoot_53 ?_
        refine lv_as (y := nI (64 * bk)) (pk_mul _ _) ?_
        refine lv_iload hx hb dX2_writeRoot_54 (lv_at hl 0 rfl) ?_
        refine lv_iadd hx hb dX2_writeRoot_56 ?_
        refine lv_as (y := nI ((64 * bk) + (1 + k))) (nI_add _ _) ?_
        refine lv_iload hx hb dX2_writeRoot_57 (lv_at hl 0 rfl) ?_
        refine lv_iload_n hx hb dX2_writeRoot_59 rfl (lv_at hl 2 rfl) ?_
        refine jb_gt (tgt := 73) hx hb (nI_toInt (n := 1 + k) (by omega)) (nI_toInt (n := ec) (by omega)) dX2_writeRoot_60 (by decide) (fun c3 => ?_) (fun c3 => ?_)
        · skip
          refine lv_iconst (v := nI 0) hx hb dX2_writeRoot_73 (by decide +kernel) ?_
          refine lv_as (y := nI (bO eb ec k)) (congrArg nI (bO_f (by omega)).symm) ?_
          refine wr_V (wr := []) (wo := (mW m0 m1 m2 m3 m4 m5 cB cI n (w1 (wN (w1 L (64 * bk + 0) ec) (64 * bk + 1) (bO eb ec) k) ((64 * bk) + (1 + k)) (bO eb ec k)) fd fc op tn eb ec th)) (As := [.int (nI ((64 * bk) + (1 + k))), .int (nI (bO eb ec k))]) (rest := []) ⟨hx, hb, hml, hown, hts⟩ (c_X2_write l D m0 m1 m2 m3 m4 m5 cB cI n (wN (w1 L (64 * bk + 0) ec) (64 * bk + 1) (bO eb ec) k) fd fc op tn eb ec th ((64 * bk) + (1 + k)) (bO eb ec k) H.size  (by omega) (by simp only [wN_c, w1_c]; omega)) (cwV 2 hts gX2_writeRoot_X2_write rfl rfl rfl (by decide +kernel) ⟨Nat.le_of_ble_eq_true rfl, Nat.le_of_ble_eq_true rfl⟩) hK hP hD hS hA [0, 1, 2, 3, 4, 5] [] rfl rfl rfl rfl (by decide) [0, 1, 2, 3, 4, 5] rfl rfl (ci := 3) rfl rfl (q0 := 0) rfl rfl hl.1 rfl (Nat.le_of_ble_eq_true rfl) dX2_writeRoot_74 ⟨Nat.zero_le _, Nat.zero_le _⟩ (fun H locs hP hD hS => ?_)
          have e9 : w1 (wN (w1 L (64 * bk + 0) ec) (64 * bk + 1) (bO eb ec) k) ((64 * bk) + (1 + k)) (bO eb ec k) = wN (w1 L (64 * bk + 0) ec) (64 * bk + 1) (bO eb ec) (k + 1) := by show w1 _ _ _ = w1 _ _ _; rw [show 64 * bk + (1 + k) = 64 * bk + 1 + k by omega]
          rw [e9] at hP hD
          refine lv_iinc (v := nI (k + 1)) (lv' := [(4, .int (nI (k + 1))), (5, .int (nI (1 + k))), (3, .int (nI ec)), (0, .ref m0), (1, .int (nI bk)), (2, .int (-1))]) hx hb dX2_writeRoot_77 hl (k := 1) rfl (nI_add _ 1) (by decide) rfl (fun ls hl => ?_)
          refine lv_iinc (v := nI (1 + k + 1)) (lv' := [(5, .int (nI (1 + k + 1))), (4, .int (nI (k + 1))), (3, .int (nI ec)), (0, .ref m0), (1, .int (nI bk)), (2, .int (-1))]) hx hb dX2_writeRoot_80 hl (k := 1) rfl (nI_add _ 1) (by decide) rfl (fun ls hl => ?_)
          refine lv_goto (tgt := 33) hx hb dX2_writeRoot_83 (by decide) ?_
          exact ih (k + 1) (by omega) (by omega) H locs hP hD hS ls (lv_sub hl [0, 1, 2, 3, 4, 5] rfl)
        · skip
          refine lv_aload_n hx hb dX2_writeRoot_63 rfl (lv_at hl 3 rfl) ?_
          refine va_get (D := D) (ci := 3) (v := .ref m2) (C := RX2) (T := TX2) (N := 12) hx hb hts hinX2 hown hK hP 0 rfl rfl 6 (by decide) (hts (.fieldLink RX2 13 "PuzzleBookModel" "block" "[I") (by decide +kernel)) (fun _ h9 => h9) rfl dX2_writeRoot_64 ?_
          refine lv_iload hx hb dX2_writeRoot_67 (lv_at hl 1 rfl) ?_
          refine ld_i (f := eb) (k := k) hx hb hK hP 2 1 rfl rfl (by omega) (by decide) dX2_writeRoot_69 ?_
          refine lv_as (y := nI (bO eb ec k)) (congrArg nI (bO_t (by omega)).symm) ?_
          refine lv_goto (tgt := 74) hx hb dX2_writeRoot_70 (by decide) ?_
          refine wr_V (wr := []) (wo := (mW m0 m1 m2 m3 m4 m5 cB cI n (w1 (wN (w1 L (64 * bk + 0) ec) (64 * bk + 1) (bO eb ec) k) ((64 * bk) + (1 + k)) (bO eb ec k)) fd fc op tn eb ec th)) (As := [.int (nI ((64 * bk) + (1 + k))), .int (nI (bO eb ec k))]) (rest := []) ⟨hx, hb, hml, hown, hts⟩ (c_X2_write l D m0 m1 m2 m3 m4 m5 cB cI n (wN (w1 L (64 * bk + 0) ec) (64 * bk + 1) (bO eb ec) k) fd fc op tn eb ec th ((64 * bk) + (1 + k)) (bO eb ec k) H.size  (by omega) (by simp only [wN_c, w1_c]; omega)) (cwV 2 hts gX2_writeRoot_X2_write rfl rfl rfl (by decide +kernel) ⟨Nat.le_of_ble_eq_true rfl, Nat.le_of_ble_eq_true rfl⟩) hK hP hD hS hA [0, 1, 2, 3, 4, 5] [] rfl rfl rfl rfl (by decide) [0, 1, 2, 3, 4, 5] rfl rfl (ci := 3) rfl rfl (q0 := 0) rfl rfl hl.1 rfl (Nat.le_of_ble_eq_true rfl) dX2_writeRoot_74 ⟨Nat.zero_le _, Nat.zero_le _⟩ (fun H locs hP hD hS => ?_)
          have e9 : w1 (wN (w1 L (64 * bk + 0) ec) (64 * bk + 1) (bO eb ec) k) ((64 * bk) + (1 + k)) (bO eb ec k) = wN (w1 L (64 * bk + 0) ec) (64 * bk + 1) (bO eb ec) (k + 1) := by show w1 _ _ _ = w1 _ _ _; rw [show 64 * bk + (1 + k) = 64 * bk + 1 + k by omega]
          rw [e9] at hP hD
          refine lv_iinc (v := nI (k + 1)) (lv' := [(4, .int (nI (k + 1))), (5, .int (nI (1 + k))), (3, .int (nI ec)), (0, .ref m0), (1, .int (nI bk)), (2, .int (-1))]) hx hb dX2_writeRoot_77 hl (k := 1) rfl (nI_add _ 1) (by decide) rfl (fun ls hl => ?_)
          refine lv_iinc (v := nI (1 + k + 1)) (lv' := [(5, .int (nI (1 + k + 1))), (4, .int (nI (k + 1))), (3, .int (nI ec)), (0, .ref m0), (1, .int (nI bk)), (2, .int (-1))]) hx hb dX2_writeRoot_80 hl (k := 1) rfl (nI_add _ 1) (by decide) rfl (fun ls hl => ?_)
          refine lv_goto (tgt := 33) hx hb dX2_writeRoot_83 (by decide) ?_
          exact ih (k + 1) (by omega) (by omega) H locs hP hD hS ls (lv_sub hl [0, 1, 2, 3, 4, 5] rfl)
  refine lv_iload_n hx hb dX2_writeRoot_0 rfl (lv_at hl 2 rfl) ?_
  refine j0_ge (tgt := 11) hx hb neg1_toInt dX2_writeRoot_1 (by decide) (fun c4 => absurd c4 (by omega)) (fun c4 => ?_)
  refine lv_aload_n hx hb dX2_writeRoot_4 rfl (lv_at hl 0 rfl) ?_
  refine va_get (D := D) (ci := 3) (v := .int (nI ec)) (C := RX2) (T := TX2) (N := 12) hx hb hts hinX2 hown hK hP 0 rfl rfl 4 (by decide) (hts (.fieldLink RX2 54 "PuzzleBookModel" "entries" "I") (by decide +kernel)) (fun _ h9 => h9) rfl dX2_writeRoot_5 ?_
  refine lv_goto (tgt := 17) hx hb dX2_writeRoot_8 (by decide) ?_
  refine lv_istore_n (lv' := [(3, .int (nI ec)), (0, .ref m0), (1, .int (nI bk)), (2, .int (-1))]) hx hb dX2_writeRoot_17 rfl hl (by decide) rfl (fun ls hl => ?_)
  refine lv_aload_n hx hb dX2_writeRoot_18 rfl (lv_at hl 1 rfl) ?_
  refine lv_bipush (v := nI 64) hx hb dX2_writeRoot_19 (by decide +kernel) ?_
  refine lv_iload_n hx hb dX2_writeRoot_21 rfl (lv_at hl 2 rfl) ?_
  refine lv_imul hx hb dX2_writeRoot_22 ?_
  refine lv_as (y := nI (64 * bk)) (pk_mul _ _) ?_
  refine lv_as (y := nI (64 * bk + 0)) rfl ?_
  refine lv_iload_n hx hb dX2_writeRoot_23 rfl (lv_at hl 0 rfl) ?_
  refine wr_V (wr := []) (wo := (mW m0 m1 m2 m3 m4 m5 cB cI n (w1 L (64 * bk + 0) ec) fd fc op tn eb ec th)) (As := [.int (nI (64 * bk + 0)), .int (nI ec)]) (rest := []) ⟨hx, hb, hml, hown, hts⟩ (c_X2_write l D m0 m1 m2 m3 m4 m5 cB cI n L fd fc op tn eb ec th (64 * bk + 0) ec s.heap.size  (by omega) (by omega)) (cwV 2 hts gX2_writeRoot_X2_write rfl rfl rfl (by decide +kernel) ⟨Nat.le_of_ble_eq_true rfl, Nat.le_of_ble_eq_true rfl⟩) hK hP hD hS hA [0, 1, 2, 3, 4, 5] [] rfl rfl rfl rfl (by decide) [0, 1, 2, 3, 4, 5] rfl rfl (ci := 3) rfl rfl (q0 := 0) rfl rfl hl.1 rfl (Nat.le_of_ble_eq_true rfl) dX2_writeRoot_24 ⟨Nat.zero_le _, Nat.zero_le _⟩ (fun H locs hP hD hS => ?_)
  refine lv_iconst (v := nI 0) hx hb dX2_writeRoot_27 (by decide +kernel) ?_
  refine lv_istore (lv' := [(4, .int (nI 0)), (3, .int (nI ec)), (0, .ref m0), (1, .int (nI bk)), (2, .int (-1))]) hx hb dX2_writeRoot_28 hl (by decide) rfl (fun ls hl => ?_)
  refine lv_iconst (v := nI 1) hx hb dX2_writeRoot_30 (by decide +kernel) ?_
  refine lv_istore (lv' := [(5, .int (nI 1)), (4, .int (nI 0)), (3, .int (nI ec)), (0, .ref m0), (1, .int (nI bk)), (2, .int (-1))]) hx hb dX2_writeRoot_31 hl (by decide) rfl (fun ls hl => ?_)
  exact loop 60 0 (by omega) (by omega) H locs hP hD hS ls (lv_sub hl [0, 1, 2, 3, 4, 5] rfl)
set_option maxRecDepth 100000 in
set_option maxHeartbeats 4000000 in
/-- writeRoot(b, entry) -/
theorem c_X2_writeRoot_d (l : Launch) (D : va_G) (m0 m1 m2 m3 m4 m5 : Nat) (cB cI : ClassId) (n : Nat) (L : Lg) (fd : Nat → Nat) (fc : Nat) (op : Nat) (tn : Nat) (eb : Nat → Nat) (ec : Nat) (th : Nat) (bk z : Nat) (sz : Nat) (he : ec ≤ 40) (h1 : bk < 64) (h2 : z < ec) (hw : L.2.2.2 + 64 ≤ 129) : Met l yX2_writeRoot wsX2_writeRoot ({ frames := 2, cells := 0, slots := 0, locals := 46 }) (wP [.ref m0, .int (nI bk), .int (nI z)] D (mW m0 m1 m2 m3 m4 m5 cB cI n L fd fc op tn eb ec th) (ty2 cB cI) sz) (wQv D (mW m0 m1 m2 m3 m4 m5 cB cI n (wR L bk (ec - 1) (bO (shf eb z (ec - 1 - z)) (ec - 1))) fd fc op tn eb ec th) (va_A (mW m0 m1 m2 m3 m4 m5 cB cI n L fd fc op tn eb ec th) sz)) 0 0 (va_A (mW m0 m1 m2 m3 m4 m5 cB cI n L fd fc op tn eb ec th) sz) := by
  refine met_w (by decide) rfl (Nat.le_of_ble_eq_true rfl) ?_
  intro p e s m below meth c hx hb hml hr hlocks hown hts hP hK A hD hA hS ls hl
  have hown : s.vm.findClass RX2 = some m.cls := hown
  have hinX2 : ∀ w ∈ u_ws RX2 TX2 12, w ∈ wsX2_writeRoot := by decide +kernel
  have hl : lv_has ls 6 [(0, .ref m0), (1, .int (nI bk)), (2, .int (nI z))] := hl
  have loop : ∀ (fu k x : Nat), k ≤ 59 → 59 - k < fu → ((k ≤ z ∧ x = k) ∨ (z < k ∧ x = k + 1)) → ∀ (H : Heap) (locs : List Loc), va_P D vwCl (mW m0 m1 m2 m3 m4 m5 cB cI n (wN (w1 L (64 * bk + 0) (ec - 1)) (64 * bk + 1) (bO (shf eb z (ec - 1 - z)) (ec - 1)) k) fd fc op tn eb ec th) H → va_D A (mW m0 m1 m2 m3 m4 m5 cB cI n (wN (w1 L (64 * bk + 0) (ec - 1)) (64 * bk + 1) (bO (shf eb z (ec - 1 - z)) (ec - 1)) k) fd fc op tn eb ec th) → va_S A s.heap H locs → ∀ ls : Array Slot, lv_has ls 6 [(5, .int (nI (1 + k))), (4, .int (nI x)), (3, .int (nI (ec - 1))), (0, .ref m0), (1, .int (nI bk)), (2, .int (nI z))] → W p l e ({ frames := 2, cells := 0, slots := 0, locals := 46 }) s m [.ref m0, .int (nI bk), .int (nI z)].toArray below meth c H locs 0 0 (MQ below (wQv D (mW m0 m1 m2 m3 m4 m5 cB cI n (wR L bk (ec - 1) (bO (shf eb z (ec - 1 - z)) (ec - 1))) fd fc op tn eb ec th) A) [.ref m0, .int (nI bk), .int (nI z)].toArray s 0 0 A) (F0 m 33 ls []) := by
    intro fu
    induction fu with
    | zero => intro k x hk hf; omega
    | succ fu ih =>
      intro k x hk hfu hq H locs hP hD hS ls hl
      refine lv_iload hx hb dX2_writeRoot_33 (lv_at hl 0 rfl) ?_
      refine lv_bipush (v := nI 60) hx hb dX2_writeRoot_35 (by decide +kernel) ?_
      refine jb_ge (tgt := 86) hx hb (nI_toInt (n := 1 + k) (by omega)) (nI_toInt (n := 60) (by decide)) dX2_writeRoot_37 (by decide) (fun c1 => ?_) (fun c1 => ?_)
      · skip
        have hk9 : 59 = k := by omega
        subst hk9
        refine lv_aload_n hx hb dX2_writeRoot_86 rfl (lv_at hl 3 rfl) ?_
        refine lv_iload_n hx hb dX2_writeRoot_87 rfl (lv_at hl 4 rfl) ?_
        refine wr_V (wr := []) (wo := (mW m0 m1 m2 m3 m4 m5 cB cI n (wS (wN (w1 L (64 * bk + 0) (ec - 1)) (64 * bk + 1) (bO (shf eb z (ec - 1 - z)) (ec - 1)) 59) (64 * bk)) fd fc op tn eb ec th)) (As := [.int (nI bk)]) (rest := []) ⟨hx, hb, hml, hown, hts⟩ (c_X2_writeSum l D m0 m1 m2 m3 m4 m5 cB cI n (wN (w1 L (64 * bk + 0) (ec - 1)) (64 * bk + 1) (bO (shf eb z (ec - 1 - z)) (ec - 1)) 59) fd fc op tn eb ec th bk H.size  h1 (by simp only [wN_c, w1_c]; omega)) (cwV 1 hts gX2_writeRoot_X2_writeSum rfl rfl rfl (by decide +kernel) ⟨Nat.le_of_ble_eq_true rfl, Nat.le_of_ble_eq_true rfl⟩) hK hP hD hS hA [0, 1, 2, 3, 4, 5] [] rfl rfl rfl rfl (by decide) [0, 1, 2, 3, 4, 5] rfl rfl (ci := 3) rfl rfl (q0 := 0) rfl rfl hl.1 rfl (Nat.le_of_ble_eq_true rfl) dX2_writeRoot_88 ⟨Nat.zero_le _, Nat.zero_le _⟩ (fun H locs hP hD hS => ?_)
        exact rt_v hx hb hr hlocks hP hD hS dX2_writeRoot_91
      · skip
        refine lv_iload hx hb dX2_writeRoot_40 (lv_at hl 1 rfl) ?_
        refine lv_iload_n hx hb dX2_writeRoot_42 rfl (lv_at hl 5 rfl) ?_
        refine jb_ne (tgt := 49) hx hb (nI_toInt (n := x) (by omega)) (nI_toInt (n := z) (by omega)) dX2_writeRoot_43 (by decide) (fun c2 => ?_) (fun c2 => ?_)
        · skip
          refine lv_aload_n hx hb dX2_writeRoot_49 rfl (lv_at hl 3 rfl) ?_
          refine lv_bipush (v := nI 64) hx hb dX2_writeRoot_50 (by decide +kernel) ?_
          refine lv_iload_n hx hb dX2_writeRoot_52 rfl (lv_at hl 4 rfl) ?_
          refine lv_imul hx hb dX2_writeRoot_53 ?_
          refine lv_as (y := nI (64 * bk)) (pk_mul _ _) ?_
          refine lv_iload hx hb dX2_writeRoot_54 (lv_at hl 0 rfl) ?_
          refine lv_iadd hx hb dX2_writeRoot_56 ?_
          refine lv_as (y := nI ((64 * bk) + (1 + k))) (nI_add _ _) ?_
          refine lv_iload hx hb dX2_writeRoot_57 (lv_at hl 0 rfl) ?_
          refine lv_iload_n hx hb dX2_writeRoot_59 rfl (lv_at hl 2 rfl) ?_
          refine jb_gt (tgt := 73) hx hb (nI_toInt (n := 1 + k) (by omega)) (nI_toInt (n := ec - 1) (by omega)) dX2_writeRoot_60 (by decide) (fun c3 => ?_) (fun c3 => ?_)
          · skip
            refine lv_iconst (v := nI 0) hx hb dX2_writeRoot_73 (by decide +kernel) ?_
            refine lv_as (y := nI ((bO (shf eb z (ec - 1 - z)) (ec - 1)) k)) (congrArg nI (bO_f (by omega)).symm) ?_
            refine wr_V (wr := []) (wo := (mW m0 m1 m2 m3 m4 m5 cB cI n (w1 (wN (w1 L (64 * bk + 0) (ec - 1)) (64 * bk + 1) (bO (shf eb z (ec - 1 - z)) (ec - 1)) k) ((64 * bk) + (1 + k)) ((bO (shf eb z (ec - 1 - z)) (ec - 1)) k)) fd fc op tn eb ec th)) (As := [.int (nI ((64 * bk) + (1 + k))), .int (nI ((bO (shf eb z (ec - 1 - z)) (ec - 1)) k))]) (rest := []) ⟨hx, hb, hml, hown, hts⟩ (c_X2_write l D m0 m1 m2 m3 m4 m5 cB cI n (wN (w1 L (64 * bk + 0) (ec - 1)) (64 * bk + 1) (bO (shf eb z (ec - 1 - z)) (ec - 1)) k) fd fc op tn eb ec th ((64 * bk) + (1 + k)) ((bO (shf eb z (ec - 1 - z)) (ec - 1)) k) H.size  (by omega) (by simp only [wN_c, w1_c]; omega)) (cwV 2 hts gX2_writeRoot_X2_write rfl rfl rfl (by decide +kernel) ⟨Nat.le_of_ble_eq_true rfl, Nat.le_of_ble_eq_true rfl⟩) hK hP hD hS hA [0, 1, 2, 3, 4, 5] [] rfl rfl rfl rfl (by decide) [0, 1, 2, 3, 4, 5] rfl rfl (ci := 3) rfl rfl (q0 := 0) rfl rfl hl.1 rfl (Nat.le_of_ble_eq_true rfl) dX2_writeRoot_74 ⟨Nat.zero_le _, Nat.zero_le _⟩ (fun H locs hP hD hS => ?_)
            have e9 : w1 (wN (w1 L (64 * bk + 0) (ec - 1)) (64 * bk + 1) (bO (shf eb z (ec - 1 - z)) (ec - 1)) k) ((64 * bk) + (1 + k)) ((bO (shf eb z (ec - 1 - z)) (ec - 1)) k) = wN (w1 L (64 * bk + 0) (ec - 1)) (64 * bk + 1) (bO (shf eb z (ec - 1 - z)) (ec - 1)) (k + 1) := by show w1 _ _ _ = w1 _ _ _; rw [show 64 * bk + (1 + k) = 64 * bk + 1 + k by omega]
            rw [e9] at hP hD
            refine lv_iinc (v := nI (x + 1)) (lv' := [(4, .int (nI (x + 1))), (5, .int (nI (1 + k))), (3, .int (nI (ec - 1))), (0, .ref m0), (1, .int (nI bk)), (2, .int (nI z))]) hx hb dX2_writeRoot_77 hl (k := 1) rfl (nI_add _ 1) (by decide) rfl (fun ls hl => ?_)
            refine lv_iinc (v := nI (1 + k + 1)) (lv' := [(5, .int (nI (1 + k + 1))), (4, .int (nI (x + 1))), (3, .int (nI (ec - 1))), (0, .ref m0), (1, .int (nI bk)), (2, .int (nI z))]) hx hb dX2_writeRoot_80 hl (k := 1) rfl (nI_add _ 1) (by decide) rfl (fun ls hl => ?_)
            refine lv_goto (tgt := 33) hx hb dX2_writeRoot_83 (by decide) ?_
            exact ih (k + 1) (x + 1) (by omega) (by omega) (by omega) H locs hP hD hS ls (lv_sub hl [0, 1, 2, 3, 4, 5] rfl)
          · skip
            refine lv_aload_n hx hb dX2_writeRoot_63 rfl (lv_at hl 3 rfl) ?_
            refine va_get (D := D) (ci := 3) (v := .ref m2) (C := RX2) (T := TX2) (N := 12) hx hb hts hinX2 hown hK hP 0 rfl rfl 6 (by decide) (hts (.fieldLink RX2 13 "PuzzleBookModel" "block" "[I") (by decide +kernel)) (fun _ h9 => h9) rfl dX2_writeRoot_64 ?_
            refine lv_iload hx hb dX2_writeRoot_67 (lv_at hl 1 rfl) ?_
            refine ld_i (f := eb) (k := x) hx hb hK hP 2 1 rfl rfl (by omega) (by decide) dX2_writeRoot_69 ?_
            refine lv_as (y := nI ((bO (shf eb z (ec - 1 - z)) (ec - 1)) k)) (congrArg nI (shf_v (by omega) (by omega) (by omega))) ?_
            refine lv_goto (tgt := 74) hx hb dX2_writeRoot_70 (by decide) ?_
            refine wr_V (wr := []) (wo := (mW m0 m1 m2 m3 m4 m5 cB cI n (w1 (wN (w1 L (64 * bk + 0) (ec - 1)) (64 * bk + 1) (bO (shf eb z (ec - 1 - z)) (ec - 1)) k) ((64 * bk) + (1 + k)) ((bO (shf eb z (ec - 1 - z)) (ec - 1)) k)) fd fc op tn eb ec th)) (As := [.int (nI ((64 * bk) + (1 + k))), .int (nI ((bO (shf eb z (ec - 1 - z)) (ec - 1)) k))]) (rest := []) ⟨hx, hb, hml, hown, hts⟩ (c_X2_write l D m0 m1 m2 m3 m4 m5 cB cI n (wN (w1 L (64 * bk + 0) (ec - 1)) (64 * bk + 1) (bO (shf eb z (ec - 1 - z)) (ec - 1)) k) fd fc op tn eb ec th ((64 * bk) + (1 + k)) ((bO (shf eb z (ec - 1 - z)) (ec - 1)) k) H.size  (by omega) (by simp only [wN_c, w1_c]; omega)) (cwV 2 hts gX2_writeRoot_X2_write rfl rfl rfl (by decide +kernel) ⟨Nat.le_of_ble_eq_true rfl, Nat.le_of_ble_eq_true rfl⟩) hK hP hD hS hA [0, 1, 2, 3, 4, 5] [] rfl rfl rfl rfl (by decide) [0, 1, 2, 3, 4, 5] rfl rfl (ci := 3) rfl rfl (q0 := 0) rfl rfl hl.1 rfl (Nat.le_of_ble_eq_true rfl) dX2_writeRoot_74 ⟨Nat.zero_le _, Nat.zero_le _⟩ (fun H locs hP hD hS => ?_)
            have e9 : w1 (wN (w1 L (64 * bk + 0) (ec - 1)) (64 * bk + 1) (bO (shf eb z (ec - 1 - z)) (ec - 1)) k) ((64 * bk) + (1 + k)) ((bO (shf eb z (ec - 1 - z)) (ec - 1)) k) = wN (w1 L (64 * bk + 0) (ec - 1)) (64 * bk + 1) (bO (shf eb z (ec - 1 - z)) (ec - 1)) (k + 1) := by show w1 _ _ _ = w1 _ _ _; rw [show 64 * bk + (1 + k) = 64 * bk + 1 + k by omega]
            rw [e9] at hP hD
            refine lv_iinc (v := nI (x + 1)) (lv' := [(4, .int (nI (x + 1))), (5, .int (nI (1 + k))), (3, .int (nI (ec - 1))), (0, .ref m0), (1, .int (nI bk)), (2, .int (nI z))]) hx hb dX2_writeRoot_77 hl (k := 1) rfl (nI_add _ 1) (by decide) rfl (fun ls hl => ?_)
            refine lv_iinc (v := nI (1 + k + 1)) (lv' := [(5, .int (nI (1 + k + 1))), (4, .int (nI (x + 1))), (3, .int (nI (ec - 1))), (0, .ref m0), (1, .int (nI bk)), (2, .int (nI z))]) hx hb dX2_writeRoot_80 hl (k := 1) rfl (nI_add _ 1) (by decide) rfl (fun ls hl => ?_)
            refine lv_goto (tgt := 33) hx hb dX2_writeRoot_83 (by decide) ?_
            exact ih (k + 1) (x + 1) (by omega) (by omega) (by omega) H locs hP hD hS ls (lv_sub hl [0, 1, 2, 3, 4, 5] rfl)
        · skip
          refine lv_iinc (v := nI (x + 1)) (lv' := [(4, .int (nI (x + 1))), (5, .int (nI (1 + k))), (3, .int (nI (ec - 1))), (0, .ref m0), (1, .int (nI bk)), (2, .int (nI z))]) hx hb dX2_writeRoot_46 hl (k := 1) rfl (nI_add _ 1) (by decide) rfl (fun ls hl => ?_)
          refine lv_aload_n hx hb dX2_writeRoot_49 rfl (lv_at hl 3 rfl) ?_
          refine lv_bipush (v := nI 64) hx hb dX2_writeRoot_50 (by decide +kernel) ?_
          refine lv_iload_n hx hb dX2_writeRoot_52 rfl (lv_at hl 4 rfl) ?_
          refine lv_imul hx hb dX2_writeRoot_53 ?_
          refine lv_as (y := nI (64 * bk)) (pk_mul _ _) ?_
          refine lv_iload hx hb dX2_writeRoot_54 (lv_at hl 1 rfl) ?_
          refine lv_iadd hx hb dX2_writeRoot_56 ?_
          refine lv_as (y := nI ((64 * bk) + (1 + k))) (nI_add _ _) ?_
          refine lv_iload hx hb dX2_writeRoot_57 (lv_at hl 1 rfl) ?_
          refine lv_iload_n hx hb dX2_writeRoot_59 rfl (lv_at hl 2 rfl) ?_
          refine jb_gt (tgt := 73) hx hb (nI_toInt (n := 1 + k) (by omega)) (nI_toInt (n := ec - 1) (by omega)) dX2_writeRoot_60 (by decide) (fun c4 => ?_) (fun c4 => ?_)
          · skip
            refine lv_iconst (v := nI 0) hx hb dX2_writeRoot_73 (by decide +kernel) ?_
            refine lv_as (y := nI ((bO (shf eb z (ec - 1 - z)) (ec - 1)) k)) (congrArg nI (bO_f (by omega)).symm) ?_
            refine wr_V (wr := []) (wo := (mW m0 m1 m2 m3 m4 m5 cB cI n (w1 (wN (w1 L (64 * bk + 0) (ec - 1)) (64 * bk + 1) (bO (shf eb z (ec - 1 - z)) (ec - 1)) k) ((64 * bk) + (1 + k)) ((bO (shf eb z (ec - 1 - z)) (ec - 1)) k)) fd fc op tn eb ec th)) (As := [.int (nI ((64 * bk) + (1 + k))), .int (nI ((bO (shf eb z (ec - 1 - z)) (ec - 1)) k))]) (rest := []) ⟨hx, hb, hml, hown, hts⟩ (c_X2_write l D m0 m1 m2 m3 m4 m5 cB cI n (wN (w1 L (64 * bk + 0) (ec - 1)) (64 * bk + 1) (bO (shf eb z (ec - 1 - z)) (ec - 1)) k) fd fc op tn eb ec th ((64 * bk) + (1 + k)) ((bO (shf eb z (ec - 1 - z)) (ec - 1)) k) H.size  (by omega) (by simp only [wN_c, w1_c]; omega)) (cwV 2 hts gX2_writeRoot_X2_write rfl rfl rfl (by decide +kernel) ⟨Nat.le_of_ble_eq_true rfl, Nat.le_of_ble_eq_true rfl⟩) hK hP hD hS hA [0, 1, 2, 3, 4, 5] [] rfl rfl rfl rfl (by decide) [0, 1, 2, 3, 4, 5] rfl rfl (ci := 3) rfl rfl (q0 := 0) rfl rfl hl.1 rfl (Nat.le_of_ble_eq_true rfl) dX2_writeRoot_74 ⟨Nat.zero_le _, Nat.zero_le _⟩ (fun H locs hP hD hS => ?_)
            have e9 : w1 (wN (w1 L (64 * bk + 0) (ec - 1)) (64 * bk + 1) (bO (shf eb z (ec - 1 - z)) (ec - 1)) k) ((64 * bk) + (1 + k)) ((bO (shf eb z (ec - 1 - z)) (ec - 1)) k) = wN (w1 L (64 * bk + 0) (ec - 1)) (64 * bk + 1) (bO (shf eb z (ec - 1 - z)) (ec - 1)) (k + 1) := by show w1 _ _ _ = w1 _ _ _; rw [show 64 * bk + (1 + k) = 64 * bk + 1 + k by omega]
            rw [e9] at hP hD
            refine lv_iinc (v := nI (x + 1 + 1)) (lv' := [(4, .int (nI (x + 1 + 1))), (5, .int (nI (1 + k))), (3, .int (nI (ec - 1))), (0, .ref m0), (1, .int (nI bk)), (2, .int (nI z))]) hx hb dX2_writeRoot_77 hl (k := 0) rfl (nI_add _ 1) (by decide) rfl (fun ls hl => ?_)
            refine lv_iinc (v := nI (1 + k + 1)) (lv' := [(5, .int (nI (1 + k + 1))), (4, .int (nI (x + 1 + 1))), (3, .int (nI (ec - 1))), (0, .ref m0), (1, .int (nI bk)), (2, .int (nI z))]) hx hb dX2_writeRoot_80 hl (k := 1) rfl (nI_add _ 1) (by decide) rfl (fun ls hl => ?_)
            refine lv_goto (tgt := 33) hx hb dX2_writeRoot_83 (by decide) ?_
            exact ih (k + 1) ((x + 1) + 1) (by omega) (by omega) (by omega) H locs hP hD hS ls (lv_sub hl [0, 1, 2, 3, 4, 5] rfl)
          · skip
            refine lv_aload_n hx hb dX2_writeRoot_63 rfl (lv_at hl 3 rfl) ?_
            refine va_get (D := D) (ci := 3) (v := .ref m2) (C := RX2) (T := TX2) (N := 12) hx hb hts hinX2 hown hK hP 0 rfl rfl 6 (by decide) (hts (.fieldLink RX2 13 "PuzzleBookModel" "block" "[I") (by decide +kernel)) (fun _ h9 => h9) rfl dX2_writeRoot_64 ?_
            refine lv_iload hx hb dX2_writeRoot_67 (lv_at hl 0 rfl) ?_
            refine ld_i (f := eb) (k := x + 1) hx hb hK hP 2 1 rfl rfl (by omega) (by decide) dX2_writeRoot_69 ?_
            refine lv_as (y := nI ((bO (shf eb z (ec - 1 - z)) (ec - 1)) k)) (congrArg nI (shf_v (by omega) (by omega) (by omega))) ?_
            refine lv_goto (tgt := 74) hx hb dX2_writeRoot_70 (by decide) ?_
            refine wr_V (wr := []) (wo := (mW m0 m1 m2 m3 m4 m5 cB cI n (w1 (wN (w1 L (64 * bk + 0) (ec - 1)) (64 * bk + 1) (bO (shf eb z (ec - 1 - z)) (ec - 1)) k) ((64 * bk) + (1 + k)) ((bO (shf eb z (ec - 1 - z)) (ec - 1)) k)) fd fc op tn eb ec th)) (As := [.int (nI ((64 * bk) + (1 + k))), .int (nI ((bO (shf eb z (ec - 1 - z)) (ec - 1)) k))]) (rest := []) ⟨hx, hb, hml, hown, hts⟩ (c_X2_write l D m0 m1 m2 m3 m4 m5 cB cI n (wN (w1 L (64 * bk + 0) (ec - 1)) (64 * bk + 1) (bO (shf eb z (ec - 1 - z)) (ec - 1)) k) fd fc op tn eb ec th ((64 * bk) + (1 + k)) ((bO (shf eb z (ec - 1 - z)) (ec - 1)) k) H.size  (by omega) (by simp only [wN_c, w1_c]; omega)) (cwV 2 hts gX2_writeRoot_X2_write rfl rfl rfl (by decide +kernel) ⟨Nat.le_of_ble_eq_true rfl, Nat.le_of_ble_eq_true rfl⟩) hK hP hD hS hA [0, 1, 2, 3, 4, 5] [] rfl rfl rfl rfl (by decide) [0, 1, 2, 3, 4, 5] rfl rfl (ci := 3) rfl rfl (q0 := 0) rfl rfl hl.1 rfl (Nat.le_of_ble_eq_true rfl) dX2_writeRoot_74 ⟨Nat.zero_le _, Nat.zero_le _⟩ (fun H locs hP hD hS => ?_)
            have e9 : w1 (wN (w1 L (64 * bk + 0) (ec - 1)) (64 * bk + 1) (bO (shf eb z (ec - 1 - z)) (ec - 1)) k) ((64 * bk) + (1 + k)) ((bO (shf eb z (ec - 1 - z)) (ec - 1)) k) = wN (w1 L (64 * bk + 0) (ec - 1)) (64 * bk + 1) (bO (shf eb z (ec - 1 - z)) (ec - 1)) (k + 1) := by show w1 _ _ _ = w1 _ _ _; rw [show 64 * bk + (1 + k) = 64 * bk + 1 + k by omega]
            rw [e9] at hP hD
            refine lv_iinc (v := nI (x + 1 + 1)) (lv' := [(4, .int (nI (x + 1 + 1))), (5, .int (nI (1 + k))), (3, .int (nI (ec - 1))), (0, .ref m0), (1, .int (nI bk)), (2, .int (nI z))]) hx hb dX2_writeRoot_77 hl (k := 0) rfl (nI_add _ 1) (by decide) rfl (fun ls hl => ?_)
            refine lv_iinc (v := nI (1 + k + 1)) (lv' := [(5, .int (nI (1 + k + 1))), (4, .int (nI (x + 1 + 1))), (3, .int (nI (ec - 1))), (0, .ref m0), (1, .int (nI bk)), (2, .int (nI z))]) hx hb dX2_writeRoot_80 hl (k := 1) rfl (nI_add _ 1) (by decide) rfl (fun ls hl => ?_)
            refine lv_goto (tgt := 33) hx hb dX2_writeRoot_83 (by decide) ?_
            exact ih (k + 1) ((x + 1) + 1) (by omega) (by omega) (by omega) H locs hP hD hS ls (lv_sub hl [0, 1, 2, 3, 4, 5] rfl)
  refine lv_iload_n hx hb dX2_writeRoot_0 rfl (lv_at hl 2 rfl) ?_
  refine j0_ge (tgt := 11) hx hb (nI_toInt (n := z) (by omega)) dX2_writeRoot_1 (by decide) (fun c5 => ?_) (fun c5 => absurd c5 (by omega))
  refine lv_aload_n hx hb dX2_writeRoot_11 rfl (lv_at hl 0 rfl) ?_
  refine va_get (D := D) (ci := 3) (v := .int (nI ec)) (C := RX2) (T := TX2) (N := 12) hx hb hts hinX2 hown hK hP 0 rfl rfl 4 (by decide) (hts (.fieldLink RX2 54 "PuzzleBookModel" "entries" "I") (by decide +kernel)) (fun _ h9 => h9) rfl dX2_writeRoot_12 ?_
  refine lv_iconst (v := nI 1) hx hb dX2_writeRoot_15 (by decide +kernel) ?_
  refine lv_isub hx hb dX2_writeRoot_16 ?_
  refine lv_as (y := nI (ec - 1)) (pk_sub (by omega)) ?_
  refine lv_istore_n (lv' := [(3, .int (nI (ec - 1))), (0, .ref m0), (1, .int (nI bk)), (2, .int (nI z))]) hx hb dX2_writeRoot_17 rfl hl (by decide) rfl (fun ls hl => ?_)
  refine lv_aload_n hx hb dX2_writeRoot_18 rfl (lv_at hl 1 rfl) ?_
  refine lv_bipush (v := nI 64) hx hb dX2_writeRoot_19 (by decide +kernel) ?_
  refine lv_iload_n hx hb dX2_writeRoot_21 rfl (lv_at hl 2 rfl) ?_
  refine lv_imul hx hb dX2_writeRoot_22 ?_
  refine lv_as (y := nI (64 * bk)) (pk_mul _ _) ?_
  refine lv_as (y := nI (64 * bk + 0)) rfl ?_
  refine lv_iload_n hx hb dX2_writeRoot_23 rfl (lv_at hl 0 rfl) ?_
  refine wr_V (wr := []) (wo := (mW m0 m1 m2 m3 m4 m5 cB cI n (w1 L (64 * bk + 0) (ec - 1)) fd fc op tn eb ec th)) (As := [.int (nI (64 * bk + 0)), .int (nI (ec - 1))]) (rest := []) ⟨hx, hb, hml, hown, hts⟩ (c_X2_write l D m0 m1 m2 m3 m4 m5 cB cI n L fd fc op tn eb ec th (64 * bk + 0) (ec - 1) s.heap.size  (by omega) (by omega)) (cwV 2 hts gX2_writeRoot_X2_write rfl rfl rfl (by decide +kernel) ⟨Nat.le_of_ble_eq_true rfl, Nat.le_of_ble_eq_true rfl⟩) hK hP hD hS hA [0, 1, 2, 3, 4, 5] [] rfl rfl rfl rfl (by decide) [0, 1, 2, 3, 4, 5] rfl rfl (ci := 3) rfl rfl (q0 := 0) rfl rfl hl.1 rfl (Nat.le_of_ble_eq_true rfl) dX2_writeRoot_24 ⟨Nat.zero_le _, Nat.zero_le _⟩ (fun H locs hP hD hS => ?_)
  refine lv_iconst (v := nI 0) hx hb dX2_writeRoot_27 (by decide +kernel) ?_
  refine lv_istore (lv' := [(4, .int (nI 0)), (3, .int (nI (ec - 1))), (0, .ref m0), (1, .int (nI bk)), (2, .int (nI z))]) hx hb dX2_writeRoot_28 hl (by decide) rfl (fun ls hl => ?_)
  refine lv_iconst (v := nI 1) hx hb dX2_writeRoot_30 (by decide +kernel) ?_
  refine lv_istore (lv' := [(5, .int (nI 1)), (4, .int (nI 0)), (3, .int (nI (ec - 1))), (0, .ref m0), (1, .int (nI bk)), (2, .int (nI z))]) hx hb dX2_writeRoot_31 hl (by decide) rfl (fun ls hl => ?_)
  exact loop 60 0 0 (by omega) (by omega) (by omega) H locs hP hD hS ls (lv_sub hl [0, 1, 2, 3, 4, 5] rfl)
set_option maxRecDepth 100000 in
set_option maxHeartbeats 4000000 in
/-- writeEntry(b, name) -/
theorem c_X2_writeEntry (l : Launch) (D : va_G) (m0 m1 m2 m3 m4 m5 : Nat) (cB cI : ClassId) (n : Nat) (L : Lg) (fd : Nat → Nat) (fc : Nat) (op : Nat) (tn : Nat) (eb : Nat → Nat) (ec : Nat) (th : Nat) (bk nm : Nat) (sz : Nat) (h1 : bk < 64) (h2 : nm < 65536) (hf : fc ≤ 48) (hw : L.2.2.2 + 64 ≤ 129) : Met l yX2_writeEntry wsX2_writeEntry ({ frames := 2, cells := 0, slots := 0, locals := 46 }) (wP [.ref m0, .int (nI bk), .int (nI nm)] D (mW m0 m1 m2 m3 m4 m5 cB cI n L fd fc op tn eb ec th) (ty2 cB cI) sz) (wQv D (mW m0 m1 m2 m3 m4 m5 cB cI n (wE L bk nm fc fd) fd fc op tn eb ec th) (va_A (mW m0 m1 m2 m3 m4 m5 cB cI n L fd fc op tn eb ec th) sz)) 0 0 (va_A (mW m0 m1 m2 m3 m4 m5 cB cI n L fd fc op tn eb ec th) sz) := by
  refine met_w (by decide) rfl (Nat.le_of_ble_eq_true rfl) ?_
  intro p e s m below meth c hx hb hml hr hlocks hown hts hP hK A hD hA hS ls hl
  have hown : s.vm.findClass RX2 = some m.cls := hown
  have hinX2 : ∀ w ∈ u_ws RX2 TX2 12, w ∈ wsX2_writeEntry := by decide +kernel
  have hl : lv_has ls 4 [(0, .ref m0), (1, .int (nI bk)), (2, .int (nI nm))] := hl
  have loop : ∀ (fu k : Nat), k ≤ 57 → 57 - k < fu → ∀ (H : Heap) (locs : List Loc), va_P D vwCl (mW m0 m1 m2 m3 m4 m5 cB cI n (wN (w1 (w1 (w1 L (64 * bk + 0) (nm % 256)) (64 * bk + 1) (nm / 256)) (64 * bk + 2) fc) (64 * bk + 3) (bO fd fc) k) fd fc op tn eb ec th) H → va_D A (mW m0 m1 m2 m3 m4 m5 cB cI n (wN (w1 (w1 (w1 L (64 * bk + 0) (nm % 256)) (64 * bk + 1) (nm / 256)) (64 * bk + 2) fc) (64 * bk + 3) (bO fd fc) k) fd fc op tn eb ec th) → va_S A s.heap H locs → ∀ ls : Array Slot, lv_has ls 4 [(3, .int (nI (3 + k))), (0, .ref m0), (1, .int (nI bk)), (2, .int (nI nm))] → W p l e ({ frames := 2, cells := 0, slots := 0, locals := 46 }) s m [.ref m0, .int (nI bk), .int (nI nm)].toArray below meth c H locs 0 0 (MQ below (wQv D (mW m0 m1 m2 m3 m4 m5 cB cI n (wE L bk nm fc fd) fd fc op tn eb ec th) A) [.ref m0, .int (nI bk), .int (nI nm)].toArray s 0 0 A) (F0 m 43 ls []) := by
    intro fu
    induction fu with
    | zero => intro k hk hf; omega
    | succ fu ih =>
      intro k hk hfu H locs hP hD hS ls hl
      refine lv_iload_n hx hb dX2_writeEntry_43 rfl (lv_at hl 0 rfl) ?_
      refine lv_bipush (v := nI 60) hx hb dX2_writeEntry_44 (by decide +kernel) ?_
      refine jb_ge (tgt := 87) hx hb (nI_toInt (n := 3 + k) (by omega)) (nI_toInt (n := 60) (by decide)) dX2_writeEntry_46 (by decide) (fun c1 => ?_) (fun c1 => ?_)
      · skip
        have hk9 : 57 = k := by omega
        subst hk9
        refine lv_aload_n hx hb dX2_writeEntry_87 rfl (lv_at hl 1 rfl) ?_
        refine lv_iload_n hx hb dX2_writeEntry_88 rfl (lv_at hl 2 rfl) ?_
        refine wr_V (wr := []) (wo := (mW m0 m1 m2 m3 m4 m5 cB cI n (wS (wN (w1 (w1 (w1 L (64 * bk + 0) (nm % 256)) (64 * bk + 1) (nm / 256)) (64 * bk + 2) fc) (64 * bk + 3) (bO fd fc) 57) (64 * bk)) fd fc op tn eb ec th)) (As := [.int (nI bk)]) (rest := []) ⟨hx, hb, hml, hown, hts⟩ (c_X2_writeSum l D m0 m1 m2 m3 m4 m5 cB cI n (wN (w1 (w1 (w1 L (64 * bk + 0) (nm % 256)) (64 * bk + 1) (nm / 256)) (64 * bk + 2) fc) (64 * bk + 3) (bO fd fc) 57) fd fc op tn eb ec th bk H.size  h1 (by simp only [wN_c, w1_c]; omega)) (cwV 1 hts gX2_writeEntry_X2_writeSum rfl rfl rfl (by decide +kernel) ⟨Nat.le_of_ble_eq_true rfl, Nat.le_of_ble_eq_true rfl⟩) hK hP hD hS hA [0, 1, 2, 3, 4, 5] [] rfl rfl rfl rfl (by decide) [0, 1, 2, 3, 4, 5] rfl rfl (ci := 3) rfl rfl (q0 := 0) rfl rfl hl.1 rfl (Nat.le_of_ble_eq_true rfl) dX2_writeEntry_89 ⟨Nat.zero_le _, Nat.zero_le _⟩ (fun H locs hP hD hS => ?_)
        exact rt_v hx hb hr hlocks hP hD hS dX2_writeEntry_92
      · skip
        refine lv_aload_n hx hb dX2_writeEntry_49 rfl (lv_at hl 1 rfl) ?_
        refine lv_bipush (v := nI 64) hx hb dX2_writeEntry_50 (by decide +kernel) ?_
        refine lv_iload_n hx hb dX2_writeEntry_52 rfl (lv_at hl 2 rfl) ?_
        refine lv_imul hx hb dX2_writeEntry_53 ?_
        refine lv_as (y := nI (64 * bk)) (pk_mul _ _) ?_
        refine lv_iload_n hx hb dX2_writeEntry_54 rfl (lv_at hl 0 rfl) ?_
        refine lv_iadd hx hb dX2_writeEntry_55 ?_
        refine lv_as (y := nI ((64 * bk) + (3 + k))) (nI_add _ _) ?_
        refine lv_iload_n hx hb dX2_writeEntry_56 rfl (lv_at hl 0 rfl) ?_
        refine lv_iconst (v := nI 3) hx hb dX2_writeEntry_57 (by decide +kernel) ?_
        refine lv_isub hx hb dX2_writeEntry_58 ?_
        refine lv_as (y := nI ((3 + k) - 3)) (pk_sub (by omega)) ?_
        refine lv_as (y := nI k) (congrArg nI (by omega)) ?_
        refine lv_aload_n hx hb dX2_writeEntry_59 rfl (lv_at hl 1 rfl) ?_
        refine va_get (D := D) (ci := 3) (v := .int (nI fc)) (C := RX2) (T := TX2) (N := 12) hx hb hts hinX2 hown hK hP 0 rfl rfl 8 (by decide) (hts (.fieldLink RX2 61 "PuzzleBookModel" "fedLong" "I") (by decide +kernel)) (fun _ h9 => h9) rfl dX2_writeEntry_60 ?_
        refine jb_ge (tgt := 77) hx hb (nI_toInt (n := k) (by omega)) (nI_toInt (n := fc) (by omega)) dX2_writeEntry_63 (by decide) (fun c2 => ?_) (fun c2 => ?_)
        · skip
          refine lv_iconst (v := nI 0) hx hb dX2_writeEntry_77 (by decide +kernel) ?_
          refine lv_as (y := nI (bO fd fc k)) (congrArg nI (bO_f (by omega)).symm) ?_
          refine wr_V (wr := []) (wo := (mW m0 m1 m2 m3 m4 m5 cB cI n (w1 (wN (w1 (w1 (w1 L (64 * bk + 0) (nm % 256)) (64 * bk + 1) (nm / 256)) (64 * bk + 2) fc) (64 * bk + 3) (bO fd fc) k) ((64 * bk) + (3 + k)) (bO fd fc k)) fd fc op tn eb ec th)) (As := [.int (nI ((64 * bk) + (3 + k))), .int (nI (bO fd fc k))]) (rest := []) ⟨hx, hb, hml, hown, hts⟩ (c_X2_write l D m0 m1 m2 m3 m4 m5 cB cI n (wN (w1 (w1 (w1 L (64 * bk + 0) (nm % 256)) (64 * bk + 1) (nm / 256)) (64 * bk + 2) fc) (64 * bk + 3) (bO fd fc) k) fd fc op tn eb ec th ((64 * bk) + (3 + k)) (bO fd fc k) H.size  (by omega) (by simp only [wN_c, w1_c]; omega)) (cwV 2 hts gX2_writeEntry_X2_write rfl rfl rfl (by decide +kernel) ⟨Nat.le_of_ble_eq_true rfl, Nat.le_of_ble_eq_true rfl⟩) hK hP hD hS hA [0, 1, 2, 3, 4, 5] [] rfl rfl rfl rfl (by decide) [0, 1, 2, 3, 4, 5] rfl rfl (ci := 3) rfl rfl (q0 := 0) rfl rfl hl.1 rfl (Nat.le_of_ble_eq_true rfl) dX2_writeEntry_78 ⟨Nat.zero_le _, Nat.zero_le _⟩ (fun H locs hP hD hS => ?_)
          have e9 : w1 (wN (w1 (w1 (w1 L (64 * bk + 0) (nm % 256)) (64 * bk + 1) (nm / 256)) (64 * bk + 2) fc) (64 * bk + 3) (bO fd fc) k) ((64 * bk) + (3 + k)) (bO fd fc k) = wN (w1 (w1 (w1 L (64 * bk + 0) (nm % 256)) (64 * bk + 1) (nm / 256)) (64 * bk + 2) fc) (64 * bk + 3) (bO fd fc) (k + 1) := by show w1 _ _ _ = w1 _ _ _; rw [show 64 * bk + (3 + k) = 64 * bk + 3 + k by omega]
          rw [e9] at hP hD
          refine lv_iinc (v := nI (3 + k + 1)) (lv' := [(3, .int (nI (3 + k + 1))), (0, .ref m0), (1, .int (nI bk)), (2, .int (nI nm))]) hx hb dX2_writeEntry_81 hl (k := 0) rfl (nI_add _ 1) (by decide) rfl (fun ls hl => ?_)
          refine lv_goto (tgt := 43) hx hb dX2_writeEntry_84 (by decide) ?_
          exact ih (k + 1) (by omega) (by omega) H locs hP hD hS ls (lv_sub hl [0, 1, 2, 3] rfl)
        · skip
          refine lv_aload_n hx hb dX2_writeEntry_66 rfl (lv_at hl 1 rfl) ?_
          refine va_get (D := D) (ci := 3) (v := .ref m3) (C := RX2) (T := TX2) (N := 12) hx hb hts hinX2 hown hK hP 0 rfl rfl 7 (by decide) (hts (.fieldLink RX2 16 "PuzzleBookModel" "fed" "[I") (by decide +kernel)) (fun _ h9 => h9) rfl dX2_writeEntry_67 ?_
          refine lv_iload_n hx hb dX2_writeEntry_70 rfl (lv_at hl 0 rfl) ?_
          refine lv_iconst (v := nI 3) hx hb dX2_writeEntry_71 (by decide +kernel) ?_
          refine lv_isub hx hb dX2_writeEntry_72 ?_
          refine lv_as (y := nI ((3 + k) - 3)) (pk_sub (by omega)) ?_
          refine lv_as (y := nI k) (congrArg nI (by omega)) ?_
          refine ld_i (f := fd) (k := k) hx hb hK hP 3 1 rfl rfl (by omega) (by decide) dX2_writeEntry_73 ?_
          refine lv_as (y := nI (bO fd fc k)) (congrArg nI (bO_t (by omega)).symm) ?_
          refine lv_goto (tgt := 78) hx hb dX2_writeEntry_74 (by decide) ?_
          refine wr_V (wr := []) (wo := (mW m0 m1 m2 m3 m4 m5 cB cI n (w1 (wN (w1 (w1 (w1 L (64 * bk + 0) (nm % 256)) (64 * bk + 1) (nm / 256)) (64 * bk + 2) fc) (64 * bk + 3) (bO fd fc) k) ((64 * bk) + (3 + k)) (bO fd fc k)) fd fc op tn eb ec th)) (As := [.int (nI ((64 * bk) + (3 + k))), .int (nI (bO fd fc k))]) (rest := []) ⟨hx, hb, hml, hown, hts⟩ (c_X2_write l D m0 m1 m2 m3 m4 m5 cB cI n (wN (w1 (w1 (w1 L (64 * bk + 0) (nm % 256)) (64 * bk + 1) (nm / 256)) (64 * bk + 2) fc) (64 * bk + 3) (bO fd fc) k) fd fc op tn eb ec th ((64 * bk) + (3 + k)) (bO fd fc k) H.size  (by omega) (by simp only [wN_c, w1_c]; omega)) (cwV 2 hts gX2_writeEntry_X2_write rfl rfl rfl (by decide +kernel) ⟨Nat.le_of_ble_eq_true rfl, Nat.le_of_ble_eq_true rfl⟩) hK hP hD hS hA [0, 1, 2, 3, 4, 5] [] rfl rfl rfl rfl (by decide) [0, 1, 2, 3, 4, 5] rfl rfl (ci := 3) rfl rfl (q0 := 0) rfl rfl hl.1 rfl (Nat.le_of_ble_eq_true rfl) dX2_writeEntry_78 ⟨Nat.zero_le _, Nat.zero_le _⟩ (fun H locs hP hD hS => ?_)
          have e9 : w1 (wN (w1 (w1 (w1 L (64 * bk + 0) (nm % 256)) (64 * bk + 1) (nm / 256)) (64 * bk + 2) fc) (64 * bk + 3) (bO fd fc) k) ((64 * bk) + (3 + k)) (bO fd fc k) = wN (w1 (w1 (w1 L (64 * bk + 0) (nm % 256)) (64 * bk + 1) (nm / 256)) (64 * bk + 2) fc) (64 * bk + 3) (bO fd fc) (k + 1) := by show w1 _ _ _ = w1 _ _ _; rw [show 64 * bk + (3 + k) = 64 * bk + 3 + k by omega]
          rw [e9] at hP hD
          refine lv_iinc (v := nI (3 + k + 1)) (lv' := [(3, .int (nI (3 + k + 1))), (0, .ref m0), (1, .int (nI bk)), (2, .int (nI nm))]) hx hb dX2_writeEntry_81 hl (k := 0) rfl (nI_add _ 1) (by decide) rfl (fun ls hl => ?_)
          refine lv_goto (tgt := 43) hx hb dX2_writeEntry_84 (by decide) ?_
          exact ih (k + 1) (by omega) (by omega) H locs hP hD hS ls (lv_sub hl [0, 1, 2, 3] rfl)
  refine lv_aload_n hx hb dX2_writeEntry_0 rfl (lv_at hl 0 rfl) ?_
  refine lv_bipush (v := nI 64) hx hb dX2_writeEntry_1 (by decide +kernel) ?_
  refine lv_iload_n hx hb dX2_writeEntry_3 rfl (lv_at hl 1 rfl) ?_
  refine lv_imul hx hb dX2_writeEntry_4 ?_
  refine lv_as (y := nI (64 * bk)) (pk_mul _ _) ?_
  refine lv_as (y := nI (64 * bk + 0)) rfl ?_
  refine lv_iload_n hx hb dX2_writeEntry_5 rfl (lv_at hl 2 rfl) ?_
  refine lv_sipush (v := nI 255) hx hb dX2_writeEntry_6 (by decide +kernel) ?_
  refine lv_iand hx hb dX2_writeEntry_9 ?_
  refine lv_as (y := nI (nm % 256)) (pk_andN (by omega) 8 (by decide +kernel)) ?_
  refine wr_V (wr := []) (wo := (mW m0 m1 m2 m3 m4 m5 cB cI n (w1 L (64 * bk + 0) (nm % 256)) fd fc op tn eb ec th)) (As := [.int (nI (64 * bk + 0)), .int (nI (nm % 256))]) (rest := []) ⟨hx, hb, hml, hown, hts⟩ (c_X2_write l D m0 m1 m2 m3 m4 m5 cB cI n L fd fc op tn eb ec th (64 * bk + 0) (nm % 256) s.heap.size  (by omega) (by omega)) (cwV 2 hts gX2_writeEntry_X2_write rfl rfl rfl (by decide +kernel) ⟨Nat.le_of_ble_eq_true rfl, Nat.le_of_ble_eq_true rfl⟩) hK hP hD hS hA [0, 1, 2, 3, 4, 5] [] rfl rfl rfl rfl (by decide) [0, 1, 2, 3, 4, 5] rfl rfl (ci := 3) rfl rfl (q0 := 0) rfl rfl hl.1 rfl (Nat.le_of_ble_eq_true rfl) dX2_writeEntry_10 ⟨Nat.zero_le _, Nat.zero_le _⟩ (fun H locs hP hD hS => ?_)
  refine lv_aload_n hx hb dX2_writeEntry_13 rfl (lv_at hl 0 rfl) ?_
  refine lv_bipush (v := nI 64) hx hb dX2_writeEntry_14 (by decide +kernel) ?_
  refine lv_iload_n hx hb dX2_writeEntry_16 rfl (lv_at hl 1 rfl) ?_
  refine lv_imul hx hb dX2_writeEntry_17 ?_
  refine lv_as (y := nI (64 * bk)) (pk_mul _ _) ?_
  refine lv_iconst (v := nI 1) hx hb dX2_writeEntry_18 (by decide +kernel) ?_
  refine lv_iadd hx hb dX2_writeEntry_19 ?_
  refine lv_as (y := nI ((64 * bk) + 1)) (nI_add _ _) ?_
  refine lv_iload_n hx hb dX2_writeEntry_20 rfl (lv_at hl 2 rfl) ?_
  refine lv_bipush (v := nI 8) hx hb dX2_writeEntry_21 (by decide +kernel) ?_
  refine lv_ishr hx hb dX2_writeEntry_23 ?_
  refine lv_as (y := nI (nm / 256)) (pk_shrN (by omega) _ 8 (by decide +kernel)) ?_
  refine wr_V (wr := []) (wo := (mW m0 m1 m2 m3 m4 m5 cB cI n (w1 (w1 L (64 * bk + 0) (nm % 256)) ((64 * bk) + 1) (nm / 256)) fd fc op tn eb ec th)) (As := [.int (nI ((64 * bk) + 1)), .int (nI (nm / 256))]) (rest := []) ⟨hx, hb, hml, hown, hts⟩ (c_X2_write l D m0 m1 m2 m3 m4 m5 cB cI n (w1 L (64 * bk + 0) (nm % 256)) fd fc op tn eb ec th ((64 * bk) + 1) (nm / 256) H.size  (by omega) (by simp only [w1_c]; omega)) (cwV 2 hts gX2_writeEntry_X2_write rfl rfl rfl (by decide +kernel) ⟨Nat.le_of_ble_eq_true rfl, Nat.le_of_ble_eq_true rfl⟩) hK hP hD hS hA [0, 1, 2, 3, 4, 5] [] rfl rfl rfl rfl (by decide) [0, 1, 2, 3, 4, 5] rfl rfl (ci := 3) rfl rfl (q0 := 0) rfl rfl hl.1 rfl (Nat.le_of_ble_eq_true rfl) dX2_writeEntry_24 ⟨Nat.zero_le _, Nat.zero_le _⟩ (fun H locs hP hD hS => ?_)
  refine lv_aload_n hx hb dX2_writeEntry_27 rfl (lv_at hl 0 rfl) ?_
  refine lv_bipush (v := nI 64) hx hb dX2_writeEntry_28 (by decide +kernel) ?_
  refine lv_iload_n hx hb dX2_writeEntry_30 rfl (lv_at hl 1 rfl) ?_
  refine lv_imul hx hb dX2_writeEntry_31 ?_
  refine lv_as (y := nI (64 * bk)) (pk_mul _ _) ?_
  refine lv_iconst (v := nI 2) hx hb dX2_writeEntry_32 (by decide +kernel) ?_
  refine lv_iadd hx hb dX2_writeEntry_33 ?_
  refine lv_as (y := nI ((64 * bk) + 2)) (nI_add _ _) ?_
  refine lv_aload_n hx hb dX2_writeEntry_34 rfl (lv_at hl 0 rfl) ?_
  refine va_get (D := D) (ci := 3) (v := .int (nI fc)) (C := RX2) (T := TX2) (N := 12) hx hb hts hinX2 hown hK hP 0 rfl rfl 8 (by decide) (hts (.fieldLink RX2 61 "PuzzleBookModel" "fedLong" "I") (by decide +kernel)) (fun _ h9 => h9) rfl dX2_writeEntry_35 ?_
  refine wr_V (wr := []) (wo := (mW m0 m1 m2 m3 m4 m5 cB cI n (w1 (w1 (w1 L (64 * bk + 0) (nm % 256)) ((64 * bk) + 1) (nm / 256)) ((64 * bk) + 2) fc) fd fc op tn eb ec th)) (As := [.int (nI ((64 * bk) + 2)), .int (nI fc)]) (rest := []) ⟨hx, hb, hml, hown, hts⟩ (c_X2_write l D m0 m1 m2 m3 m4 m5 cB cI n (w1 (w1 L (64 * bk + 0) (nm % 256)) ((64 * bk) + 1) (nm / 256)) fd fc op tn eb ec th ((64 * bk) + 2) fc H.size  (by omega) (by simp only [w1_c]; omega)) (cwV 2 hts gX2_writeEntry_X2_write rfl rfl rfl (by decide +kernel) ⟨Nat.le_of_ble_eq_true rfl, Nat.le_of_ble_eq_true rfl⟩) hK hP hD hS hA [0, 1, 2, 3, 4, 5] [] rfl rfl rfl rfl (by decide) [0, 1, 2, 3, 4, 5] rfl rfl (ci := 3) rfl rfl (q0 := 0) rfl rfl hl.1 rfl (Nat.le_of_ble_eq_true rfl) dX2_writeEntry_38 ⟨Nat.zero_le _, Nat.zero_le _⟩ (fun H locs hP hD hS => ?_)
  refine lv_iconst (v := nI 3) hx hb dX2_writeEntry_41 (by decide +kernel) ?_
  refine lv_istore_n (lv' := [(3, .int (nI 3)), (0, .ref m0), (1, .int (nI bk)), (2, .int (nI nm))]) hx hb dX2_writeEntry_42 rfl hl (by decide) rfl (fun ls hl => ?_)
  exact loop 58 0 (by omega) (by omega) H locs hP hD hS ls (lv_sub hl [0, 1, 2, 3] rfl)
set_option maxRecDepth 100000 in
set_option maxHeartbeats 4000000 in
/-- turnTo(t) -/
theorem c_X2_turnTo (l : Launch) (D : va_G) (m0 m1 m2 m3 m4 m5 : Nat) (cB cI : ClassId) (n : Nat) (L : Lg) (fd : Nat → Nat) (fc : Nat) (op : Nat) (tn : Nat) (eb : Nat → Nat) (ec : Nat) (th : Nat) (t : Nat) (sz : Nat) (hw : L.2.2.2 < 129) : Met l yX2_turnTo wsX2_turnTo ({ frames := 1, cells := 0, slots := 0, locals := 22 }) (wP [.ref m0, .int (nI t)] D (mW m0 m1 m2 m3 m4 m5 cB cI n L fd fc op tn eb ec th) (ty2 cB cI) sz) (wQv D (mW m0 m1 m2 m3 m4 m5 cB cI n (w1 L (64 * 0 + 0) t) fd fc op t eb ec th) (va_A (mW m0 m1 m2 m3 m4 m5 cB cI n L fd fc op tn eb ec th) sz)) 0 0 (va_A (mW m0 m1 m2 m3 m4 m5 cB cI n L fd fc op tn eb ec th) sz) := by
  refine met_w (by decide) rfl (Nat.le_of_ble_eq_true rfl) ?_
  intro p e s m below meth c hx hb hml hr hlocks hown hts hP hK A hD hA hS ls hl
  have hown : s.vm.findClass RX2 = some m.cls := hown
  have hinX2 : ∀ w ∈ u_ws RX2 TX2 12, w ∈ wsX2_turnTo := by decide +kernel
  have hl : lv_has ls 2 [(0, .ref m0), (1, .int (nI t))] := hl
  refine lv_aload_n hx hb dX2_turnTo_0 rfl (lv_at hl 0 rfl) ?_
  refine lv_iconst (v := nI 0) hx hb dX2_turnTo_1 (by decide +kernel) ?_
  refine lv_as (y := nI (64 * 0 + 0)) rfl ?_
  refine lv_iload_n hx hb dX2_turnTo_2 rfl (lv_at hl 1 rfl) ?_
  refine wr_V (wr := []) (wo := (mW m0 m1 m2 m3 m4 m5 cB cI n (w1 L (64 * 0 + 0) t) fd fc op tn eb ec th)) (As := [.int (nI (64 * 0 + 0)), .int (nI t)]) (rest := []) ⟨hx, hb, hml, hown, hts⟩ (c_X2_write l D m0 m1 m2 m3 m4 m5 cB cI n L fd fc op tn eb ec th (64 * 0 + 0) t s.heap.size  (by decide) hw) (cwV 2 hts gX2_turnTo_X2_write rfl rfl rfl (by decide +kernel) ⟨Nat.le_of_ble_eq_true rfl, Nat.le_of_ble_eq_true rfl⟩) hK hP hD hS hA [0, 1, 2, 3, 4, 5] [] rfl rfl rfl rfl (by decide) [0, 1, 2, 3, 4, 5] rfl rfl (ci := 3) rfl rfl (q0 := 0) rfl rfl hl.1 rfl (Nat.le_of_ble_eq_true rfl) dX2_turnTo_3 ⟨Nat.zero_le _, Nat.zero_le _⟩ (fun H locs hP hD hS => ?_)
  refine lv_aload_n hx hb dX2_turnTo_6 rfl (lv_at hl 0 rfl) ?_
  refine lv_iload_n hx hb dX2_turnTo_7 rfl (lv_at hl 1 rfl) ?_
  refine va_put (D := D) (ci := 3) (v := .int (nI t)) (ty := .int) (C := RX2) (T := TX2) (N := 12) hx hb hts hinX2 tyX2 tyX2_ok nmX2 hown hK hP hD hS 0 rfl rfl 3 (by decide) (hts (.fieldLink RX2 29 "PuzzleBookModel" "turn" "I") (by decide +kernel)) (fun _ h9 => h9) rfl (by decide +kernel) rfl rfl (Nat.le_of_ble_eq_true rfl) dX2_turnTo_8 (fun H locs hP hD hS => ?_)
  have hP : va_P D vwCl (mW m0 m1 m2 m3 m4 m5 cB cI n (w1 L (64 * 0 + 0) t) fd fc op t eb ec th) H := hP
  have hD : va_D A (mW m0 m1 m2 m3 m4 m5 cB cI n (w1 L (64 * 0 + 0) t) fd fc op t eb ec th) := hD
  exact rt_v hx hb hr hlocks hP hD hS dX2_turnTo_11
set_option maxRecDepth 100000 in
set_option maxHeartbeats 4000000 in
/-- isUsed(b) -/
theorem c_X2_isUsed (l : Launch) (D : va_G) (m0 m1 m2 m3 m4 m5 : Nat) (cB cI : ClassId) (n : Nat) (L : Lg) (fd : Nat → Nat) (fc : Nat) (op : Nat) (tn : Nat) (eb : Nat → Nat) (ec : Nat) (th : Nat) (bk : Nat) (hn : n ≤ 64) (he : ec ≤ 40) (hE : ∀ k, bO eb ec k < n) (hb0 : bk < 2 ^ 31) : Met l yX2_isUsed wsX2_isUsed ({ frames := 0, cells := 0, slots := 0, locals := 0 }) (rP [.ref m0, .int (nI bk)] D (mW m0 m1 m2 m3 m4 m5 cB cI n L fd fc op tn eb ec th) (ty2 cB cI)) (vp_Si (fun r => r = nI (b01 (tk (bO eb ec) ec bk)))) 0 0 (fun _ => False) := by
  refine met_r (by decide) rfl (Nat.le_of_ble_eq_true rfl) ?_
  intro p e s m below meth c hx hb hml hr hlocks hown hts hP hK ls hl
  have hown : s.vm.findClass RX2 = some m.cls := hown
  have hinX2 : ∀ w ∈ u_ws RX2 TX2 12, w ∈ wsX2_isUsed := by decide +kernel
  have hl : lv_has ls 3 [(0, .ref m0), (1, .int (nI bk))] := hl
  have loop : ∀ (fu k : Nat), k ≤ ec → ec - k < fu → (∀ j, j < k → ¬ bO eb ec j = bk) → ∀ ls : Array Slot, lv_has ls 3 [(2, .int (nI k)), (0, .ref m0), (1, .int (nI bk))] → W p l e ({ frames := 0, cells := 0, slots := 0, locals := 0 }) s m [.ref m0, .int (nI bk)].toArray below meth c s.heap [] 0 0 (MQ below (vp_Si (fun r => r = nI (b01 (tk (bO eb ec) ec bk)))) [.ref m0, .int (nI bk)].toArray s 0 0 (fun _ => False)) (F0 m 2 ls []) := by
    intro fu
    induction fu with
    | zero => intro k hk hf; omega
    | succ fu ih =>
      intro k hk hfu hj ls hl
      refine lv_iload_n hx hb dX2_isUsed_2 rfl (lv_at hl 0 rfl) ?_
      refine lv_aload_n hx hb dX2_isUsed_3 rfl (lv_at hl 1 rfl) ?_
      refine va_get (D := D) (ci := 3) (v := .int (nI ec)) (C := RX2) (T := TX2) (N := 12) hx hb hts hinX2 hown hK hP 0 rfl rfl 4 (by decide) (hts (.fieldLink RX2 54 "PuzzleBookModel" "entries" "I") (by decide +kernel)) (fun _ h9 => h9) rfl dX2_isUsed_4 ?_
      refine jb_ge (tgt := 28) hx hb (nI_toInt (n := k) (by omega)) (nI_toInt (n := ec) (by omega)) dX2_isUsed_7 (by decide) (fun c1 => ?_) (fun c1 => ?_)
      · skip
        refine lv_iconst (v := nI 0) hx hb dX2_isUsed_28 (by decide +kernel) ?_
        have hk9 : ec = k := by omega
        subst hk9
        exact rt_z hx hb hr hlocks dX2_isUsed_29 (by decide +kernel) (by rw [b01_f (fun ⟨j, h, q⟩ => hj j h q)])
      · skip
        refine lv_aload_n hx hb dX2_isUsed_10 rfl (lv_at hl 1 rfl) ?_
        refine va_get (D := D) (ci := 3) (v := .ref m2) (C := RX2) (T := TX2) (N := 12) hx hb hts hinX2 hown hK hP 0 rfl rfl 6 (by decide) (hts (.fieldLink RX2 13 "PuzzleBookModel" "block" "[I") (by decide +kernel)) (fun _ h9 => h9) rfl dX2_isUsed_11 ?_
        refine lv_iload_n hx hb dX2_isUsed_14 rfl (lv_at hl 0 rfl) ?_
        refine ld_i (f := eb) (k := k) hx hb hK hP 2 1 rfl rfl (by omega) (by decide) dX2_isUsed_15 ?_
        refine lv_as (y := nI (bO eb ec k)) (congrArg nI (bO_t (by omega)).symm) ?_
        have e9 := hE k
        refine lv_iload_n hx hb dX2_isUsed_16 rfl (lv_at hl 2 rfl) ?_
        refine jb_ne (tgt := 22) hx hb (nI_toInt (n := bO eb ec k) (by omega)) (nI_toInt (n := bk) (by omega)) dX2_isUsed_17 (by decide) (fun c2 => ?_) (fun c2 => ?_)
        · skip
          refine lv_iinc (v := nI (k + 1)) (lv' := [(2, .int (nI (k + 1))), (0, .ref m0), (1, .int (nI bk))]) hx hb dX2_isUsed_22 hl (k := 0) rfl (nI_add _ 1) (by decide) rfl (fun ls hl => ?_)
          refine lv_goto (tgt := 2) hx hb dX2_isUsed_25 (by decide) ?_
          exact ih (k + 1) (by omega) (by omega) (fun j q => (Nat.lt_or_eq_of_le (Nat.le_of_lt_succ q)).elim (hj j) (fun q => by rw [q]; exact fun z => c2 (by rw [z]))) ls (lv_sub hl [0, 1, 2] rfl)
        · skip
          refine lv_iconst (v := nI 1) hx hb dX2_isUsed_20 (by decide +kernel) ?_
          exact rt_z hx hb hr hlocks dX2_isUsed_21 (by decide +kernel) (by rw [b01_t ⟨k, by omega, Int.ofNat_inj.mp c2⟩])
  refine lv_iconst (v := nI 0) hx hb dX2_isUsed_0 (by decide +kernel) ?_
  refine lv_istore_n (lv' := [(2, .int (nI 0)), (0, .ref m0), (1, .int (nI bk))]) hx hb dX2_isUsed_1 rfl hl (by decide) rfl (fun ls hl => ?_)
  exact loop (ec + 1) 0 (by omega) (by omega) (fun j q => absurd q (Nat.not_lt_zero j)) ls (lv_sub hl [0, 1, 2] rfl)
set_option maxRecDepth 100000 in
set_option maxHeartbeats 4000000 in
/-- leastFree() -/
theorem c_X2_leastFree (l : Launch) (D : va_G) (m0 m1 m2 m3 m4 m5 : Nat) (cB cI : ClassId) (n : Nat) (L : Lg) (fd : Nat → Nat) (fc : Nat) (op : Nat) (tn : Nat) (eb : Nat → Nat) (ec : Nat) (th : Nat)  (hn0 : 4 ≤ n) (hn : n ≤ 64) (he : ec ≤ 40) (hE : ∀ k, bO eb ec k < n) : Met l yX2_leastFree wsX2_leastFree ({ frames := 1, cells := 0, slots := 0, locals := 22 }) (rP [.ref m0] D (mW m0 m1 m2 m3 m4 m5 cB cI n L fd fc op tn eb ec th) (ty2 cB cI)) (vp_Si (fun r => r = if lfB (bO eb ec) ec n < n then nI (lfB (bO eb ec) ec n) else -1)) 0 0 (fun _ => False) := by
  refine met_r (by decide) rfl (Nat.le_of_ble_eq_true rfl) ?_
  intro p e s m below meth c hx hb hml hr hlocks hown hts hP hK ls hl
  have hown : s.vm.findClass RX2 = some m.cls := hown
  have hinX2 : ∀ w ∈ u_ws RX2 TX2 12, w ∈ wsX2_leastFree := by decide +kernel
  have hl : lv_has ls 2 [(0, .ref m0)] := hl
  have loop : ∀ (fu j : Nat), 3 + j ≤ n → n - (3 + j) < fu → (∀ i, i < j → ¬ ¬ tk (bO eb ec) ec (3 + i)) → ∀ ls : Array Slot, lv_has ls 2 [(1, .int (nI (3 + j))), (0, .ref m0)] → W p l e ({ frames := 1, cells := 0, slots := 0, locals := 22 }) s m [.ref m0].toArray below meth c s.heap [] 0 0 (MQ below (vp_Si (fun r => r = if lfB (bO eb ec) ec n < n then nI (lfB (bO eb ec) ec n) else -1)) [.ref m0].toArray s 0 0 (fun _ => False)) (F0 m 2 ls []) := by
    intro fu
    induction fu with
    | zero => intro k hk hf; omega
    | succ fu ih =>
      intro j hj hfu hi ls hl
      refine lv_iload_n hx hb dX2_leastFree_2 rfl (lv_at hl 0 rfl) ?_
      refine lv_aload_n hx hb dX2_leastFree_3 rfl (lv_at hl 1 rfl) ?_
      refine va_get (D := D) (ci := 3) (v := .int (nI n)) (C := RX2) (T := TX2) (N := 12) hx hb hts hinX2 hown hK hP 0 rfl rfl 0 (by decide) (hts (.fieldLink RX2 25 "PuzzleBookModel" "blocks" "I") (by decide +kernel)) (fun _ h9 => h9) rfl dX2_leastFree_4 ?_
      refine jb_ge (tgt := 26) hx hb (nI_toInt (n := 3 + j) (by omega)) (nI_toInt (n := n) (by omega)) dX2_leastFree_7 (by decide) (fun c1 => ?_) (fun c1 => ?_)
      · skip
        refine lv_iconst (v := -1) hx hb dX2_leastFree_26 (by decide +kernel) ?_
        have e9 : lfB (bO eb ec) ec n = n := by unfold lfB; rw [fN_no (fun k hk => hi k (by omega))]; omega
        exact rt_i hx hb hr hlocks dX2_leastFree_27 (by rw [e9, if_neg (Nat.lt_irrefl n)])
      · skip
        refine lv_aload_n hx hb dX2_leastFree_10 rfl (lv_at hl 1 rfl) ?_
        refine lv_iload_n hx hb dX2_leastFree_11 rfl (lv_at hl 0 rfl) ?_
        refine rd_V (As := [.int (nI (3 + j))]) (rest := []) ⟨hx, hb, hml, hown, hts⟩ (c_X2_isUsed l D m0 m1 m2 m3 m4 m5 cB cI n L fd fc op tn eb ec th (3 + j) hn he hE (by omega)) (cwV 1 hts gX2_leastFree_X2_isUsed rfl rfl rfl (by decide +kernel) ⟨Nat.le_of_ble_eq_true rfl, Nat.le_of_ble_eq_true rfl⟩) hK hP [0, 1, 2, 3, 4, 5] rfl (ci := 3) rfl rfl (q0 := 0) rfl rfl hl.1 rfl (Nat.le_of_ble_eq_true rfl) dX2_leastFree_12 ⟨Nat.zero_le _, Nat.zero_le _⟩ (fun r2 hr2 => ?_)
        subst hr2
        by_cases q3 : (tk (bO eb ec) ec (3 + j))
        · skip
          refine lv_as (y := nI 1) (congrArg nI (b01_t q3)) ?_
          refine j0_ne (tgt := 20) hx hb (nI_toInt (n := 1) (by decide)) dX2_leastFree_15 (by decide) (fun c4 => ?_) (fun c4 => absurd c4 (by omega))
          refine lv_iinc (v := nI (3 + j + 1)) (lv' := [(1, .int (nI (3 + j + 1))), (0, .ref m0)]) hx hb dX2_leastFree_20 hl (k := 0) rfl (nI_add _ 1) (by decide) rfl (fun ls hl => ?_)
          refine lv_goto (tgt := 2) hx hb dX2_leastFree_23 (by decide) ?_
          exact ih (j + 1) (by omega) (by omega) (fun i q => (Nat.lt_or_eq_of_le (Nat.le_of_lt_succ q)).elim (hi i) (fun q => by rw [q]; exact fun z => z q3)) ls (lv_sub hl [0, 1] rfl)
        · skip
          refine lv_as (y := nI 0) (congrArg nI (b01_f q3)) ?_
          refine j0_ne (tgt := 20) hx hb (nI_toInt (n := 0) (by decide)) dX2_leastFree_15 (by decide) (fun c5 => absurd c5 (by omega)) (fun c5 => ?_)
          refine lv_iload_n hx hb dX2_leastFree_18 rfl (lv_at hl 0 rfl) ?_
          have e9 : lfB (bO eb ec) ec n = 3 + j := by unfold lfB; rw [fN_eq (P := (fun j => ¬ tk (bO eb ec) ec (3 + j))) (by omega) q3 hi]
          exact rt_i hx hb hr hlocks dX2_leastFree_19 (by rw [e9, if_pos (by omega)])
  refine lv_iconst (v := nI 3) hx hb dX2_leastFree_0 (by decide +kernel) ?_
  refine lv_istore_n (lv' := [(1, .int (nI 3)), (0, .ref m0)]) hx hb dX2_leastFree_1 rfl hl (by decide) rfl (fun ls hl => ?_)
  exact loop (n + 1) 0 (by omega) (by omega) (fun j q => absurd q (Nat.not_lt_zero j)) ls (lv_sub hl [0, 1] rfl)
set_option maxRecDepth 100000 in
set_option maxHeartbeats 4000000 in
/-- nameOf(e) -/
theorem c_X2_nameOf (l : Launch) (D : va_G) (m0 m1 m2 m3 m4 m5 : Nat) (cB cI : ClassId) (n : Nat) (L : Lg) (fd : Nat → Nat) (fc : Nat) (op : Nat) (tn : Nat) (eb : Nat → Nat) (ec : Nat) (th : Nat) (k : Nat) (hn : n ≤ 64) (hg : ∀ j, L.1 j < 256) (he : ec ≤ 40) (hE : ∀ k, bO eb ec k < n) (hk : k < ec) : Met l yX2_nameOf wsX2_nameOf ({ frames := 0, cells := 0, slots := 0, locals := 0 }) (rP [.ref m0, .int (nI k)] D (mW m0 m1 m2 m3 m4 m5 cB cI n L fd fc op tn eb ec th) (ty2 cB cI)) (vp_Si (fun r => r = nI (nmO L.1 (bO eb ec k)))) 0 0 (fun _ => False) := by
  refine met_r (by decide) rfl (Nat.le_of_ble_eq_true rfl) ?_
  intro p e s m below meth c hx hb hml hr hlocks hown hts hP hK ls hl
  have hown : s.vm.findClass RX2 = some m.cls := hown
  have hinX2 : ∀ w ∈ u_ws RX2 TX2 12, w ∈ wsX2_nameOf := by decide +kernel
  have hl : lv_has ls 2 [(0, .ref m0), (1, .int (nI k))] := hl
  have e9 := hE k
  refine lv_aload_n hx hb dX2_nameOf_0 rfl (lv_at hl 0 rfl) ?_
  refine va_get (D := D) (ci := 3) (v := .ref m1) (C := RX2) (T := TX2) (N := 12) hx hb hts hinX2 hown hK hP 0 rfl rfl 1 (by decide) (hts (.fieldLink RX2 7 "PuzzleBookModel" "store" "[I") (by decide +kernel)) (fun _ h9 => h9) rfl dX2_nameOf_1 ?_
  refine lv_bipush (v := nI 64) hx hb dX2_nameOf_4 (by decide +kernel) ?_
  refine lv_aload_n hx hb dX2_nameOf_6 rfl (lv_at hl 0 rfl) ?_
  refine va_get (D := D) (ci := 3) (v := .ref m2) (C := RX2) (T := TX2) (N := 12) hx hb hts hinX2 hown hK hP 0 rfl rfl 6 (by decide) (hts (.fieldLink RX2 13 "PuzzleBookModel" "block" "[I") (by decide +kernel)) (fun _ h9 => h9) rfl dX2_nameOf_7 ?_
  refine lv_iload_n hx hb dX2_nameOf_10 rfl (lv_at hl 1 rfl) ?_
  refine ld_i (f := eb) (k := k) hx hb hK hP 2 1 rfl rfl (by omega) (by decide) dX2_nameOf_11 ?_
  refine lv_as (y := nI (bO eb ec k)) (congrArg nI (bO_t (by omega)).symm) ?_
  refine lv_imul hx hb dX2_nameOf_12 ?_
  refine lv_as (y := nI (64 * (bO eb ec k))) (pk_mul _ _) ?_
  refine ld_i (f := L.1) (k := 64 * (bO eb ec k)) hx hb hK hP 1 1 rfl rfl (by omega) (by decide) dX2_nameOf_13 ?_
  have e9 := hE k
  refine lv_sipush (v := nI 256) hx hb dX2_nameOf_14 (by decide +kernel) ?_
  refine lv_aload_n hx hb dX2_nameOf_17 rfl (lv_at hl 0 rfl) ?_
  refine va_get (D := D) (ci := 3) (v := .ref m1) (C := RX2) (T := TX2) (N := 12) hx hb hts hinX2 hown hK hP 0 rfl rfl 1 (by decide) (hts (.fieldLink RX2 7 "PuzzleBookModel" "store" "[I") (by decide +kernel)) (fun _ h9 => h9) rfl dX2_nameOf_18 ?_
  refine lv_bipush (v := nI 64) hx hb dX2_nameOf_21 (by decide +kernel) ?_
  refine lv_aload_n hx hb dX2_nameOf_23 rfl (lv_at hl 0 rfl) ?_
  refine va_get (D := D) (ci := 3) (v := .ref m2) (C := RX2) (T := TX2) (N := 12) hx hb hts hinX2 hown hK hP 0 rfl rfl 6 (by decide) (hts (.fieldLink RX2 13 "PuzzleBookModel" "block" "[I") (by decide +kernel)) (fun _ h9 => h9) rfl dX2_nameOf_24 ?_
  refine lv_iload_n hx hb dX2_nameOf_27 rfl (lv_at hl 1 rfl) ?_
  refine ld_i (f := eb) (k := k) hx hb hK hP 2 1 rfl rfl (by omega) (by decide) dX2_nameOf_28 ?_
  refine lv_as (y := nI (bO eb ec k)) (congrArg nI (bO_t (by omega)).symm) ?_
  refine lv_imul hx hb dX2_nameOf_29 ?_
  refine lv_as (y := nI (64 * (bO eb ec k))) (pk_mul _ _) ?_
  refine lv_iconst (v := nI 1) hx hb dX2_nameOf_30 (by decide +kernel) ?_
  refine lv_iadd hx hb dX2_nameOf_31 ?_
  refine lv_as (y := nI ((64 * (bO eb ec k)) + 1)) (nI_add _ _) ?_
  refine ld_i (f := L.1) (k := (64 * (bO eb ec k)) + 1) hx hb hK hP 1 1 rfl rfl (by omega) (by decide) dX2_nameOf_32 ?_
  refine lv_imul hx hb dX2_nameOf_33 ?_
  refine lv_as (y := nI (256 * (L.1 ((64 * (bO eb ec k)) + 1)))) (pk_mul _ _) ?_
  refine lv_iadd hx hb dX2_nameOf_34 ?_
  refine lv_as (y := nI ((L.1 (64 * (bO eb ec k))) + (256 * (L.1 ((64 * (bO eb ec k)) + 1))))) (nI_add _ _) ?_
  exact rt_i hx hb hr hlocks dX2_nameOf_35 rfl
set_option maxRecDepth 100000 in
set_option maxHeartbeats 4000000 in
/-- longOf(e) -/
theorem c_X2_longOf (l : Launch) (D : va_G) (m0 m1 m2 m3 m4 m5 : Nat) (cB cI : ClassId) (n : Nat) (L : Lg) (fd : Nat → Nat) (fc : Nat) (op : Nat) (tn : Nat) (eb : Nat → Nat) (ec : Nat) (th : Nat) (k : Nat) (hn : n ≤ 64) (hg : ∀ j, L.1 j < 256) (he : ec ≤ 40) (hE : ∀ k, bO eb ec k < n) (hk : k < ec) : Met l yX2_longOf wsX2_longOf ({ frames := 0, cells := 0, slots := 0, locals := 0 }) (rP [.ref m0, .int (nI k)] D (mW m0 m1 m2 m3 m4 m5 cB cI n L fd fc op tn eb ec th) (ty2 cB cI)) (vp_Si (fun r => r = nI (L.1 (64 * bO eb ec k + 2)))) 0 0 (fun _ => False) := by
  refine met_r (by decide) rfl (Nat.le_of_ble_eq_true rfl) ?_
  intro p e s m below meth c hx hb hml hr hlocks hown hts hP hK ls hl
  have hown : s.vm.findClass RX2 = some m.cls := hown
  have hinX2 : ∀ w ∈ u_ws RX2 TX2 12, w ∈ wsX2_longOf := by decide +kernel
  have hl : lv_has ls 2 [(0, .ref m0), (1, .int (nI k))] := hl
  have e9 := hE k
  refine lv_aload_n hx hb dX2_longOf_0 rfl (lv_at hl 0 rfl) ?_
  refine va_get (D := D) (ci := 3) (v := .ref m1) (C := RX2) (T := TX2) (N := 12) hx hb hts hinX2 hown hK hP 0 rfl rfl 1 (by decide) (hts (.fieldLink RX2 7 "PuzzleBookModel" "store" "[I") (by decide +kernel)) (fun _ h9 => h9) rfl dX2_longOf_1 ?_
  refine lv_bipush (v := nI 64) hx hb dX2_longOf_4 (by decide +kernel) ?_
  refine lv_aload_n hx hb dX2_longOf_6 rfl (lv_at hl 0 rfl) ?_
  refine va_get (D := D) (ci := 3) (v := .ref m2) (C := RX2) (T := TX2) (N := 12) hx hb hts hinX2 hown hK hP 0 rfl rfl 6 (by decide) (hts (.fieldLink RX2 13 "PuzzleBookModel" "block" "[I") (by decide +kernel)) (fun _ h9 => h9) rfl dX2_longOf_7 ?_
  refine lv_iload_n hx hb dX2_longOf_10 rfl (lv_at hl 1 rfl) ?_
  refine ld_i (f := eb) (k := k) hx hb hK hP 2 1 rfl rfl (by omega) (by decide) dX2_longOf_11 ?_
  refine lv_as (y := nI (bO eb ec k)) (congrArg nI (bO_t (by omega)).symm) ?_
  refine lv_imul hx hb dX2_longOf_12 ?_
  refine lv_as (y := nI (64 * (bO eb ec k))) (pk_mul _ _) ?_
  refine lv_iconst (v := nI 2) hx hb dX2_longOf_13 (by decide +kernel) ?_
  refine lv_iadd hx hb dX2_longOf_14 ?_
  refine lv_as (y := nI ((64 * (bO eb ec k)) + 2)) (nI_add _ _) ?_
  refine ld_i (f := L.1) (k := (64 * (bO eb ec k)) + 2) hx hb hK hP 1 1 rfl rfl (by omega) (by decide) dX2_longOf_15 ?_
  exact rt_i hx hb hr hlocks dX2_longOf_16 rfl
set_option maxRecDepth 100000 in
set_option maxHeartbeats 4000000 in
/-- hasFed(e) -/
theorem c_X2_hasFed (l : Launch) (D : va_G) (m0 m1 m2 m3 m4 m5 : Nat) (cB cI : ClassId) (n : Nat) (L : Lg) (fd : Nat → Nat) (fc : Nat) (op : Nat) (tn : Nat) (eb : Nat → Nat) (ec : Nat) (th : Nat) (k : Nat) (hn : n ≤ 64) (hg : ∀ j, L.1 j < 256) (he : ec ≤ 40) (hE : ∀ k, bO eb ec k < n) (hk : k < ec) (hf : fc ≤ 48) (hd : ∀ i, fd i < 256) : Met l yX2_hasFed wsX2_hasFed ({ frames := 1, cells := 0, slots := 0, locals := 21 }) (rP [.ref m0, .int (nI k)] D (mW m0 m1 m2 m3 m4 m5 cB cI n L fd fc op tn eb ec th) (ty2 cB cI)) (vp_Si (fun r => r = nI (b01 (hF L.1 (bO eb ec k) fd fc)))) 0 0 (fun _ => False) := by
  refine met_r (by decide) rfl (Nat.le_of_ble_eq_true rfl) ?_
  intro p e s m below meth c hx hb hml hr hlocks hown hts hP hK ls hl
  have hown : s.vm.findClass RX2 = some m.cls := hown
  have hinX2 : ∀ w ∈ u_ws RX2 TX2 12, w ∈ wsX2_hasFed := by decide +kernel
  have hl : lv_has ls 3 [(0, .ref m0), (1, .int (nI k))] := hl
  refine lv_aload_n hx hb dX2_hasFed_0 rfl (lv_at hl 0 rfl) ?_
  refine lv_iload_n hx hb dX2_hasFed_1 rfl (lv_at hl 1 rfl) ?_
  refine rd_V (As := [.int (nI k)]) (rest := []) ⟨hx, hb, hml, hown, hts⟩ (c_X2_longOf l D m0 m1 m2 m3 m4 m5 cB cI n L fd fc op tn eb ec th k hn hg he hE hk) (cwV 1 hts gX2_hasFed_X2_longOf rfl rfl rfl (by decide +kernel) ⟨Nat.le_of_ble_eq_true rfl, Nat.le_of_ble_eq_true rfl⟩) hK hP [0, 1, 2, 3, 4, 5] rfl (ci := 3) rfl rfl (q0 := 0) rfl rfl hl.1 rfl (Nat.le_of_ble_eq_true rfl) dX2_hasFed_2 ⟨Nat.zero_le _, Nat.zero_le _⟩ (fun r1 hr1 => ?_)
  subst hr1
  have g9 := hg (64 * bO eb ec k + 2)
  refine lv_aload_n hx hb dX2_hasFed_5 rfl (lv_at hl 0 rfl) ?_
  refine va_get (D := D) (ci := 3) (v := .int (nI fc)) (C := RX2) (T := TX2) (N := 12) hx hb hts hinX2 hown hK hP 0 rfl rfl 8 (by decide) (hts (.fieldLink RX2 61 "PuzzleBookModel" "fedLong" "I") (by decide +kernel)) (fun _ h9 => h9) rfl dX2_hasFed_6 ?_
  refine jb_eq (tgt := 14) hx hb (nI_toInt (n := L.1 (64 * bO eb ec k + 2)) (by omega)) (nI_toInt (n := fc) (by omega)) dX2_hasFed_9 (by decide) (fun c2 => ?_) (fun c2 => ?_)
  · skip
    have hl9 : L.1 (64 * bO eb ec k + 2) = fc := Int.ofNat_inj.mp c2
    have loop : ∀ (fu i : Nat), i ≤ fc → fc - i < fu → (∀ j, j < i → L.1 (64 * bO eb ec k + (3 + j)) = fd j) → ∀ ls : Array Slot, lv_has ls 3 [(2, .int (nI i)), (0, .ref m0), (1, .int (nI k))] → W p l e ({ frames := 1, cells := 0, slots := 0, locals := 21 }) s m [.ref m0, .int (nI k)].toArray below meth c s.heap [] 0 0 (MQ below (vp_Si (fun r => r = nI (b01 (hF L.1 (bO eb ec k) fd fc)))) [.ref m0, .int (nI k)].toArray s 0 0 (fun _ => False)) (F0 m 16 ls []) := by
      intro fu
      induction fu with
      | zero => intro i hk hf; omega
      | succ fu ih =>
        intro i hi hfu hj ls hl
        refine lv_iload_n hx hb dX2_hasFed_16 rfl (lv_at hl 0 rfl) ?_
        refine lv_aload_n hx hb dX2_hasFed_17 rfl (lv_at hl 1 rfl) ?_
        refine va_get (D := D) (ci := 3) (v := .int (nI fc)) (C := RX2) (T := TX2) (N := 12) hx hb hts hinX2 hown hK hP 0 rfl rfl 8 (by decide) (hts (.fieldLink RX2 61 "PuzzleBookModel" "fedLong" "I") (by decide +kernel)) (fun _ h9 => h9) rfl dX2_hasFed_18 ?_
        refine jb_ge (tgt := 59) hx hb (nI_toInt (n := i) (by omega)) (nI_toInt (n := fc) (by omega)) dX2_hasFed_21 (by decide) (fun c3 => ?_) (fun c3 => ?_)
        · skip
          refine lv_iconst (v := nI 1) hx hb dX2_hasFed_59 (by decide +kernel) ?_
          have hk9 : fc = i := by omega
          subst hk9
          exact rt_z hx hb hr hlocks dX2_hasFed_60 (by decide +kernel) (by rw [b01_t ⟨hl9, hj⟩])
        · skip
          have e9 := hE k
          refine lv_aload_n hx hb dX2_hasFed_24 rfl (lv_at hl 1 rfl) ?_
          refine va_get (D := D) (ci := 3) (v := .ref m1) (C := RX2) (T := TX2) (N := 12) hx hb hts hinX2 hown hK hP 0 rfl rfl 1 (by decide) (hts (.fieldLink RX2 7 "PuzzleBookModel" "store" "[I") (by decide +kernel)) (fun _ h9 => h9) rfl dX2_hasFed_25 ?_
          refine lv_bipush (v := nI 64) hx hb dX2_hasFed_28 (by decide +kernel) ?_
          refine lv_aload_n hx hb dX2_hasFed_30 rfl (lv_at hl 1 rfl) ?_
          refine va_get (D := D) (ci := 3) (v := .ref m2) (C := RX2) (T := TX2) (N := 12) hx hb hts hinX2 hown hK hP 0 rfl rfl 6 (by decide) (hts (.fieldLink RX2 13 "PuzzleBookModel" "block" "[I") (by decide +kernel)) (fun _ h9 => h9) rfl dX2_hasFed_31 ?_
          refine lv_iload_n hx hb dX2_hasFed_34 rfl (lv_at hl 2 rfl) ?_
          refine ld_i (f := eb) (k := k) hx hb hK hP 2 1 rfl rfl (by omega) (by decide) dX2_hasFed_35 ?_
          refine lv_as (y := nI (bO eb ec k)) (congrArg nI (bO_t (by omega)).symm) ?_
          refine lv_imul hx hb dX2_hasFed_36 ?_
          refine lv_as (y := nI (64 * (bO eb ec k))) (pk_mul _ _) ?_
          refine lv_iconst (v := nI 3) hx hb dX2_hasFed_37 (by decide +kernel) ?_
          refine lv_iadd hx hb dX2_hasFed_38 ?_
          refine lv_as (y := nI ((64 * (bO eb ec k)) + 3)) (nI_add _ _) ?_
          refine lv_iload_n hx hb dX2_hasFed_39 rfl (lv_at hl 0 rfl) ?_
          refine lv_iadd hx hb dX2_hasFed_40 ?_
          refine lv_as (y := nI (((64 * (bO eb ec k)) + 3) + i)) (nI_add _ _) ?_
          refine lv_as (y := nI (64 * bO eb ec k + (3 + i))) (congrArg nI (by omega)) ?_
          refine ld_i (f := L.1) (k := 64 * bO eb ec k + (3 + i)) hx hb hK hP 1 1 rfl rfl (by omega) (by decide) dX2_hasFed_41 ?_
          have g8 := hg (64 * bO eb ec k + (3 + i))
          have d8 := hd i
          refine lv_aload_n hx hb dX2_hasFed_42 rfl (lv_at hl 1 rfl) ?_
          refine va_get (D := D) (ci := 3) (v := .ref m3) (C := RX2) (T := TX2) (N := 12) hx hb hts hinX2 hown hK hP 0 rfl rfl 7 (by decide) (hts (.fieldLink RX2 16 "PuzzleBookModel" "fed" "[I") (by decide +kernel)) (fun _ h9 => h9) rfl dX2_hasFed_43 ?_
          refine lv_iload_n hx hb dX2_hasFed_46 rfl (lv_at hl 0 rfl) ?_
          refine ld_i (f := fd) (k := i) hx hb hK hP 3 1 rfl rfl (by omega) (by decide) dX2_hasFed_47 ?_
          refine jb_eq (tgt := 53) hx hb (nI_toInt (n := L.1 (64 * bO eb ec k + (3 + i))) (by omega)) (nI_toInt (n := fd i) (by omega)) dX2_hasFed_48 (by decide) (fun c4 => ?_) (fun c4 => ?_)
          · skip
            refine lv_iinc (v := nI (i + 1)) (lv' := [(2, .int (nI (i + 1))), (0, .ref m0), (1, .int (nI k))]) hx hb dX2_hasFed_53 hl (k := 0) rfl (nI_add _ 1) (by decide) rfl (fun ls hl => ?_)
            refine lv_goto (tgt := 16) hx hb dX2_hasFed_56 (by decide) ?_
            exact ih (i + 1) (by omega) (by omega) (fun j q => (Nat.lt_or_eq_of_le (Nat.le_of_lt_succ q)).elim (hj j) (fun q => by rw [q]; exact Int.ofNat_inj.mp c4)) ls (lv_sub hl [0, 1, 2] rfl)
          · skip
            refine lv_iconst (v := nI 0) hx hb dX2_hasFed_51 (by decide +kernel) ?_
            exact rt_z hx hb hr hlocks dX2_hasFed_52 (by decide +kernel) (by rw [b01_f (fun h => c4 (by rw [h.2 i (by omega)]))])
    refine lv_iconst (v := nI 0) hx hb dX2_hasFed_14 (by decide +kernel) ?_
    refine lv_istore_n (lv' := [(2, .int (nI 0)), (0, .ref m0), (1, .int (nI k))]) hx hb dX2_hasFed_15 rfl hl (by decide) rfl (fun ls hl => ?_)
    exact loop (fc + 1) 0 (by omega) (by omega) (fun j q => absurd q (Nat.not_lt_zero j)) ls (lv_sub hl [0, 1, 2] rfl)
  · skip
    refine lv_iconst (v := nI 0) hx hb dX2_hasFed_12 (by decide +kernel) ?_
    exact rt_z hx hb hr hlocks dX2_hasFed_13 (by decide +kernel) (by rw [b01_f (fun h => c2 (by rw [h.1]))])
set_option maxRecDepth 100000 in
set_option maxHeartbeats 4000000 in
/-- isByte(b, i) -/
theorem c_X2_isByte (l : Launch) (D : va_G) (m0 m1 m2 m3 m4 m5 : Nat) (cB cI : ClassId) (n : Nat) (L : Lg) (fd : Nat → Nat) (fc : Nat) (op : Nat) (tn : Nat) (eb : Nat → Nat) (ec : Nat) (th : Nat) (bv iv : Int32) (bz iz : Int) (hn : n ≤ 64) (h1 : bv.toInt = bz) (h2 : iv.toInt = iz) : Met l yX2_isByte wsX2_isByte ({ frames := 0, cells := 0, slots := 0, locals := 0 }) (rP [.ref m0, .int bv, .int iv] D (mW m0 m1 m2 m3 m4 m5 cB cI n L fd fc op tn eb ec th) (ty2 cB cI)) (vp_Si (fun r => r = nI (b01 (0 ≤ bz ∧ bz < (n : Int) ∧ 0 ≤ iz ∧ iz < 64)))) 0 0 (fun _ => False) := by
  refine met_r (by decide) rfl (Nat.le_of_ble_eq_true rfl) ?_
  intro p e s m below meth c hx hb hml hr hlocks hown hts hP hK ls hl
  have hown : s.vm.findClass RX2 = some m.cls := hown
  have hinX2 : ∀ w ∈ u_ws RX2 TX2 12, w ∈ wsX2_isByte := by decide +kernel
  have hl : lv_has ls 3 [(0, .ref m0), (1, .int bv), (2, .int iv)] := hl
  refine lv_iload_n hx hb dX2_isByte_0 rfl (lv_at hl 1 rfl) ?_
  refine j0_lt (tgt := 26) hx hb h1 dX2_isByte_1 (by decide) (fun c1 => ?_) (fun c1 => ?_)
  · skip
    refine lv_iconst (v := nI 0) hx hb dX2_isByte_26 (by decide +kernel) ?_
    exact rt_z hx hb hr hlocks dX2_isByte_27 (by decide +kernel) (by rw [b01_f (by omega)])
  · skip
    refine lv_iload_n hx hb dX2_isByte_4 rfl (lv_at hl 1 rfl) ?_
    refine lv_aload_n hx hb dX2_isByte_5 rfl (lv_at hl 0 rfl) ?_
    refine va_get (D := D) (ci := 3) (v := .int (nI n)) (C := RX2) (T := TX2) (N := 12) hx hb hts hinX2 hown hK hP 0 rfl rfl 0 (by decide) (hts (.fieldLink RX2 25 "PuzzleBookModel" "blocks" "I") (by decide +kernel)) (fun _ h9 => h9) rfl dX2_isByte_6 ?_
    refine jb_ge (tgt := 26) hx hb h1 (nI_toInt (n := n) (by omega)) dX2_isByte_9 (by decide) (fun c2 => ?_) (fun c2 => ?_)
    · skip
      refine lv_iconst (v := nI 0) hx hb dX2_isByte_26 (by decide +kernel) ?_
      exact rt_z hx hb hr hlocks dX2_isByte_27 (by decide +kernel) (by rw [b01_f (by omega)])
    · skip
      refine lv_iload_n hx hb dX2_isByte_12 rfl (lv_at hl 2 rfl) ?_
      refine j0_lt (tgt := 26) hx hb h2 dX2_isByte_13 (by decide) (fun c3 => ?_) (fun c3 => ?_)
      · skip
        refine lv_iconst (v := nI 0) hx hb dX2_isByte_26 (by decide +kernel) ?_
        exact rt_z hx hb hr hlocks dX2_isByte_27 (by decide +kernel) (by rw [b01_f (by omega)])
      · skip
        refine lv_iload_n hx hb dX2_isByte_16 rfl (lv_at hl 2 rfl) ?_
        refine lv_bipush (v := nI 64) hx hb dX2_isByte_17 (by decide +kernel) ?_
        refine jb_ge (tgt := 26) hx hb h2 (nI_toInt (n := 64) (by decide)) dX2_isByte_19 (by decide) (fun c4 => ?_) (fun c4 => ?_)
        · skip
          refine lv_iconst (v := nI 0) hx hb dX2_isByte_26 (by decide +kernel) ?_
          exact rt_z hx hb hr hlocks dX2_isByte_27 (by decide +kernel) (by rw [b01_f (by omega)])
        · skip
          refine lv_iconst (v := nI 1) hx hb dX2_isByte_22 (by decide +kernel) ?_
          refine lv_goto (tgt := 27) hx hb dX2_isByte_23 (by decide) ?_
          exact rt_z hx hb hr hlocks dX2_isByte_27 (by decide +kernel) (by rw [b01_t (by omega)])
set_option maxRecDepth 100000 in
set_option maxHeartbeats 4000000 in
/-- entryIsRight(b) -/
theorem c_X2_entryIsRight (l : Launch) (D : va_G) (m0 m1 m2 m3 m4 m5 : Nat) (cB cI : ClassId) (n : Nat) (L : Lg) (fd : Nat → Nat) (fc : Nat) (op : Nat) (tn : Nat) (eb : Nat → Nat) (ec : Nat) (th : Nat) (bk : Nat) (hg : ∀ j, L.1 j < 256) (h1 : bk < 64) : Met l yX2_entryIsRight wsX2_entryIsRight ({ frames := 2, cells := 0, slots := 0, locals := 46 }) (rP [.ref m0, .int (nI bk)] D (mW m0 m1 m2 m3 m4 m5 cB cI n L fd fc op tn eb ec th) (ty2 cB cI)) (vp_Si (fun r => r = nI (b01 (¬ wrE L.1 bk)))) 0 0 (fun _ => False) := by
  refine met_r (by decide) rfl (Nat.le_of_ble_eq_true rfl) ?_
  intro p e s m below meth c hx hb hml hr hlocks hown hts hP hK ls hl
  have hown : s.vm.findClass RX2 = some m.cls := hown
  have hinX2 : ∀ w ∈ u_ws RX2 TX2 12, w ∈ wsX2_entryIsRight := by decide +kernel
  have hl : lv_has ls 3 [(0, .ref m0), (1, .int (nI bk))] := hl
  have g9 := hg (64 * bk + 2)
  refine lv_aload_n hx hb dX2_entryIsRight_0 rfl (lv_at hl 0 rfl) ?_
  refine va_get (D := D) (ci := 3) (v := .ref m1) (C := RX2) (T := TX2) (N := 12) hx hb hts hinX2 hown hK hP 0 rfl rfl 1 (by decide) (hts (.fieldLink RX2 7 "PuzzleBookModel" "store" "[I") (by decide +kernel)) (fun _ h9 => h9) rfl dX2_entryIsRight_1 ?_
  refine lv_bipush (v := nI 64) hx hb dX2_entryIsRight_4 (by decide +kernel) ?_
  refine lv_iload_n hx hb dX2_entryIsRight_6 rfl (lv_at hl 1 rfl) ?_
  refine lv_imul hx hb dX2_entryIsRight_7 ?_
  refine lv_as (y := nI (64 * bk)) (pk_mul _ _) ?_
  refine lv_iconst (v := nI 2) hx hb dX2_entryIsRight_8 (by decide +kernel) ?_
  refine lv_iadd hx hb dX2_entryIsRight_9 ?_
  refine lv_as (y := nI ((64 * bk) + 2)) (nI_add _ _) ?_
  refine ld_i (f := L.1) (k := (64 * bk) + 2) hx hb hK hP 1 1 rfl rfl (by omega) (by decide) dX2_entryIsRight_10 ?_
  refine lv_istore_n (lv' := [(2, .int (nI (L.1 ((64 * bk) + 2)))), (0, .ref m0), (1, .int (nI bk))]) hx hb dX2_entryIsRight_11 rfl hl (by decide) rfl (fun ls hl => ?_)
  refine lv_aload_n hx hb dX2_entryIsRight_12 rfl (lv_at hl 1 rfl) ?_
  refine lv_iload_n hx hb dX2_entryIsRight_13 rfl (lv_at hl 2 rfl) ?_
  refine rd_V (As := [.int (nI bk)]) (rest := []) ⟨hx, hb, hml, hown, hts⟩ (c_X2_isRight l D m0 m1 m2 m3 m4 m5 cB cI n L fd fc op tn eb ec th bk hg h1) (cwV 1 hts gX2_entryIsRight_X2_isRight rfl rfl rfl (by decide +kernel) ⟨Nat.le_of_ble_eq_true rfl, Nat.le_of_ble_eq_true rfl⟩) hK hP [0, 1, 2, 3, 4, 5] rfl (ci := 3) rfl rfl (q0 := 0) rfl rfl hl.1 rfl (Nat.le_of_ble_eq_true rfl) dX2_entryIsRight_14 ⟨Nat.zero_le _, Nat.zero_le _⟩ (fun r1 hr1 => ?_)
  subst hr1
  by_cases q2 : (okS L.1 (64 * bk))
  · skip
    refine lv_as (y := nI 1) (congrArg nI (b01_t q2)) ?_
    refine j0_eq (tgt := 35) hx hb (nI_toInt (n := 1) (by decide)) dX2_entryIsRight_17 (by decide) (fun c3 => absurd c3 (by omega)) (fun c3 => ?_)
    refine lv_iload_n hx hb dX2_entryIsRight_20 rfl (lv_at hl 0 rfl) ?_
    refine lv_iconst (v := nI 1) hx hb dX2_entryIsRight_21 (by decide +kernel) ?_
    refine jb_lt (tgt := 35) hx hb (nI_toInt (n := L.1 ((64 * bk) + 2)) (by omega)) (nI_toInt (n := 1) (by decide)) dX2_entryIsRight_22 (by decide) (fun c4 => ?_) (fun c4 => ?_)
    · skip
      refine lv_iconst (v := nI 0) hx hb dX2_entryIsRight_35 (by decide +kernel) ?_
      exact rt_z hx hb hr hlocks dX2_entryIsRight_36 (by decide +kernel) (by rw [b01_f (fun h => h (Or.inr (Or.inl (by omega))))])
    · skip
      refine lv_iload_n hx hb dX2_entryIsRight_25 rfl (lv_at hl 0 rfl) ?_
      refine lv_bipush (v := nI 48) hx hb dX2_entryIsRight_26 (by decide +kernel) ?_
      refine jb_gt (tgt := 35) hx hb (nI_toInt (n := L.1 ((64 * bk) + 2)) (by omega)) (nI_toInt (n := 48) (by decide)) dX2_entryIsRight_28 (by decide) (fun c5 => ?_) (fun c5 => ?_)
      · skip
        refine lv_iconst (v := nI 0) hx hb dX2_entryIsRight_35 (by decide +kernel) ?_
        exact rt_z hx hb hr hlocks dX2_entryIsRight_36 (by decide +kernel) (by rw [b01_f (fun h => h (Or.inr (Or.inr (by omega))))])
      · skip
        refine lv_iconst (v := nI 1) hx hb dX2_entryIsRight_31 (by decide +kernel) ?_
        refine lv_goto (tgt := 36) hx hb dX2_entryIsRight_32 (by decide) ?_
        exact rt_z hx hb hr hlocks dX2_entryIsRight_36 (by decide +kernel) (by rw [b01_t (fun h => h.elim (fun z => z q2) (fun z => by omega))])
  · skip
    refine lv_as (y := nI 0) (congrArg nI (b01_f q2)) ?_
    refine j0_eq (tgt := 35) hx hb (nI_toInt (n := 0) (by decide)) dX2_entryIsRight_17 (by decide) (fun c6 => ?_) (fun c6 => absurd c6 (by omega))
    refine lv_iconst (v := nI 0) hx hb dX2_entryIsRight_35 (by decide +kernel) ?_
    exact rt_z hx hb hr hlocks dX2_entryIsRight_36 (by decide +kernel) (by rw [b01_f (fun h => h (Or.inl q2))])
end
section
/-! 11: PuzzleBookModel, its calls (laid by wip/whole/gen/gen_mapi.py) -/
/-- the bytes when the last j writes are undone, the last first -/
def unD (L : Lg) : Nat → Nat → Nat
  | 0 => L.1
  | j + 1 => va_up (unD L j) (L.2.1 (L.2.2.2 - 1 - j)) (L.2.2.1 (L.2.2.2 - 1 - j))
theorem unD_s {L : Lg} {t : Nat} (h : 0 < t) (h2 : t ≤ L.2.2.2) : unD L (L.2.2.2 - (t - 1)) = va_up (unD L (L.2.2.2 - t)) (L.2.1 (t - 1)) (L.2.2.1 (t - 1)) := by
  rw [show L.2.2.2 - (t - 1) = L.2.2.2 - t + 1 by omega]
  show va_up _ _ _ = _
  rw [show L.2.2.2 - 1 - (L.2.2.2 - t) = t - 1 by omega]
def mcF (L : Lg) (op : Nat) (kz : Int) : Lg × Nat × Int32 := if op ≠ 0 ∧ L.2.2.2 ≠ 0 ∧ 0 ≤ kz ∧ kz ≤ (L.2.2.2 : Int) then ((unD L (L.2.2.2 - kz.toNat), L.2.1, L.2.2.1, L.2.2.2), 0, nI 1) else (L, op, nI 0)
noncomputable def qm_bad (g E : Nat → Nat) (op tn ec n : Nat) : Int32 := if op = 0 then -1 else @ite Int32 (okS g (64 * tn)) (Classical.propDecidable _) (if fN (fun j => tk E ec (3 + j) ∧ ¬ okS g (64 * (3 + j))) (n - 3) < n - 3 then nI (3 + fN (fun j => tk E ec (3 + j) ∧ ¬ okS g (64 * (3 + j))) (n - 3)) else -1) (nI tn)
/-- reopen: open or not, the turn, the entries, how many, the answer -/
noncomputable def rmF (g : Nat → Nat) (n tn : Nat) (eb : Nat → Nat) (ec : Nat) : Nat × Nat × (Nat → Nat) × Nat × Int32 :=
  @ite _ (t12 g) (Classical.propDecidable _) (@ite _ (rdO g (g 0) n) (Classical.propDecidable _) (if lwN (wrE g) (fun k => g (64 * g 0 + (1 + k))) (g (64 * g 0)) < 1000 then (0, tn, eb, ec, -1 - nI (lwN (wrE g) (fun k => g (64 * g 0 + (1 + k))) (g (64 * g 0)))) else (1, g 0, cpE g (g 0) eb (g (64 * g 0)), g (64 * g 0), nI (g (64 * g 0)))) (0, tn, eb, ec, -1 - nI (g 0))) (0, tn, eb, ec, -1)
theorem rmF_n {g : Nat → Nat} {n tn ec : Nat} {eb : Nat → Nat} (h : ¬ t12 g) : rmF g n tn eb ec = (0, tn, eb, ec, -1) := if_neg h
theorem rmF_r {g : Nat → Nat} {n tn ec : Nat} {eb : Nat → Nat} (h : t12 g) (h2 : ¬ rdO g (g 0) n) : rmF g n tn eb ec = (0, tn, eb, ec, -1 - nI (g 0)) := (if_pos h).trans (if_neg h2)
theorem rmF_e {g : Nat → Nat} {n tn ec : Nat} {eb : Nat → Nat} (h : t12 g) (h2 : rdO g (g 0) n) (h3 : lwN (wrE g) (fun k => g (64 * g 0 + (1 + k))) (g (64 * g 0)) < 1000) : rmF g n tn eb ec = (0, tn, eb, ec, -1 - nI (lwN (wrE g) (fun k => g (64 * g 0 + (1 + k))) (g (64 * g 0)))) := (if_pos h).trans ((if_pos h2).trans (if_pos h3))
theorem rmF_o {g : Nat → Nat} {n tn ec : Nat} {eb : Nat → Nat} (h : t12 g) (h2 : rdO g (g 0) n) (h3 : ¬ lwN (wrE g) (fun k => g (64 * g 0 + (1 + k))) (g (64 * g 0)) < 1000) : rmF g n tn eb ec = (1, g 0, cpE g (g 0) eb (g (64 * g 0)), g (64 * g 0), nI (g (64 * g 0))) := (if_pos h).trans ((if_pos h2).trans (if_neg h3))
set_option maxRecDepth 100000 in
set_option maxHeartbeats 4000000 in
/-- rootIsRight(b) -/
theorem c_X2_rootIsRight (l : Launch) (D : va_G) (m0 m1 m2 m3 m4 m5 : Nat) (cB cI : ClassId) (n : Nat) (L : Lg) (fd : Nat → Nat) (fc : Nat) (op : Nat) (tn : Nat) (eb : Nat → Nat) (ec : Nat) (th : Nat) (bk : Nat) (hn : n ≤ 64) (hg : ∀ j, L.1 j < 256) (h1 : bk < 64) : Met l yX2_rootIsRight wsX2_rootIsRight ({ frames := 2, cells := 0, slots := 0, locals := 46 }) (rP [.ref m0, .int (nI bk)] D (mW m0 m1 m2 m3 m4 m5 cB cI n L fd fc op tn eb ec th) (ty2 cB cI)) (vp_Si (fun r => r = nI (b01 (rdO L.1 bk n)))) 0 0 (fun _ => False) := by
  refine met_r (by decide) rfl (Nat.le_of_ble_eq_true rfl) ?_
  intro p e s m below meth c hx hb hml hr hlocks hown hts hP hK ls hl
  have hown : s.vm.findClass RX2 = some m.cls := hown
  have hinX2 : ∀ w ∈ u_ws RX2 TX2 12, w ∈ wsX2_rootIsRight := by decide +kernel
  have hl : lv_has ls 6 [(0, .ref m0), (1, .int (nI bk))] := hl
  have g0 := hg (64 * bk)
  refine lv_aload_n hx hb dX2_rootIsRight_0 rfl (lv_at hl 0 rfl) ?_
  refine va_get (D := D) (ci := 3) (v := .ref m1) (C := RX2) (T := TX2) (N := 12) hx hb hts hinX2 hown hK hP 0 rfl rfl 1 (by decide) (hts (.fieldLink RX2 7 "PuzzleBookModel" "store" "[I") (by decide +kernel)) (fun _ h9 => h9) rfl dX2_rootIsRight_1 ?_
  refine lv_bipush (v := nI 64) hx hb dX2_rootIsRight_4 (by decide +kernel) ?_
  refine lv_iload_n hx hb dX2_rootIsRight_6 rfl (lv_at hl 1 rfl) ?_
  refine lv_imul hx hb dX2_rootIsRight_7 ?_
  refine lv_as (y := nI (64 * bk)) (pk_mul _ _) ?_
  refine ld_i (f := L.1) (k := 64 * bk) hx hb hK hP 1 1 rfl rfl (by omega) (by decide) dX2_rootIsRight_8 ?_
  refine lv_istore_n (lv' := [(2, .int (nI (L.1 (64 * bk)))), (0, .ref m0), (1, .int (nI bk))]) hx hb dX2_rootIsRight_9 rfl hl (by decide) rfl (fun ls hl => ?_)
  refine lv_aload_n hx hb dX2_rootIsRight_10 rfl (lv_at hl 1 rfl) ?_
  refine lv_iload_n hx hb dX2_rootIsRight_11 rfl (lv_at hl 2 rfl) ?_
  refine rd_V (As := [.int (nI bk)]) (rest := []) ⟨hx, hb, hml, hown, hts⟩ (c_X2_isRight l D m0 m1 m2 m3 m4 m5 cB cI n L fd fc op tn eb ec th bk hg h1) (cwV 1 hts gX2_rootIsRight_X2_isRight rfl rfl rfl (by decide +kernel) ⟨Nat.le_of_ble_eq_true rfl, Nat.le_of_ble_eq_true rfl⟩) hK hP [0, 1, 2, 3, 4, 5] rfl (ci := 3) rfl rfl (q0 := 0) rfl rfl hl.1 rfl (Nat.le_of_ble_eq_true rfl) dX2_rootIsRight_12 ⟨Nat.zero_le _, Nat.zero_le _⟩ (fun r1 hr1 => ?_)
  subst hr1
  by_cases q2 : (okS L.1 (64 * bk))
  · skip
    refine lv_as (y := nI 1) (congrArg nI (b01_t q2)) ?_
    refine j0_eq (tgt := 24) hx hb (nI_toInt (n := 1) (by decide)) dX2_rootIsRight_15 (by decide) (fun c3 => absurd c3 (by omega)) (fun c3 => ?_)
    refine lv_iload_n hx hb dX2_rootIsRight_18 rfl (lv_at hl 0 rfl) ?_
    refine lv_bipush (v := nI 40) hx hb dX2_rootIsRight_19 (by decide +kernel) ?_
    refine jb_le (tgt := 26) hx hb (nI_toInt (n := L.1 (64 * bk)) (by omega)) (nI_toInt (n := 40) (by decide)) dX2_rootIsRight_21 (by decide) (fun c4 => ?_) (fun c4 => ?_)
    · skip
      have loop : ∀ (fu k : Nat), k ≤ L.1 (64 * bk) → L.1 (64 * bk) - k < fu → (∀ j, j < k → ¬ badK L.1 bk n j) → ∀ ls : Array Slot, lv_has ls 6 [(3, .int (nI (1 + k))), (2, .int (nI (L.1 (64 * bk)))), (0, .ref m0), (1, .int (nI bk))] → W p l e ({ frames := 2, cells := 0, slots := 0, locals := 46 }) s m [.ref m0, .int (nI bk)].toArray below meth c s.heap [] 0 0 (MQ below (vp_Si (fun r => r = nI (b01 (rdO L.1 bk n)))) [.ref m0, .int (nI bk)].toArray s 0 0 (fun _ => False)) (F0 m 28 ls []) := by
        intro fu
        induction fu with
        | zero => intro k hk hf; omega
        | succ fu ih =>
          intro k hk hfu hi ls hl
          refine lv_iload_n hx hb dX2_rootIsRight_28 rfl (lv_at hl 0 rfl) ?_
          refine lv_iload_n hx hb dX2_rootIsRight_29 rfl (lv_at hl 1 rfl) ?_
          refine jb_gt (tgt := 103) hx hb (nI_toInt (n := 1 + k) (by omega)) (nI_toInt (n := L.1 (64 * bk)) (by omega)) dX2_rootIsRight_30 (by decide) (fun c5 => ?_) (fun c5 => ?_)
          · skip
            refine lv_iconst (v := nI 1) hx hb dX2_rootIsRight_103 (by decide +kernel) ?_
            exact rt_z hx hb hr hlocks dX2_rootIsRight_104 (by decide +kernel) (by rw [b01_t ⟨⟨q2, by omega⟩, fun j hj => hi j (by omega)⟩])
          · skip
            have g9 := hg (64 * bk + (1 + k))
            refine lv_aload_n hx hb dX2_rootIsRight_33 rfl (lv_at hl 2 rfl) ?_
            refine va_get (D := D) (ci := 3) (v := .ref m1) (C := RX2) (T := TX2) (N := 12) hx hb hts hinX2 hown hK hP 0 rfl rfl 1 (by decide) (hts (.fieldLink RX2 7 "PuzzleBookModel" "store" "[I") (by decide +kernel)) (fun _ h9 => h9) rfl dX2_rootIsRight_34 ?_
            refine lv_bipush (v := nI 64) hx hb dX2_rootIsRight_37 (by decide +kernel) ?_
            refine lv_iload_n hx hb dX2_rootIsRight_39 rfl (lv_at hl 3 rfl) ?_
            refine lv_imul hx hb dX2_rootIsRight_40 ?_
            refine lv_as (y := nI (64 * bk)) (pk_mul _ _) ?_
            refine lv_iload_n hx hb dX2_rootIsRight_41 rfl (lv_at hl 0 rfl) ?_
            refine lv_iadd hx hb dX2_rootIsRight_42 ?_
            refine lv_as (y := nI ((64 * bk) + (1 + k))) (nI_add _ _) ?_
            refine ld_i (f := L.1) (k := (64 * bk) + (1 + k)) hx hb hK hP 1 1 rfl rfl (by omega) (by decide) dX2_rootIsRight_43 ?_
            refine lv_istore (lv' := [(4, .int (nI (L.1 ((64 * bk) + (1 + k))))), (3, .int (nI (1 + k))), (2, .int (nI (L.1 (64 * bk)))), (0, .ref m0), (1, .int (nI bk))]) hx hb dX2_rootIsRight_44 hl (by decide) rfl (fun ls hl => ?_)
            refine lv_iload hx hb dX2_rootIsRight_46 (lv_at hl 0 rfl) ?_
            refine lv_iconst (v := nI 3) hx hb dX2_rootIsRight_48 (by decide +kernel) ?_
            refine jb_lt (tgt := 61) hx hb (nI_toInt (n := L.1 ((64 * bk) + (1 + k))) (by omega)) (nI_toInt (n := 3) (by decide)) dX2_rootIsRight_49 (by decide) (fun c6 => ?_) (fun c6 => ?_)
            · skip
              refine lv_iconst (v := nI 0) hx hb dX2_rootIsRight_61 (by decide +kernel) ?_
              exact rt_z hx hb hr hlocks dX2_rootIsRight_62 (by decide +kernel) (by rw [b01_f (fun h => h.2 k (by omega) (Or.inl (by omega)))])
            · skip
              refine lv_iload hx hb dX2_rootIsRight_52 (lv_at hl 0 rfl) ?_
              refine lv_aload_n hx hb dX2_rootIsRight_54 rfl (lv_at hl 3 rfl) ?_
              refine va_get (D := D) (ci := 3) (v := .int (nI n)) (C := RX2) (T := TX2) (N := 12) hx hb hts hinX2 hown hK hP 0 rfl rfl 0 (by decide) (hts (.fieldLink RX2 25 "PuzzleBookModel" "blocks" "I") (by decide +kernel)) (fun _ h9 => h9) rfl dX2_rootIsRight_55 ?_
              refine jb_lt (tgt := 63) hx hb (nI_toInt (n := L.1 ((64 * bk) + (1 + k))) (by omega)) (nI_toInt (n := n) (by omega)) dX2_rootIsRight_58 (by decide) (fun c7 => ?_) (fun c7 => ?_)
              · skip
                have loop2 : ∀ (fv j : Nat), j ≤ k → k - j < fv → (∀ i, i < j → ¬ L.1 (64 * bk + (1 + i)) = L.1 (64 * bk + (1 + k))) → ∀ ls : Array Slot, lv_has ls 6 [(5, .int (nI (1 + j))), (4, .int (nI (L.1 (64 * bk + (1 + k))))), (3, .int (nI (1 + k))), (2, .int (nI (L.1 (64 * bk)))), (0, .ref m0), (1, .int (nI bk))] → W p l e ({ frames := 2, cells := 0, slots := 0, locals := 46 }) s m [.ref m0, .int (nI bk)].toArray below meth c s.heap [] 0 0 (MQ below (vp_Si (fun r => r = nI (b01 (rdO L.1 bk n)))) [.ref m0, .int (nI bk)].toArray s 0 0 (fun _ => False)) (F0 m 66 ls []) := by
                  intro fv
                  induction fv with
                  | zero => intro j hj hf; omega
                  | succ fv ih2 =>
                    intro j hj hfv hji ls hl
                    refine lv_iload hx hb dX2_rootIsRight_66 (lv_at hl 0 rfl) ?_
                    refine lv_iload_n hx hb dX2_rootIsRight_68 rfl (lv_at hl 2 rfl) ?_
                    refine jb_ge (tgt := 97) hx hb (nI_toInt (n := 1 + j) (by omega)) (nI_toInt (n := 1 + k) (by omega)) dX2_rootIsRight_69 (by decide) (fun c8 => ?_) (fun c8 => ?_)
                    · skip
                      refine lv_iinc (v := nI (1 + k + 1)) (lv' := [(3, .int (nI (1 + k + 1))), (5, .int (nI (1 + j))), (4, .int (nI (L.1 (64 * bk + (1 + k))))), (2, .int (nI (L.1 (64 * bk)))), (0, .ref m0), (1, .int (nI bk))]) hx hb dX2_rootIsRight_97 hl (k := 2) rfl (nI_add _ 1) (by decide) rfl (fun ls hl => ?_)
                      refine lv_goto (tgt := 28) hx hb dX2_rootIsRight_100 (by decide) ?_
                      exact ih (k + 1) (by omega) (by omega) (fun i q => (Nat.lt_or_eq_of_le (Nat.le_of_lt_succ q)).elim (hi i) (fun q => by rw [q]; exact fun z => z.elim (fun z => by omega) (fun z => z.elim (fun z => by omega) (fun ⟨i, a, b⟩ => hji i (by omega) b)))) ls (lv_sub hl [0, 3, 4, 5] rfl)
                    · skip
                      have g8 := hg (64 * bk + (1 + j))
                      refine lv_aload_n hx hb dX2_rootIsRight_72 rfl (lv_at hl 4 rfl) ?_
                      refine va_get (D := D) (ci := 3) (v := .ref m1) (C := RX2) (T := TX2) (N := 12) hx hb hts hinX2 hown hK hP 0 rfl rfl 1 (by decide) (hts (.fieldLink RX2 7 "PuzzleBookModel" "store" "[I") (by decide +kernel)) (fun _ h9 => h9) rfl dX2_rootIsRight_73 ?_
                      refine lv_bipush (v := nI 64) hx hb dX2_rootIsRight_76 (by decide +kernel) ?_
                      refine lv_iload_n hx hb dX2_rootIsRight_78 rfl (lv_at hl 5 rfl) ?_
                      refine lv_imul hx hb dX2_rootIsRight_79 ?_
                      refine lv_as (y := nI (64 * bk)) (pk_mul _ _) ?_
                      refine lv_iload hx hb dX2_rootIsRight_80 (lv_at hl 0 rfl) ?_
                      refine lv_iadd hx hb dX2_rootIsRight_82 ?_
                      refine lv_as (y := nI ((64 * bk) + (1 + j))) (nI_add _ _) ?_
                      refine ld_i (f := L.1) (k := (64 * bk) + (1 + j)) hx hb hK hP 1 1 rfl rfl (by omega) (by decide) dX2_rootIsRight_83 ?_
                      refine lv_iload hx hb dX2_rootIsRight_84 (lv_at hl 1 rfl) ?_
                      refine jb_ne (tgt := 91) hx hb (nI_toInt (n := L.1 ((64 * bk) + (1 + j))) (by omega)) (nI_toInt (n := L.1 (64 * bk + (1 + k))) (by omega)) dX2_rootIsRight_86 (by decide) (fun c9 => ?_) (fun c9 => ?_)
                      · skip
                        refine lv_iinc (v := nI (1 + j + 1)) (lv' := [(5, .int (nI (1 + j + 1))), (4, .int (nI (L.1 (64 * bk + (1 + k))))), (3, .int (nI (1 + k))), (2, .int (nI (L.1 (64 * bk)))), (0, .ref m0), (1, .int (nI bk))]) hx hb dX2_rootIsRight_91 hl (k := 0) rfl (nI_add _ 1) (by decide) rfl (fun ls hl => ?_)
                        refine lv_goto (tgt := 66) hx hb dX2_rootIsRight_94 (by decide) ?_
                        exact ih2 (j + 1) (by omega) (by omega) (fun i q => (Nat.lt_or_eq_of_le (Nat.le_of_lt_succ q)).elim (hji i) (fun q => by rw [q]; exact fun z => c9 (by rw [z]))) ls (lv_sub hl [0, 1, 2, 3, 4, 5] rfl)
                      · skip
                        refine lv_iconst (v := nI 0) hx hb dX2_rootIsRight_89 (by decide +kernel) ?_
                        exact rt_z hx hb hr hlocks dX2_rootIsRight_90 (by decide +kernel) (by rw [b01_f (fun h => h.2 k (by omega) (Or.inr (Or.inr ⟨j, by omega, Int.ofNat_inj.mp c9⟩)))])
                refine lv_iconst (v := nI 1) hx hb dX2_rootIsRight_63 (by decide +kernel) ?_
                refine lv_istore (lv' := [(5, .int (nI 1)), (4, .int (nI (L.1 ((64 * bk) + (1 + k))))), (3, .int (nI (1 + k))), (2, .int (nI (L.1 (64 * bk)))), (0, .ref m0), (1, .int (nI bk))]) hx hb dX2_rootIsRight_64 hl (by decide) rfl (fun ls hl => ?_)
                exact loop2 (k + 1) 0 (by omega) (by omega) (fun i q => absurd q (Nat.not_lt_zero i)) ls (lv_sub hl [0, 1, 2, 3, 4, 5] rfl)
              · skip
                refine lv_iconst (v := nI 0) hx hb dX2_rootIsRight_61 (by decide +kernel) ?_
                exact rt_z hx hb hr hlocks dX2_rootIsRight_62 (by decide +kernel) (by rw [b01_f (fun h => h.2 k (by omega) (Or.inr (Or.inl (by omega))))])
      refine lv_iconst (v := nI 1) hx hb dX2_rootIsRight_26 (by decide +kernel) ?_
      refine lv_istore_n (lv' := [(3, .int (nI 1)), (2, .int (nI (L.1 (64 * bk)))), (0, .ref m0), (1, .int (nI bk))]) hx hb dX2_rootIsRight_27 rfl hl (by decide) rfl (fun ls hl => ?_)
      exact loop (L.1 (64 * bk) + 1) 0 (by omega) (by omega) (fun j q => absurd q (Nat.not_lt_zero j)) ls (lv_sub hl [0, 1, 2, 3] rfl)
    · skip
      refine lv_iconst (v := nI 0) hx hb dX2_rootIsRight_24 (by decide +kernel) ?_
      exact rt_z hx hb hr hlocks dX2_rootIsRight_25 (by decide +kernel) (by rw [b01_f (fun h => absurd h.1.2 (by omega))])
  · skip
    refine lv_as (y := nI 0) (congrArg nI (b01_f q2)) ?_
    refine j0_eq (tgt := 24) hx hb (nI_toInt (n := 0) (by decide)) dX2_rootIsRight_15 (by decide) (fun c10 => ?_) (fun c10 => absurd c10 (by omega))
    refine lv_iconst (v := nI 0) hx hb dX2_rootIsRight_24 (by decide +kernel) ?_
    exact rt_z hx hb hr hlocks dX2_rootIsRight_25 (by decide +kernel) (by rw [b01_f (fun h => q2 h.1.1)])
set_option maxRecDepth 100000 in
set_option maxHeartbeats 4000000 in
/-- feed(b) -/
theorem c_X2_feed (l : Launch) (D : va_G) (m0 m1 m2 m3 m4 m5 : Nat) (cB cI : ClassId) (n : Nat) (L : Lg) (fd : Nat → Nat) (fc : Nat) (op : Nat) (tn : Nat) (eb : Nat → Nat) (ec : Nat) (th : Nat) (bv : Int32) (bz : Int) (sz : Nat) (hf : fc ≤ 48) (h1 : bv.toInt = bz) : Met l yX2_feed wsX2_feed ({ frames := 0, cells := 0, slots := 0, locals := 0 }) (wP [.ref m0, .int bv] D (mW m0 m1 m2 m3 m4 m5 cB cI n L fd fc op tn eb ec th) (ty2 cB cI) sz) (wQi ((fedF fd fc bz).2.2) D (mW m0 m1 m2 m3 m4 m5 cB cI n L ((fedF fd fc bz).1) ((fedF fd fc bz).2.1) op tn eb ec 0) (va_A (mW m0 m1 m2 m3 m4 m5 cB cI n L fd fc op tn eb ec th) sz)) 0 0 (va_A (mW m0 m1 m2 m3 m4 m5 cB cI n L fd fc op tn eb ec th) sz) := by
  refine met_wi (by decide) rfl (Nat.le_of_ble_eq_true rfl) ?_
  intro p e s m below meth c hx hb hml hr hlocks hown hts hP hK A hD hA hS ls hl
  have hown : s.vm.findClass RX2 = some m.cls := hown
  have hinX2 : ∀ w ∈ u_ws RX2 TX2 12, w ∈ wsX2_feed := by decide +kernel
  have hl : lv_has ls 2 [(0, .ref m0), (1, .int bv)] := hl
  refine lv_aload_n hx hb dX2_feed_0 rfl (lv_at hl 0 rfl) ?_
  refine lv_iconst (v := nI 0) hx hb dX2_feed_1 (by decide +kernel) ?_
  refine va_put (D := D) (ci := 3) (v := .int (nI 0)) (ty := .int) (C := RX2) (T := TX2) (N := 12) hx hb hts hinX2 tyX2 tyX2_ok nmX2 hown hK hP hD hS 0 rfl rfl 5 (by decide) (hts (.fieldLink RX2 46 "PuzzleBookModel" "thrown" "I") (by decide +kernel)) (fun _ h9 => h9) rfl (by decide +kernel) rfl rfl (Nat.le_of_ble_eq_true rfl) dX2_feed_2 (fun H locs hP hD hS => ?_)
  have hP : va_P D vwCl (mW m0 m1 m2 m3 m4 m5 cB cI n L fd fc op tn eb ec 0) H := hP
  have hD : va_D A (mW m0 m1 m2 m3 m4 m5 cB cI n L fd fc op tn eb ec 0) := hD
  refine lv_iload_n hx hb dX2_feed_5 rfl (lv_at hl 1 rfl) ?_
  refine j0_lt (tgt := 25) hx hb h1 dX2_feed_6 (by decide) (fun c1 => ?_) (fun c1 => ?_)
  · skip
    have e9 : fedF fd fc bz = (fd, fc, nI 0) := if_neg (by omega)
    rw [e9]
    refine lv_iconst (v := nI 0) hx hb dX2_feed_25 (by decide +kernel) ?_
    exact rt_wz hx hb hr hlocks hP hD hS dX2_feed_26 (by decide +kernel) rfl
  · skip
    refine lv_iload_n hx hb dX2_feed_9 rfl (lv_at hl 1 rfl) ?_
    refine lv_sipush (v := nI 255) hx hb dX2_feed_10 (by decide +kernel) ?_
    refine jb_gt (tgt := 25) hx hb h1 (nI_toInt (n := 255) (by decide)) dX2_feed_13 (by decide) (fun c2 => ?_) (fun c2 => ?_)
    · skip
      have e9 : fedF fd fc bz = (fd, fc, nI 0) := if_neg (by omega)
      rw [e9]
      refine lv_iconst (v := nI 0) hx hb dX2_feed_25 (by decide +kernel) ?_
      exact rt_wz hx hb hr hlocks hP hD hS dX2_feed_26 (by decide +kernel) rfl
    · skip
      refine lv_aload_n hx hb dX2_feed_16 rfl (lv_at hl 0 rfl) ?_
      refine va_get (D := D) (ci := 3) (v := .int (nI fc)) (C := RX2) (T := TX2) (N := 12) hx hb hts hinX2 hown hK hP 0 rfl rfl 8 (by decide) (hts (.fieldLink RX2 61 "PuzzleBookModel" "fedLong" "I") (by decide +kernel)) (fun _ h9 => h9) rfl dX2_feed_17 ?_
      refine lv_bipush (v := nI 48) hx hb dX2_feed_20 (by decide +kernel) ?_
      refine jb_ne (tgt := 27) hx hb (nI_toInt (n := fc) (by omega)) (nI_toInt (n := 48) (by decide)) dX2_feed_22 (by decide) (fun c3 => ?_) (fun c3 => ?_)
      · skip
        obtain ⟨j, hj⟩ : ∃ j : Nat, bz = (j : Int) := ⟨bz.toNat, by omega⟩
        have ej : bv = nI j := Int32.toInt_inj.mp (by rw [h1, hj, nI_toInt (by omega)])
        have zj : bz.toNat = j := by omega
        have e9 : fedF fd fc bz = (va_up fd fc j, fc + 1, nI 1) := by rw [← zj]; exact if_pos (by omega)
        rw [e9]
        refine lv_aload_n hx hb dX2_feed_27 rfl (lv_at hl 0 rfl) ?_
        refine va_get (D := D) (ci := 3) (v := .ref m3) (C := RX2) (T := TX2) (N := 12) hx hb hts hinX2 hown hK hP 0 rfl rfl 7 (by decide) (hts (.fieldLink RX2 16 "PuzzleBookModel" "fed" "[I") (by decide +kernel)) (fun _ h9 => h9) rfl dX2_feed_28 ?_
        refine lv_aload_n hx hb dX2_feed_31 rfl (lv_at hl 0 rfl) ?_
        refine va_get (D := D) (ci := 3) (v := .int (nI fc)) (C := RX2) (T := TX2) (N := 12) hx hb hts hinX2 hown hK hP 0 rfl rfl 8 (by decide) (hts (.fieldLink RX2 61 "PuzzleBookModel" "fedLong" "I") (by decide +kernel)) (fun _ h9 => h9) rfl dX2_feed_32 ?_
        refine lv_iload_n hx hb dX2_feed_35 rfl (lv_at hl 1 rfl) ?_
        refine lv_as (y := nI j) ej ?_
        refine st_i (f := fd) (k := fc) (x := j) hx hb hK hP hD hS 3 1 rfl rfl (by omega) (by decide) dX2_feed_36 (fun H locs hP hD hS => ?_)
        have hP : va_P D vwCl (mW m0 m1 m2 m3 m4 m5 cB cI n L (va_up fd fc j) fc op tn eb ec 0) H := hP
        have hD : va_D A (mW m0 m1 m2 m3 m4 m5 cB cI n L (va_up fd fc j) fc op tn eb ec 0) := hD
        refine lv_aload_n hx hb dX2_feed_37 rfl (lv_at hl 0 rfl) ?_
        refine lv_dup hx hb dX2_feed_38 rfl ?_
        refine va_get (D := D) (ci := 3) (v := .int (nI fc)) (C := RX2) (T := TX2) (N := 12) hx hb hts hinX2 hown hK hP 0 rfl rfl 8 (by decide) (hts (.fieldLink RX2 61 "PuzzleBookModel" "fedLong" "I") (by decide +kernel)) (fun _ h9 => h9) rfl dX2_feed_39 ?_
        refine lv_iconst (v := nI 1) hx hb dX2_feed_42 (by decide +kernel) ?_
        refine lv_iadd hx hb dX2_feed_43 ?_
        refine lv_as (y := nI (fc + 1)) (nI_add _ _) ?_
        refine va_put (D := D) (ci := 3) (v := .int (nI (fc + 1))) (ty := .int) (C := RX2) (T := TX2) (N := 12) hx hb hts hinX2 tyX2 tyX2_ok nmX2 hown hK hP hD hS 0 rfl rfl 8 (by decide) (hts (.fieldLink RX2 61 "PuzzleBookModel" "fedLong" "I") (by decide +kernel)) (fun _ h9 => h9) rfl (by decide +kernel) rfl rfl (Nat.le_of_ble_eq_true rfl) dX2_feed_44 (fun H locs hP hD hS => ?_)
        have hP : va_P D vwCl (mW m0 m1 m2 m3 m4 m5 cB cI n L (va_up fd fc j) (fc + 1) op tn eb ec 0) H := hP
        have hD : va_D A (mW m0 m1 m2 m3 m4 m5 cB cI n L (va_up fd fc j) (fc + 1) op tn eb ec 0) := hD
        refine lv_iconst (v := nI 1) hx hb dX2_feed_47 (by decide +kernel) ?_
        exact rt_wz hx hb hr hlocks hP hD hS dX2_feed_48 (by decide +kernel) rfl
      · skip
        have e9 : fedF fd fc bz = (fd, fc, nI 0) := if_neg (by omega)
        rw [e9]
        refine lv_iconst (v := nI 0) hx hb dX2_feed_25 (by decide +kernel) ?_
        exact rt_wz hx hb hr hlocks hP hD hS dX2_feed_26 (by decide +kernel) rfl
set_option maxRecDepth 100000 in
set_option maxHeartbeats 4000000 in
/-- put(name) -/
theorem c_X2_put (l : Launch) (D : va_G) (m0 m1 m2 m3 m4 m5 : Nat) (cB cI : ClassId) (n : Nat) (L : Lg) (fd : Nat → Nat) (fc : Nat) (op : Nat) (tn : Nat) (eb : Nat → Nat) (ec : Nat) (th : Nat) (nv : Int32) (nz : Int) (sz : Nat) (hn0 : 4 ≤ n) (hn : n ≤ 64) (hg : ∀ j, L.1 j < 256) (he : ec ≤ 40) (hE : ∀ k, bO eb ec k < n) (hf : fc ≤ 48) (hd : ∀ i, fd i < 256) (ho : op ≤ 1) (ht : op ≠ 0 → tn = 1 ∨ tn = 2) (h1 : nv.toInt = nz) : Met l yX2_put wsX2_put ({ frames := 3, cells := 0, slots := 0, locals := 71 }) (wP [.ref m0, .int nv] D (mW m0 m1 m2 m3 m4 m5 cB cI n L fd fc op tn eb ec th) (ty2 cB cI) sz) (wQi ((putF n L fd fc op tn eb ec nz).2.2.2.2.2) D (mW m0 m1 m2 m3 m4 m5 cB cI n ((putF n L fd fc op tn eb ec nz).1) fd ((putF n L fd fc op tn eb ec nz).2.1) op ((putF n L fd fc op tn eb ec nz).2.2.1) ((putF n L fd fc op tn eb ec nz).2.2.2.1) ((putF n L fd fc op tn eb ec nz).2.2.2.2.1) 0) (va_A (mW m0 m1 m2 m3 m4 m5 cB cI n L fd fc op tn eb ec th) sz)) 0 0 (va_A (mW m0 m1 m2 m3 m4 m5 cB cI n L fd fc op tn eb ec th) sz) := by
  refine met_wi (by decide) rfl (Nat.le_of_ble_eq_true rfl) ?_
  intro p e s m below meth c hx hb hml hr hlocks hown hts hP hK A hD hA hS ls hl
  have hown : s.vm.findClass RX2 = some m.cls := hown
  have hinX2 : ∀ w ∈ u_ws RX2 TX2 12, w ∈ wsX2_put := by decide +kernel
  have hl : lv_has ls 3 [(0, .ref m0), (1, .int nv)] := hl
  refine lv_aload_n hx hb dX2_put_0 rfl (lv_at hl 0 rfl) ?_
  refine lv_iconst (v := nI 0) hx hb dX2_put_1 (by decide +kernel) ?_
  refine va_put (D := D) (ci := 3) (v := .int (nI 0)) (ty := .int) (C := RX2) (T := TX2) (N := 12) hx hb hts hinX2 tyX2 tyX2_ok nmX2 hown hK hP hD hS 0 rfl rfl 5 (by decide) (hts (.fieldLink RX2 46 "PuzzleBookModel" "thrown" "I") (by decide +kernel)) (fun _ h9 => h9) rfl (by decide +kernel) rfl rfl (Nat.le_of_ble_eq_true rfl) dX2_put_2 (fun H locs hP hD hS => ?_)
  have hP : va_P D vwCl (mW m0 m1 m2 m3 m4 m5 cB cI n L fd fc op tn eb ec 0) H := hP
  have hD : va_D A (mW m0 m1 m2 m3 m4 m5 cB cI n L fd fc op tn eb ec 0) := hD
  refine lv_aload_n hx hb dX2_put_5 rfl (lv_at hl 0 rfl) ?_
  refine va_get (D := D) (ci := 3) (v := .int (nI op)) (C := RX2) (T := TX2) (N := 12) hx hb hts hinX2 hown hK hP 0 rfl rfl 2 (by decide) (hts (.fieldLink RX2 32 "PuzzleBookModel" "open" "Z") (by decide +kernel)) (fun _ h9 => h9) rfl dX2_put_6 ?_
  refine j0_eq (tgt := 29) hx hb (nI_toInt (n := op) (by omega)) dX2_put_9 (by decide) (fun c1 => ?_) (fun c1 => ?_)
  · skip
    have e9 : putF n L fd fc op tn eb ec nz = (L, fc, tn, eb, ec, -1) := if_neg (by omega)
    rw [e9]
    refine lv_iconst (v := -1) hx hb dX2_put_29 (by decide +kernel) ?_
    exact rt_wi hx hb hr hlocks hP hD hS dX2_put_30 rfl
  · skip
    refine lv_iload_n hx hb dX2_put_12 rfl (lv_at hl 1 rfl) ?_
    refine j0_lt (tgt := 29) hx hb h1 dX2_put_13 (by decide) (fun c2 => ?_) (fun c2 => ?_)
    · skip
      have e9 : putF n L fd fc op tn eb ec nz = (L, fc, tn, eb, ec, -1) := if_neg (by omega)
      rw [e9]
      refine lv_iconst (v := -1) hx hb dX2_put_29 (by decide +kernel) ?_
      exact rt_wi hx hb hr hlocks hP hD hS dX2_put_30 rfl
    · skip
      refine lv_iload_n hx hb dX2_put_16 rfl (lv_at hl 1 rfl) ?_
      refine lv_ldc (v := (65535)) hx hb hown (hts (.constant RX2 71 (65535)) (by decide +kernel)) dX2_put_17 ?_
      refine lv_as (y := nI 65535) (by decide +kernel) ?_
      refine jb_gt (tgt := 29) hx hb h1 (nI_toInt (n := 65535) (by decide)) dX2_put_19 (by decide) (fun c3 => ?_) (fun c3 => ?_)
      · skip
        have e9 : putF n L fd fc op tn eb ec nz = (L, fc, tn, eb, ec, -1) := if_neg (by omega)
        rw [e9]
        refine lv_iconst (v := -1) hx hb dX2_put_29 (by decide +kernel) ?_
        exact rt_wi hx hb hr hlocks hP hD hS dX2_put_30 rfl
      · skip
        refine lv_aload_n hx hb dX2_put_22 rfl (lv_at hl 0 rfl) ?_
        refine va_get (D := D) (ci := 3) (v := .int (nI fc)) (C := RX2) (T := TX2) (N := 12) hx hb hts hinX2 hown hK hP 0 rfl rfl 8 (by decide) (hts (.fieldLink RX2 61 "PuzzleBookModel" "fedLong" "I") (by decide +kernel)) (fun _ h9 => h9) rfl dX2_put_23 ?_
        refine j0_ne (tgt := 31) hx hb (nI_toInt (n := fc) (by omega)) dX2_put_26 (by decide) (fun c4 => ?_) (fun c4 => ?_)
        · skip
          have hA1 : op ≠ 0 ∧ 0 ≤ nz ∧ nz ≤ 65535 ∧ fc ≠ 0 := by omega
          obtain ⟨nm, hnm⟩ : ∃ j : Nat, nz = (j : Int) := ⟨nz.toNat, by omega⟩
          have enm : nv = nI nm := Int32.toInt_inj.mp (by rw [h1, hnm, nI_toInt (by omega)])
          have znm : nz.toNat = nm := by omega
          have loop : ∀ (fu k : Nat), k ≤ ec → ec - k < fu → (∀ j, j < k → ¬ hF L.1 (bO eb ec j) fd fc) → ∀ (H : Heap) (locs : List Loc), va_P D vwCl (mW m0 m1 m2 m3 m4 m5 cB cI n L fd fc op tn eb ec 0) H → va_D A (mW m0 m1 m2 m3 m4 m5 cB cI n L fd fc op tn eb ec 0) → va_S A s.heap H locs → ∀ ls : Array Slot, lv_has ls 3 [(2, .int (nI k)), (0, .ref m0), (1, .int nv)] → W p l e ({ frames := 3, cells := 0, slots := 0, locals := 71 }) s m [.ref m0, .int nv].toArray below meth c H locs 0 0 (MQ below (wQi ((putF n L fd fc op tn eb ec nz).2.2.2.2.2) D (mW m0 m1 m2 m3 m4 m5 cB cI n ((putF n L fd fc op tn eb ec nz).1) fd ((putF n L fd fc op tn eb ec nz).2.1) op ((putF n L fd fc op tn eb ec nz).2.2.1) ((putF n L fd fc op tn eb ec nz).2.2.2.1) ((putF n L fd fc op tn eb ec nz).2.2.2.2.1) 0) A) [.ref m0, .int nv].toArray s 0 0 A) (F0 m 33 ls []) := by
            intro fu
            induction fu with
            | zero => intro k hk hf; omega
            | succ fu ih =>
              intro k hk hfu hj H locs hP hD hS ls hl
              refine lv_iload_n hx hb dX2_put_33 rfl (lv_at hl 0 rfl) ?_
              refine lv_aload_n hx hb dX2_put_34 rfl (lv_at hl 1 rfl) ?_
              refine va_get (D := D) (ci := 3) (v := .int (nI ec)) (C := RX2) (T := TX2) (N := 12) hx hb hts hinX2 hown hK hP 0 rfl rfl 4 (by decide) (hts (.fieldLink RX2 54 "PuzzleBookModel" "entries" "I") (by decide +kernel)) (fun _ h9 => h9) rfl dX2_put_35 ?_
              refine jb_ge (tgt := 62) hx hb (nI_toInt (n := k) (by omega)) (nI_toInt (n := ec) (by omega)) dX2_put_38 (by decide) (fun c5 => ?_) (fun c5 => ?_)
              · skip
                have q0 : fN (fun k => hF L.1 (bO eb ec k) fd fc) ec = ec := fN_no (fun j hj9 => hj j (by omega))
                have q1 : ¬ fN (fun k => hF L.1 (bO eb ec k) fd fc) ec < ec := by omega
                refine lv_aload_n hx hb dX2_put_62 rfl (lv_at hl 1 rfl) ?_
                refine rd_V (As := []) (rest := []) ⟨hx, hb, hml, hown, hts⟩ (c_X2_leastFree l D m0 m1 m2 m3 m4 m5 cB cI n L fd fc op tn eb ec 0  hn0 hn he hE) (cwV 0 hts gX2_put_X2_leastFree rfl rfl rfl (by decide +kernel) ⟨Nat.le_of_ble_eq_true rfl, Nat.le_of_ble_eq_true rfl⟩) hK hP [0, 1, 2, 3, 4, 5] rfl (ci := 3) rfl rfl (q0 := 0) rfl rfl hl.1 rfl (Nat.le_of_ble_eq_true rfl) dX2_put_63 ⟨Nat.zero_le _, Nat.zero_le _⟩ (fun r6 hr6 => ?_)
                subst hr6
                by_cases q2 : (lfB (bO eb ec) ec n) < n
                · skip
                  refine lv_as (y := nI (lfB (bO eb ec) ec n)) (if_pos q2) ?_
                  refine lv_istore_n (lv' := [(2, .int (nI (lfB (bO eb ec) ec n))), (0, .ref m0), (1, .int nv)]) hx hb dX2_put_66 rfl hl (by decide) rfl (fun ls hl => ?_)
                  refine lv_aload_n hx hb dX2_put_67 rfl (lv_at hl 1 rfl) ?_
                  refine va_get (D := D) (ci := 3) (v := .int (nI ec)) (C := RX2) (T := TX2) (N := 12) hx hb hts hinX2 hown hK hP 0 rfl rfl 4 (by decide) (hts (.fieldLink RX2 54 "PuzzleBookModel" "entries" "I") (by decide +kernel)) (fun _ h9 => h9) rfl dX2_put_68 ?_
                  refine lv_bipush (v := nI 40) hx hb dX2_put_71 (by decide +kernel) ?_
                  refine jb_eq (tgt := 80) hx hb (nI_toInt (n := ec) (by omega)) (nI_toInt (n := 40) (by decide)) dX2_put_73 (by decide) (fun c7 => ?_) (fun c7 => ?_)
                  · skip
                    have e9 : putF n L fd fc op tn eb ec nz = (L, fc, tn, eb, ec, -1) := (if_pos hA1).trans ((if_neg q1).trans (if_neg (by omega)))
                    rw [e9]
                    refine lv_iconst (v := -1) hx hb dX2_put_80 (by decide +kernel) ?_
                    exact rt_wi hx hb hr hlocks hP hD hS dX2_put_81 rfl
                  · skip
                    refine lv_iload_n hx hb dX2_put_76 rfl (lv_at hl 0 rfl) ?_
                    refine j0_ge (tgt := 82) hx hb (nI_toInt (n := (lfB (bO eb ec) ec n)) (by omega)) dX2_put_77 (by decide) (fun c8 => ?_) (fun c8 => absurd c8 (by omega))
                    have t9 := ht (by omega)
                    have e9 : putF n L fd fc op tn eb ec nz = (w1 (wR (wE (w0 L) (lfB (bO eb ec) ec n) nm fc fd) (3 - tn) (ec + 1) (bO (va_up eb ec (lfB (bO eb ec) ec n)) (ec + 1))) (64 * 0 + 0) (3 - tn), 0, 3 - tn, va_up eb ec (lfB (bO eb ec) ec n), ec + 1, nI ec) := by rw [← znm]; exact (if_pos hA1).trans ((if_neg q1).trans (if_pos (by omega)))
                    rw [e9]
                    refine lv_aload_n hx hb dX2_put_82 rfl (lv_at hl 1 rfl) ?_
                    refine lv_iconst (v := nI 0) hx hb dX2_put_83 (by decide +kernel) ?_
                    refine va_put (D := D) (ci := 3) (v := .int (nI 0)) (ty := .int) (C := RX2) (T := TX2) (N := 12) hx hb hts hinX2 tyX2 tyX2_ok nmX2 hown hK hP hD hS 0 rfl rfl 11 (by decide) (hts (.fieldLink RX2 43 "PuzzleBookModel" "written" "I") (by decide +kernel)) (fun _ h9 => h9) rfl (by decide +kernel) rfl rfl (Nat.le_of_ble_eq_true rfl) dX2_put_84 (fun H locs hP hD hS => ?_)
                    have hP : va_P D vwCl (mW m0 m1 m2 m3 m4 m5 cB cI n (L.1, L.2.1, L.2.2.1, 0) fd fc op tn eb ec 0) H := hP
                    have hD : va_D A (mW m0 m1 m2 m3 m4 m5 cB cI n (L.1, L.2.1, L.2.2.1, 0) fd fc op tn eb ec 0) := hD
                    refine lv_aload_n hx hb dX2_put_87 rfl (lv_at hl 1 rfl) ?_
                    refine lv_iload_n hx hb dX2_put_88 rfl (lv_at hl 0 rfl) ?_
                    refine lv_iload_n hx hb dX2_put_89 rfl (lv_at hl 2 rfl) ?_
                    refine lv_as (y := nI nm) enm ?_
                    refine wr_V (wr := []) (wo := (mW m0 m1 m2 m3 m4 m5 cB cI n (wE (L.1, L.2.1, L.2.2.1, 0) (lfB (bO eb ec) ec n) nm fc fd) fd fc op tn eb ec 0)) (As := [.int (nI (lfB (bO eb ec) ec n)), .int (nI nm)]) (rest := []) ⟨hx, hb, hml, hown, hts⟩ (c_X2_writeEntry l D m0 m1 m2 m3 m4 m5 cB cI n (L.1, L.2.1, L.2.2.1, 0) fd fc op tn eb ec 0 (lfB (bO eb ec) ec n) nm H.size  (by omega) (by omega) hf (by show 0 + 64 ≤ 129; omega)) (cwV 2 hts gX2_put_X2_writeEntry rfl rfl rfl (by decide +kernel) ⟨Nat.le_of_ble_eq_true rfl, Nat.le_of_ble_eq_true rfl⟩) hK hP hD hS hA [0, 1, 2, 3, 4, 5] [] rfl rfl rfl rfl (by decide) [0, 1, 2, 3, 4, 5] rfl rfl (ci := 3) rfl rfl (q0 := 0) rfl rfl hl.1 rfl (Nat.le_of_ble_eq_true rfl) dX2_put_90 ⟨Nat.zero_le _, Nat.zero_le _⟩ (fun H locs hP hD hS => ?_)
                    refine lv_aload_n hx hb dX2_put_93 rfl (lv_at hl 1 rfl) ?_
                    refine va_get (D := D) (ci := 3) (v := .ref m2) (C := RX2) (T := TX2) (N := 12) hx hb hts hinX2 hown hK hP 0 rfl rfl 6 (by decide) (hts (.fieldLink RX2 13 "PuzzleBookModel" "block" "[I") (by decide +kernel)) (fun _ h9 => h9) rfl dX2_put_94 ?_
                    refine lv_aload_n hx hb dX2_put_97 rfl (lv_at hl 1 rfl) ?_
                    refine va_get (D := D) (ci := 3) (v := .int (nI ec)) (C := RX2) (T := TX2) (N := 12) hx hb hts hinX2 hown hK hP 0 rfl rfl 4 (by decide) (hts (.fieldLink RX2 54 "PuzzleBookModel" "entries" "I") (by decide +kernel)) (fun _ h9 => h9) rfl dX2_put_98 ?_
                    refine lv_iload_n hx hb dX2_put_101 rfl (lv_at hl 0 rfl) ?_
                    refine st_i (f := eb) (k := ec) (x := (lfB (bO eb ec) ec n)) hx hb hK hP hD hS 2 1 rfl rfl (by omega) (by decide) dX2_put_102 (fun H locs hP hD hS => ?_)
                    have hP : va_P D vwCl (mW m0 m1 m2 m3 m4 m5 cB cI n (wE (L.1, L.2.1, L.2.2.1, 0) (lfB (bO eb ec) ec n) nm fc fd) fd fc op tn (va_up eb ec (lfB (bO eb ec) ec n)) ec 0) H := hP
                    have hD : va_D A (mW m0 m1 m2 m3 m4 m5 cB cI n (wE (L.1, L.2.1, L.2.2.1, 0) (lfB (bO eb ec) ec n) nm fc fd) fd fc op tn (va_up eb ec (lfB (bO eb ec) ec n)) ec 0) := hD
                    refine lv_aload_n hx hb dX2_put_103 rfl (lv_at hl 1 rfl) ?_
                    refine lv_dup hx hb dX2_put_104 rfl ?_
                    refine va_get (D := D) (ci := 3) (v := .int (nI ec)) (C := RX2) (T := TX2) (N := 12) hx hb hts hinX2 hown hK hP 0 rfl rfl 4 (by decide) (hts (.fieldLink RX2 54 "PuzzleBookModel" "entries" "I") (by decide +kernel)) (fun _ h9 => h9) rfl dX2_put_105 ?_
                    refine lv_iconst (v := nI 1) hx hb dX2_put_108 (by decide +kernel) ?_
                    refine lv_iadd hx hb dX2_put_109 ?_
                    refine lv_as (y := nI (ec + 1)) (nI_add _ _) ?_
                    refine va_put (D := D) (ci := 3) (v := .int (nI (ec + 1))) (ty := .int) (C := RX2) (T := TX2) (N := 12) hx hb hts hinX2 tyX2 tyX2_ok nmX2 hown hK hP hD hS 0 rfl rfl 4 (by decide) (hts (.fieldLink RX2 54 "PuzzleBookModel" "entries" "I") (by decide +kernel)) (fun _ h9 => h9) rfl (by decide +kernel) rfl rfl (Nat.le_of_ble_eq_true rfl) dX2_put_110 (fun H locs hP hD hS => ?_)
                    have hP : va_P D vwCl (mW m0 m1 m2 m3 m4 m5 cB cI n (wE (L.1, L.2.1, L.2.2.1, 0) (lfB (bO eb ec) ec n) nm fc fd) fd fc op tn (va_up eb ec (lfB (bO eb ec) ec n)) (ec + 1) 0) H := hP
                    have hD : va_D A (mW m0 m1 m2 m3 m4 m5 cB cI n (wE (L.1, L.2.1, L.2.2.1, 0) (lfB (bO eb ec) ec n) nm fc fd) fd fc op tn (va_up eb ec (lfB (bO eb ec) ec n)) (ec + 1) 0) := hD
                    refine lv_aload_n hx hb dX2_put_113 rfl (lv_at hl 1 rfl) ?_
                    refine lv_iconst (v := nI 3) hx hb dX2_put_114 (by decide +kernel) ?_
                    refine lv_aload_n hx hb dX2_put_115 rfl (lv_at hl 1 rfl) ?_
                    refine va_get (D := D) (ci := 3) (v := .int (nI tn)) (C := RX2) (T := TX2) (N := 12) hx hb hts hinX2 hown hK hP 0 rfl rfl 3 (by decide) (hts (.fieldLink RX2 29 "PuzzleBookModel" "turn" "I") (by decide +kernel)) (fun _ h9 => h9) rfl dX2_put_116 ?_
                    refine lv_isub hx hb dX2_put_119 ?_
                    refine lv_as (y := nI (3 - tn)) (pk_sub (by omega)) ?_
                    refine lv_iconst (v := -1) hx hb dX2_put_120 (by decide +kernel) ?_
                    refine wr_V (wr := []) (wo := (mW m0 m1 m2 m3 m4 m5 cB cI n (wR (wE (L.1, L.2.1, L.2.2.1, 0) (lfB (bO eb ec) ec n) nm fc fd) (3 - tn) (ec + 1) (bO (va_up eb ec (lfB (bO eb ec) ec n)) (ec + 1))) fd fc op tn (va_up eb ec (lfB (bO eb ec) ec n)) (ec + 1) 0)) (As := [.int (nI (3 - tn)), .int (-1)]) (rest := []) ⟨hx, hb, hml, hown, hts⟩ (c_X2_writeRoot l D m0 m1 m2 m3 m4 m5 cB cI n (wE (L.1, L.2.1, L.2.2.1, 0) (lfB (bO eb ec) ec n) nm fc fd) fd fc op tn (va_up eb ec (lfB (bO eb ec) ec n)) (ec + 1) 0 (3 - tn) H.size  (by omega) (by omega) (by rw [wE_c]; show 0 + 64 + 64 ≤ 129; omega)) (cwV 2 hts gX2_put_X2_writeRoot rfl rfl rfl (by decide +kernel) ⟨Nat.le_of_ble_eq_true rfl, Nat.le_of_ble_eq_true rfl⟩) hK hP hD hS hA [0, 1, 2, 3, 4, 5] [] rfl rfl rfl rfl (by decide) [0, 1, 2, 3, 4, 5] rfl rfl (ci := 3) rfl rfl (q0 := 0) rfl rfl hl.1 rfl (Nat.le_of_ble_eq_true rfl) dX2_put_121 ⟨Nat.zero_le _, Nat.zero_le _⟩ (fun H locs hP hD hS => ?_)
                    refine lv_aload_n hx hb dX2_put_124 rfl (lv_at hl 1 rfl) ?_
                    refine lv_iconst (v := nI 3) hx hb dX2_put_125 (by decide +kernel) ?_
                    refine lv_aload_n hx hb dX2_put_126 rfl (lv_at hl 1 rfl) ?_
                    refine va_get (D := D) (ci := 3) (v := .int (nI tn)) (C := RX2) (T := TX2) (N := 12) hx hb hts hinX2 hown hK hP 0 rfl rfl 3 (by decide) (hts (.fieldLink RX2 29 "PuzzleBookModel" "turn" "I") (by decide +kernel)) (fun _ h9 => h9) rfl dX2_put_127 ?_
                    refine lv_isub hx hb dX2_put_130 ?_
                    refine lv_as (y := nI (3 - tn)) (pk_sub (by omega)) ?_
                    refine wr_V (wr := []) (wo := (mW m0 m1 m2 m3 m4 m5 cB cI n (w1 (wR (wE (L.1, L.2.1, L.2.2.1, 0) (lfB (bO eb ec) ec n) nm fc fd) (3 - tn) (ec + 1) (bO (va_up eb ec (lfB (bO eb ec) ec n)) (ec + 1))) (64 * 0 + 0) (3 - tn)) fd fc op (3 - tn) (va_up eb ec (lfB (bO eb ec) ec n)) (ec + 1) 0)) (As := [.int (nI (3 - tn))]) (rest := []) ⟨hx, hb, hml, hown, hts⟩ (c_X2_turnTo l D m0 m1 m2 m3 m4 m5 cB cI n (wR (wE (L.1, L.2.1, L.2.2.1, 0) (lfB (bO eb ec) ec n) nm fc fd) (3 - tn) (ec + 1) (bO (va_up eb ec (lfB (bO eb ec) ec n)) (ec + 1))) fd fc op tn (va_up eb ec (lfB (bO eb ec) ec n)) (ec + 1) 0 (3 - tn) H.size  (by rw [wR_c, wE_c]; show 0 + 64 + 64 < 129; omega)) (cwV 1 hts gX2_put_X2_turnTo rfl rfl rfl (by decide +kernel) ⟨Nat.le_of_ble_eq_true rfl, Nat.le_of_ble_eq_true rfl⟩) hK hP hD hS hA [0, 1, 2, 3, 4, 5] [] rfl rfl rfl rfl (by decide) [0, 1, 2, 3, 4, 5] rfl rfl (ci := 3) rfl rfl (q0 := 0) rfl rfl hl.1 rfl (Nat.le_of_ble_eq_true rfl) dX2_put_131 ⟨Nat.zero_le _, Nat.zero_le _⟩ (fun H locs hP hD hS => ?_)
                    refine lv_aload_n hx hb dX2_put_134 rfl (lv_at hl 1 rfl) ?_
                    refine lv_iconst (v := nI 0) hx hb dX2_put_135 (by decide +kernel) ?_
                    refine va_put (D := D) (ci := 3) (v := .int (nI 0)) (ty := .int) (C := RX2) (T := TX2) (N := 12) hx hb hts hinX2 tyX2 tyX2_ok nmX2 hown hK hP hD hS 0 rfl rfl 8 (by decide) (hts (.fieldLink RX2 61 "PuzzleBookModel" "fedLong" "I") (by decide +kernel)) (fun _ h9 => h9) rfl (by decide +kernel) rfl rfl (Nat.le_of_ble_eq_true rfl) dX2_put_136 (fun H locs hP hD hS => ?_)
                    have hP : va_P D vwCl (mW m0 m1 m2 m3 m4 m5 cB cI n (w1 (wR (wE (L.1, L.2.1, L.2.2.1, 0) (lfB (bO eb ec) ec n) nm fc fd) (3 - tn) (ec + 1) (bO (va_up eb ec (lfB (bO eb ec) ec n)) (ec + 1))) (64 * 0 + 0) (3 - tn)) fd 0 op (3 - tn) (va_up eb ec (lfB (bO eb ec) ec n)) (ec + 1) 0) H := hP
                    have hD : va_D A (mW m0 m1 m2 m3 m4 m5 cB cI n (w1 (wR (wE (L.1, L.2.1, L.2.2.1, 0) (lfB (bO eb ec) ec n) nm fc fd) (3 - tn) (ec + 1) (bO (va_up eb ec (lfB (bO eb ec) ec n)) (ec + 1))) (64 * 0 + 0) (3 - tn)) fd 0 op (3 - tn) (va_up eb ec (lfB (bO eb ec) ec n)) (ec + 1) 0) := hD
                    refine lv_aload_n hx hb dX2_put_139 rfl (lv_at hl 1 rfl) ?_
                    refine va_get (D := D) (ci := 3) (v := .int (nI (ec + 1))) (C := RX2) (T := TX2) (N := 12) hx hb hts hinX2 hown hK hP 0 rfl rfl 4 (by decide) (hts (.fieldLink RX2 54 "PuzzleBookModel" "entries" "I") (by decide +kernel)) (fun _ h9 => h9) rfl dX2_put_140 ?_
                    refine lv_iconst (v := nI 1) hx hb dX2_put_143 (by decide +kernel) ?_
                    refine lv_isub hx hb dX2_put_144 ?_
                    refine lv_as (y := nI ((ec + 1) - 1)) (pk_sub (by omega)) ?_
                    exact rt_wi hx hb hr hlocks hP hD hS dX2_put_145 (congrArg nI (by omega))
                · skip
                  refine lv_as (y := (-1)) (if_neg q2) ?_
                  refine lv_istore_n (lv' := [(2, .int (-1)), (0, .ref m0), (1, .int nv)]) hx hb dX2_put_66 rfl hl (by decide) rfl (fun ls hl => ?_)
                  refine lv_aload_n hx hb dX2_put_67 rfl (lv_at hl 1 rfl) ?_
                  refine va_get (D := D) (ci := 3) (v := .int (nI ec)) (C := RX2) (T := TX2) (N := 12) hx hb hts hinX2 hown hK hP 0 rfl rfl 4 (by decide) (hts (.fieldLink RX2 54 "PuzzleBookModel" "entries" "I") (by decide +kernel)) (fun _ h9 => h9) rfl dX2_put_68 ?_
                  refine lv_bipush (v := nI 40) hx hb dX2_put_71 (by decide +kernel) ?_
                  refine jb_eq (tgt := 80) hx hb (nI_toInt (n := ec) (by omega)) (nI_toInt (n := 40) (by decide)) dX2_put_73 (by decide) (fun c9 => ?_) (fun c9 => ?_)
                  · skip
                    have e9 : putF n L fd fc op tn eb ec nz = (L, fc, tn, eb, ec, -1) := (if_pos hA1).trans ((if_neg q1).trans (if_neg (by omega)))
                    rw [e9]
                    refine lv_iconst (v := -1) hx hb dX2_put_80 (by decide +kernel) ?_
                    exact rt_wi hx hb hr hlocks hP hD hS dX2_put_81 rfl
                  · skip
                    refine lv_iload_n hx hb dX2_put_76 rfl (lv_at hl 0 rfl) ?_
                    refine j0_ge (tgt := 82) hx hb neg1_toInt dX2_put_77 (by decide) (fun c10 => absurd c10 (by omega)) (fun c10 => ?_)
                    have e9 : putF n L fd fc op tn eb ec nz = (L, fc, tn, eb, ec, -1) := (if_pos hA1).trans ((if_neg q1).trans (if_neg (fun h => q2 h.1)))
                    rw [e9]
                    refine lv_iconst (v := -1) hx hb dX2_put_80 (by decide +kernel) ?_
                    exact rt_wi hx hb hr hlocks hP hD hS dX2_put_81 rfl
              · skip
                refine lv_aload_n hx hb dX2_put_41 rfl (lv_at hl 1 rfl) ?_
                refine lv_iload_n hx hb dX2_put_42 rfl (lv_at hl 0 rfl) ?_
                refine rd_V (As := [.int (nI k)]) (rest := []) ⟨hx, hb, hml, hown, hts⟩ (c_X2_hasFed l D m0 m1 m2 m3 m4 m5 cB cI n L fd fc op tn eb ec 0 k hn hg he hE (by omega) hf hd) (cwV 1 hts gX2_put_X2_hasFed rfl rfl rfl (by decide +kernel) ⟨Nat.le_of_ble_eq_true rfl, Nat.le_of_ble_eq_true rfl⟩) hK hP [0, 1, 2, 3, 4, 5] rfl (ci := 3) rfl rfl (q0 := 0) rfl rfl hl.1 rfl (Nat.le_of_ble_eq_true rfl) dX2_put_43 ⟨Nat.zero_le _, Nat.zero_le _⟩ (fun r11 hr11 => ?_)
                subst hr11
                by_cases q12 : (hF L.1 (bO eb ec k) fd fc)
                · skip
                  refine lv_as (y := nI 1) (congrArg nI (b01_t q12)) ?_
                  refine j0_eq (tgt := 56) hx hb (nI_toInt (n := 1) (by decide)) dX2_put_46 (by decide) (fun c13 => absurd c13 (by omega)) (fun c13 => ?_)
                  have q0 : fN (fun k => hF L.1 (bO eb ec k) fd fc) ec = k := fN_eq (by omega) q12 hj
                  have e9 : putF n L fd fc op tn eb ec nz = (L, 0, tn, eb, ec, nI k) := by refine (if_pos hA1).trans ((if_pos (by omega)).trans ?_); rw [q0]
                  rw [e9]
                  refine lv_aload_n hx hb dX2_put_49 rfl (lv_at hl 1 rfl) ?_
                  refine lv_iconst (v := nI 0) hx hb dX2_put_50 (by decide +kernel) ?_
                  refine va_put (D := D) (ci := 3) (v := .int (nI 0)) (ty := .int) (C := RX2) (T := TX2) (N := 12) hx hb hts hinX2 tyX2 tyX2_ok nmX2 hown hK hP hD hS 0 rfl rfl 8 (by decide) (hts (.fieldLink RX2 61 "PuzzleBookModel" "fedLong" "I") (by decide +kernel)) (fun _ h9 => h9) rfl (by decide +kernel) rfl rfl (Nat.le_of_ble_eq_true rfl) dX2_put_51 (fun H locs hP hD hS => ?_)
                  have hP : va_P D vwCl (mW m0 m1 m2 m3 m4 m5 cB cI n L fd 0 op tn eb ec 0) H := hP
                  have hD : va_D A (mW m0 m1 m2 m3 m4 m5 cB cI n L fd 0 op tn eb ec 0) := hD
                  refine lv_iload_n hx hb dX2_put_54 rfl (lv_at hl 0 rfl) ?_
                  exact rt_wi hx hb hr hlocks hP hD hS dX2_put_55 rfl
                · skip
                  refine lv_as (y := nI 0) (congrArg nI (b01_f q12)) ?_
                  refine j0_eq (tgt := 56) hx hb (nI_toInt (n := 0) (by decide)) dX2_put_46 (by decide) (fun c14 => ?_) (fun c14 => absurd c14 (by omega))
                  refine lv_iinc (v := nI (k + 1)) (lv' := [(2, .int (nI (k + 1))), (0, .ref m0), (1, .int nv)]) hx hb dX2_put_56 hl (k := 0) rfl (nI_add _ 1) (by decide) rfl (fun ls hl => ?_)
                  refine lv_goto (tgt := 33) hx hb dX2_put_59 (by decide) ?_
                  exact ih (k + 1) (by omega) (by omega) (fun j q => (Nat.lt_or_eq_of_le (Nat.le_of_lt_succ q)).elim (hj j) (fun q => by rw [q]; exact q12)) H locs hP hD hS ls (lv_sub hl [0, 1, 2] rfl)
          refine lv_iconst (v := nI 0) hx hb dX2_put_31 (by decide +kernel) ?_
          refine lv_istore_n (lv' := [(2, .int (nI 0)), (0, .ref m0), (1, .int nv)]) hx hb dX2_put_32 rfl hl (by decide) rfl (fun ls hl => ?_)
          exact loop (ec + 1) 0 (by omega) (by omega) (fun j q => absurd q (Nat.not_lt_zero j)) H locs hP hD hS ls (lv_sub hl [0, 1, 2] rfl)
        · skip
          have e9 : putF n L fd fc op tn eb ec nz = (L, fc, tn, eb, ec, -1) := if_neg (by omega)
          rw [e9]
          refine lv_iconst (v := -1) hx hb dX2_put_29 (by decide +kernel) ?_
          exact rt_wi hx hb hr hlocks hP hD hS dX2_put_30 rfl
set_option maxRecDepth 100000 in
set_option maxHeartbeats 4000000 in
/-- drop(e) -/
theorem c_X2_drop (l : Launch) (D : va_G) (m0 m1 m2 m3 m4 m5 : Nat) (cB cI : ClassId) (n : Nat) (L : Lg) (fd : Nat → Nat) (fc : Nat) (op : Nat) (tn : Nat) (eb : Nat → Nat) (ec : Nat) (th : Nat) (kv : Int32) (kz : Int) (sz : Nat) (hn0 : 4 ≤ n) (hn : n ≤ 64) (hg : ∀ j, L.1 j < 256) (he : ec ≤ 40) (hE : ∀ k, bO eb ec k < n) (ho : op ≤ 1) (ht : op ≠ 0 → tn = 1 ∨ tn = 2) (h1 : kv.toInt = kz) : Met l yX2_drop wsX2_drop ({ frames := 3, cells := 0, slots := 0, locals := 71 }) (wP [.ref m0, .int kv] D (mW m0 m1 m2 m3 m4 m5 cB cI n L fd fc op tn eb ec th) (ty2 cB cI) sz) (wQi ((dropF L op tn eb ec kz).2.2.2.2) D (mW m0 m1 m2 m3 m4 m5 cB cI n ((dropF L op tn eb ec kz).1) fd fc op ((dropF L op tn eb ec kz).2.1) ((dropF L op tn eb ec kz).2.2.1) ((dropF L op tn eb ec kz).2.2.2.1) 0) (va_A (mW m0 m1 m2 m3 m4 m5 cB cI n L fd fc op tn eb ec th) sz)) 0 0 (va_A (mW m0 m1 m2 m3 m4 m5 cB cI n L fd fc op tn eb ec th) sz) := by
  refine met_wi (by decide) rfl (Nat.le_of_ble_eq_true rfl) ?_
  intro p e s m below meth c hx hb hml hr hlocks hown hts hP hK A hD hA hS ls hl
  have hown : s.vm.findClass RX2 = some m.cls := hown
  have hinX2 : ∀ w ∈ u_ws RX2 TX2 12, w ∈ wsX2_drop := by decide +kernel
  have hl : lv_has ls 3 [(0, .ref m0), (1, .int kv)] := hl
  refine lv_aload_n hx hb dX2_drop_0 rfl (lv_at hl 0 rfl) ?_
  refine lv_iconst (v := nI 0) hx hb dX2_drop_1 (by decide +kernel) ?_
  refine va_put (D := D) (ci := 3) (v := .int (nI 0)) (ty := .int) (C := RX2) (T := TX2) (N := 12) hx hb hts hinX2 tyX2 tyX2_ok nmX2 hown hK hP hD hS 0 rfl rfl 5 (by decide) (hts (.fieldLink RX2 46 "PuzzleBookModel" "thrown" "I") (by decide +kernel)) (fun _ h9 => h9) rfl (by decide +kernel) rfl rfl (Nat.le_of_ble_eq_true rfl) dX2_drop_2 (fun H locs hP hD hS => ?_)
  have hP : va_P D vwCl (mW m0 m1 m2 m3 m4 m5 cB cI n L fd fc op tn eb ec 0) H := hP
  have hD : va_D A (mW m0 m1 m2 m3 m4 m5 cB cI n L fd fc op tn eb ec 0) := hD
  refine lv_aload_n hx hb dX2_drop_5 rfl (lv_at hl 0 rfl) ?_
  refine va_get (D := D) (ci := 3) (v := .int (nI op)) (C := RX2) (T := TX2) (N := 12) hx hb hts hinX2 hown hK hP 0 rfl rfl 2 (by decide) (hts (.fieldLink RX2 32 "PuzzleBookModel" "open" "Z") (by decide +kernel)) (fun _ h9 => h9) rfl dX2_drop_6 ?_
  refine j0_eq (tgt := 24) hx hb (nI_toInt (n := op) (by omega)) dX2_drop_9 (by decide) (fun c1 => ?_) (fun c1 => ?_)
  · skip
    have e9 : dropF L op tn eb ec kz = (L, tn, eb, ec, nI 0) := if_neg (by omega)
    rw [e9]
    refine lv_iconst (v := nI 0) hx hb dX2_drop_24 (by decide +kernel) ?_
    exact rt_wz hx hb hr hlocks hP hD hS dX2_drop_25 (by decide +kernel) rfl
  · skip
    refine lv_iload_n hx hb dX2_drop_12 rfl (lv_at hl 1 rfl) ?_
    refine j0_lt (tgt := 24) hx hb h1 dX2_drop_13 (by decide) (fun c2 => ?_) (fun c2 => ?_)
    · skip
      have e9 : dropF L op tn eb ec kz = (L, tn, eb, ec, nI 0) := if_neg (by omega)
      rw [e9]
      refine lv_iconst (v := nI 0) hx hb dX2_drop_24 (by decide +kernel) ?_
      exact rt_wz hx hb hr hlocks hP hD hS dX2_drop_25 (by decide +kernel) rfl
    · skip
      refine lv_iload_n hx hb dX2_drop_16 rfl (lv_at hl 1 rfl) ?_
      refine lv_aload_n hx hb dX2_drop_17 rfl (lv_at hl 0 rfl) ?_
      refine va_get (D := D) (ci := 3) (v := .int (nI ec)) (C := RX2) (T := TX2) (N := 12) hx hb hts hinX2 hown hK hP 0 rfl rfl 4 (by decide) (hts (.fieldLink RX2 54 "PuzzleBookModel" "entries" "I") (by decide +kernel)) (fun _ h9 => h9) rfl dX2_drop_18 ?_
      refine jb_lt (tgt := 26) hx hb h1 (nI_toInt (n := ec) (by omega)) dX2_drop_21 (by decide) (fun c3 => ?_) (fun c3 => ?_)
      · skip
        have t9 := ht (by omega)
        obtain ⟨i, hi⟩ : ∃ j : Nat, kz = (j : Int) := ⟨kz.toNat, by omega⟩
        have ei : kv = nI i := Int32.toInt_inj.mp (by rw [h1, hi, nI_toInt (by omega)])
        have zi : kz.toNat = i := by omega
        have e9 : dropF L op tn eb ec kz = (w1 (wR (w0 L) (3 - tn) (ec - 1) (bO (shf eb i (ec - 1 - i)) (ec - 1))) (64 * 0 + 0) (3 - tn), 3 - tn, shf eb i (ec - 1 - i), ec - 1, nI 1) := by rw [← zi]; exact if_pos (by omega)
        refine lv_aload_n hx hb dX2_drop_26 rfl (lv_at hl 0 rfl) ?_
        refine lv_iconst (v := nI 0) hx hb dX2_drop_27 (by decide +kernel) ?_
        refine va_put (D := D) (ci := 3) (v := .int (nI 0)) (ty := .int) (C := RX2) (T := TX2) (N := 12) hx hb hts hinX2 tyX2 tyX2_ok nmX2 hown hK hP hD hS 0 rfl rfl 11 (by decide) (hts (.fieldLink RX2 43 "PuzzleBookModel" "written" "I") (by decide +kernel)) (fun _ h9 => h9) rfl (by decide +kernel) rfl rfl (Nat.le_of_ble_eq_true rfl) dX2_drop_28 (fun H locs hP hD hS => ?_)
        have hP : va_P D vwCl (mW m0 m1 m2 m3 m4 m5 cB cI n (L.1, L.2.1, L.2.2.1, 0) fd fc op tn eb ec 0) H := hP
        have hD : va_D A (mW m0 m1 m2 m3 m4 m5 cB cI n (L.1, L.2.1, L.2.2.1, 0) fd fc op tn eb ec 0) := hD
        refine lv_aload_n hx hb dX2_drop_31 rfl (lv_at hl 0 rfl) ?_
        refine lv_iconst (v := nI 3) hx hb dX2_drop_32 (by decide +kernel) ?_
        refine lv_aload_n hx hb dX2_drop_33 rfl (lv_at hl 0 rfl) ?_
        refine va_get (D := D) (ci := 3) (v := .int (nI tn)) (C := RX2) (T := TX2) (N := 12) hx hb hts hinX2 hown hK hP 0 rfl rfl 3 (by decide) (hts (.fieldLink RX2 29 "PuzzleBookModel" "turn" "I") (by decide +kernel)) (fun _ h9 => h9) rfl dX2_drop_34 ?_
        refine lv_isub hx hb dX2_drop_37 ?_
        refine lv_as (y := nI (3 - tn)) (pk_sub (by omega)) ?_
        refine lv_iload_n hx hb dX2_drop_38 rfl (lv_at hl 1 rfl) ?_
        refine lv_as (y := nI i) ei ?_
        refine wr_V (wr := []) (wo := (mW m0 m1 m2 m3 m4 m5 cB cI n (wR (L.1, L.2.1, L.2.2.1, 0) (3 - tn) (ec - 1) (bO (shf eb i (ec - 1 - i)) (ec - 1))) fd fc op tn eb ec 0)) (As := [.int (nI (3 - tn)), .int (nI i)]) (rest := []) ⟨hx, hb, hml, hown, hts⟩ (c_X2_writeRoot_d l D m0 m1 m2 m3 m4 m5 cB cI n (L.1, L.2.1, L.2.2.1, 0) fd fc op tn eb ec 0 (3 - tn) i H.size  he (by omega) (by omega) (by show 0 + 64 ≤ 129; omega)) (cwV 2 hts gX2_drop_X2_writeRoot rfl rfl rfl (by decide +kernel) ⟨Nat.le_of_ble_eq_true rfl, Nat.le_of_ble_eq_true rfl⟩) hK hP hD hS hA [0, 1, 2, 3, 4, 5] [] rfl rfl rfl rfl (by decide) [0, 1, 2, 3, 4, 5] rfl rfl (ci := 3) rfl rfl (q0 := 0) rfl rfl hl.1 rfl (Nat.le_of_ble_eq_true rfl) dX2_drop_39 ⟨Nat.zero_le _, Nat.zero_le _⟩ (fun H locs hP hD hS => ?_)
        refine lv_aload_n hx hb dX2_drop_42 rfl (lv_at hl 0 rfl) ?_
        refine lv_iconst (v := nI 3) hx hb dX2_drop_43 (by decide +kernel) ?_
        refine lv_aload_n hx hb dX2_drop_44 rfl (lv_at hl 0 rfl) ?_
        refine va_get (D := D) (ci := 3) (v := .int (nI tn)) (C := RX2) (T := TX2) (N := 12) hx hb hts hinX2 hown hK hP 0 rfl rfl 3 (by decide) (hts (.fieldLink RX2 29 "PuzzleBookModel" "turn" "I") (by decide +kernel)) (fun _ h9 => h9) rfl dX2_drop_45 ?_
        refine lv_isub hx hb dX2_drop_48 ?_
        refine lv_as (y := nI (3 - tn)) (pk_sub (by omega)) ?_
        refine wr_V (wr := []) (wo := (mW m0 m1 m2 m3 m4 m5 cB cI n (w1 (wR (L.1, L.2.1, L.2.2.1, 0) (3 - tn) (ec - 1) (bO (shf eb i (ec - 1 - i)) (ec - 1))) (64 * 0 + 0) (3 - tn)) fd fc op (3 - tn) eb ec 0)) (As := [.int (nI (3 - tn))]) (rest := []) ⟨hx, hb, hml, hown, hts⟩ (c_X2_turnTo l D m0 m1 m2 m3 m4 m5 cB cI n (wR (L.1, L.2.1, L.2.2.1, 0) (3 - tn) (ec - 1) (bO (shf eb i (ec - 1 - i)) (ec - 1))) fd fc op tn eb ec 0 (3 - tn) H.size  (by rw [wR_c]; show 0 + 64 < 129; omega)) (cwV 1 hts gX2_drop_X2_turnTo rfl rfl rfl (by decide +kernel) ⟨Nat.le_of_ble_eq_true rfl, Nat.le_of_ble_eq_true rfl⟩) hK hP hD hS hA [0, 1, 2, 3, 4, 5] [] rfl rfl rfl rfl (by decide) [0, 1, 2, 3, 4, 5] rfl rfl (ci := 3) rfl rfl (q0 := 0) rfl rfl hl.1 rfl (Nat.le_of_ble_eq_true rfl) dX2_drop_49 ⟨Nat.zero_le _, Nat.zero_le _⟩ (fun H locs hP hD hS => ?_)
        refine lv_aload_n hx hb dX2_drop_52 rfl (lv_at hl 0 rfl) ?_
        refine lv_dup hx hb dX2_drop_53 rfl ?_
        refine va_get (D := D) (ci := 3) (v := .int (nI ec)) (C := RX2) (T := TX2) (N := 12) hx hb hts hinX2 hown hK hP 0 rfl rfl 4 (by decide) (hts (.fieldLink RX2 54 "PuzzleBookModel" "entries" "I") (by decide +kernel)) (fun _ h9 => h9) rfl dX2_drop_54 ?_
        refine lv_iconst (v := nI 1) hx hb dX2_drop_57 (by decide +kernel) ?_
        refine lv_isub hx hb dX2_drop_58 ?_
        refine lv_as (y := nI (ec - 1)) (pk_sub (by omega)) ?_
        refine va_put (D := D) (ci := 3) (v := .int (nI (ec - 1))) (ty := .int) (C := RX2) (T := TX2) (N := 12) hx hb hts hinX2 tyX2 tyX2_ok nmX2 hown hK hP hD hS 0 rfl rfl 4 (by decide) (hts (.fieldLink RX2 54 "PuzzleBookModel" "entries" "I") (by decide +kernel)) (fun _ h9 => h9) rfl (by decide +kernel) rfl rfl (Nat.le_of_ble_eq_true rfl) dX2_drop_59 (fun H locs hP hD hS => ?_)
        have hP : va_P D vwCl (mW m0 m1 m2 m3 m4 m5 cB cI n (w1 (wR (L.1, L.2.1, L.2.2.1, 0) (3 - tn) (ec - 1) (bO (shf eb i (ec - 1 - i)) (ec - 1))) (64 * 0 + 0) (3 - tn)) fd fc op (3 - tn) eb (ec - 1) 0) H := hP
        have hD : va_D A (mW m0 m1 m2 m3 m4 m5 cB cI n (w1 (wR (L.1, L.2.1, L.2.2.1, 0) (3 - tn) (ec - 1) (bO (shf eb i (ec - 1 - i)) (ec - 1))) (64 * 0 + 0) (3 - tn)) fd fc op (3 - tn) eb (ec - 1) 0) := hD
        refine lv_iload_n hx hb dX2_drop_62 rfl (lv_at hl 1 rfl) ?_
        refine lv_istore_n (lv' := [(2, .int kv), (0, .ref m0), (1, .int kv)]) hx hb dX2_drop_63 rfl hl (by decide) rfl (fun ls hl => ?_)
        have loop : ∀ (fu j : Nat), i + j ≤ ec - 1 → ec - 1 - (i + j) < fu → ∀ (H : Heap) (locs : List Loc), va_P D vwCl (mW m0 m1 m2 m3 m4 m5 cB cI n (w1 (wR (L.1, L.2.1, L.2.2.1, 0) (3 - tn) (ec - 1) (bO (shf eb i (ec - 1 - i)) (ec - 1))) (64 * 0 + 0) (3 - tn)) fd fc op (3 - tn) (shf eb i j) (ec - 1) 0) H → va_D A (mW m0 m1 m2 m3 m4 m5 cB cI n (w1 (wR (L.1, L.2.1, L.2.2.1, 0) (3 - tn) (ec - 1) (bO (shf eb i (ec - 1 - i)) (ec - 1))) (64 * 0 + 0) (3 - tn)) fd fc op (3 - tn) (shf eb i j) (ec - 1) 0) → va_S A s.heap H locs → ∀ ls : Array Slot, lv_has ls 3 [(2, .int (nI (i + j))), (0, .ref m0), (1, .int kv)] → W p l e ({ frames := 3, cells := 0, slots := 0, locals := 71 }) s m [.ref m0, .int kv].toArray below meth c H locs 0 0 (MQ below (wQi ((dropF L op tn eb ec kz).2.2.2.2) D (mW m0 m1 m2 m3 m4 m5 cB cI n ((dropF L op tn eb ec kz).1) fd fc op ((dropF L op tn eb ec kz).2.1) ((dropF L op tn eb ec kz).2.2.1) ((dropF L op tn eb ec kz).2.2.2.1) 0) A) [.ref m0, .int kv].toArray s 0 0 A) (F0 m 64 ls []) := by
          intro fu
          induction fu with
          | zero => intro j hj hf; omega
          | succ fu ih =>
            intro j hj hf H locs hP hD hS ls hl
            refine lv_iload_n hx hb dX2_drop_64 rfl (lv_at hl 0 rfl) ?_
            refine lv_aload_n hx hb dX2_drop_65 rfl (lv_at hl 1 rfl) ?_
            refine va_get (D := D) (ci := 3) (v := .int (nI (ec - 1))) (C := RX2) (T := TX2) (N := 12) hx hb hts hinX2 hown hK hP 0 rfl rfl 4 (by decide) (hts (.fieldLink RX2 54 "PuzzleBookModel" "entries" "I") (by decide +kernel)) (fun _ h9 => h9) rfl dX2_drop_66 ?_
            refine jb_ge (tgt := 92) hx hb (nI_toInt (n := i + j) (by omega)) (nI_toInt (n := ec - 1) (by omega)) dX2_drop_69 (by decide) (fun c4 => ?_) (fun c4 => ?_)
            · skip
              refine lv_iconst (v := nI 1) hx hb dX2_drop_92 (by decide +kernel) ?_
              have k9 : ec - 1 - i = j := by omega
              rw [e9]
              have hP : va_P D vwCl (mW m0 m1 m2 m3 m4 m5 cB cI n (w1 (wR (L.1, L.2.1, L.2.2.1, 0) (3 - tn) (ec - 1) (bO (shf eb i (ec - 1 - i)) (ec - 1))) (64 * 0 + 0) (3 - tn)) fd fc op (3 - tn) (shf eb i j) (ec - 1) 0) H := hP
              rw [← k9] at hP hD
              exact rt_wz hx hb hr hlocks hP hD hS dX2_drop_93 (by decide +kernel) rfl
            · skip
              refine lv_aload_n hx hb dX2_drop_72 rfl (lv_at hl 1 rfl) ?_
              refine va_get (D := D) (ci := 3) (v := .ref m2) (C := RX2) (T := TX2) (N := 12) hx hb hts hinX2 hown hK hP 0 rfl rfl 6 (by decide) (hts (.fieldLink RX2 13 "PuzzleBookModel" "block" "[I") (by decide +kernel)) (fun _ h9 => h9) rfl dX2_drop_73 ?_
              refine lv_iload_n hx hb dX2_drop_76 rfl (lv_at hl 0 rfl) ?_
              refine lv_aload_n hx hb dX2_drop_77 rfl (lv_at hl 1 rfl) ?_
              refine va_get (D := D) (ci := 3) (v := .ref m2) (C := RX2) (T := TX2) (N := 12) hx hb hts hinX2 hown hK hP 0 rfl rfl 6 (by decide) (hts (.fieldLink RX2 13 "PuzzleBookModel" "block" "[I") (by decide +kernel)) (fun _ h9 => h9) rfl dX2_drop_78 ?_
              refine lv_iload_n hx hb dX2_drop_81 rfl (lv_at hl 0 rfl) ?_
              refine lv_iconst (v := nI 1) hx hb dX2_drop_82 (by decide +kernel) ?_
              refine lv_iadd hx hb dX2_drop_83 ?_
              refine lv_as (y := nI ((i + j) + 1)) (nI_add _ _) ?_
              refine ld_i (f := shf eb i j) (k := (i + j) + 1) hx hb hK hP 2 1 rfl rfl (by omega) (by decide) dX2_drop_84 ?_
              refine st_i (f := shf eb i j) (k := i + j) (x := (shf eb i j) ((i + j) + 1)) hx hb hK hP hD hS 2 1 rfl rfl (by omega) (by decide) dX2_drop_85 (fun H locs hP hD hS => ?_)
              have hP : va_P D vwCl (mW m0 m1 m2 m3 m4 m5 cB cI n (w1 (wR (L.1, L.2.1, L.2.2.1, 0) (3 - tn) (ec - 1) (bO (shf eb i (ec - 1 - i)) (ec - 1))) (64 * 0 + 0) (3 - tn)) fd fc op (3 - tn) (va_up (shf eb i j) (i + j) ((shf eb i j) ((i + j) + 1))) (ec - 1) 0) H := hP
              have hD : va_D A (mW m0 m1 m2 m3 m4 m5 cB cI n (w1 (wR (L.1, L.2.1, L.2.2.1, 0) (3 - tn) (ec - 1) (bO (shf eb i (ec - 1 - i)) (ec - 1))) (64 * 0 + 0) (3 - tn)) fd fc op (3 - tn) (va_up (shf eb i j) (i + j) ((shf eb i j) ((i + j) + 1))) (ec - 1) 0) := hD
              refine lv_iinc (v := nI (i + j + 1)) (lv' := [(2, .int (nI (i + j + 1))), (0, .ref m0), (1, .int kv)]) hx hb dX2_drop_86 hl (k := 0) rfl (nI_add _ 1) (by decide) rfl (fun ls hl => ?_)
              refine lv_goto (tgt := 64) hx hb dX2_drop_89 (by decide) ?_
              exact ih (j + 1) (by omega) (by omega) H locs hP hD hS ls (lv_sub hl [0, 1, 2] rfl)
        exact loop (ec + 1) 0 (by omega) (by omega) H locs hP hD hS ls (by rw [ei] at hl ⊢; exact lv_sub hl [0, 1, 2] rfl)
      · skip
        have e9 : dropF L op tn eb ec kz = (L, tn, eb, ec, nI 0) := if_neg (by omega)
        rw [e9]
        refine lv_iconst (v := nI 0) hx hb dX2_drop_24 (by decide +kernel) ?_
        exact rt_wz hx hb hr hlocks hP hD hS dX2_drop_25 (by decide +kernel) rfl
set_option maxRecDepth 100000 in
set_option maxHeartbeats 4000000 in
/-- find(name, i) -/
theorem c_X2_find (l : Launch) (D : va_G) (m0 m1 m2 m3 m4 m5 : Nat) (cB cI : ClassId) (n : Nat) (L : Lg) (fd : Nat → Nat) (fc : Nat) (op : Nat) (tn : Nat) (eb : Nat → Nat) (ec : Nat) (th : Nat) (nv iv : Int32) (nz iz : Int) (sz : Nat) (hn : n ≤ 64) (hg : ∀ j, L.1 j < 256) (he : ec ≤ 40) (hE : ∀ k, bO eb ec k < n) (ho : op ≤ 1) (h1 : nv.toInt = nz) (h2 : iv.toInt = iz) : Met l yX2_find wsX2_find ({ frames := 1, cells := 0, slots := 0, locals := 21 }) (wP [.ref m0, .int nv, .int iv] D (mW m0 m1 m2 m3 m4 m5 cB cI n L fd fc op tn eb ec th) (ty2 cB cI) sz) (wQi ((q_find L.1 (bO eb ec) op ec nz iz)) D (mW m0 m1 m2 m3 m4 m5 cB cI n L fd fc op tn eb ec 0) (va_A (mW m0 m1 m2 m3 m4 m5 cB cI n L fd fc op tn eb ec th) sz)) 0 0 (va_A (mW m0 m1 m2 m3 m4 m5 cB cI n L fd fc op tn eb ec th) sz) := by
  refine met_wi (by decide) rfl (Nat.le_of_ble_eq_true rfl) ?_
  intro p e s m below meth c hx hb hml hr hlocks hown hts hP hK A hD hA hS ls hl
  have hown : s.vm.findClass RX2 = some m.cls := hown
  have hinX2 : ∀ w ∈ u_ws RX2 TX2 12, w ∈ wsX2_find := by decide +kernel
  have hl : lv_has ls 4 [(0, .ref m0), (1, .int nv), (2, .int iv)] := hl
  refine lv_aload_n hx hb dX2_find_0 rfl (lv_at hl 0 rfl) ?_
  refine lv_iconst (v := nI 0) hx hb dX2_find_1 (by decide +kernel) ?_
  refine va_put (D := D) (ci := 3) (v := .int (nI 0)) (ty := .int) (C := RX2) (T := TX2) (N := 12) hx hb hts hinX2 tyX2 tyX2_ok nmX2 hown hK hP hD hS 0 rfl rfl 5 (by decide) (hts (.fieldLink RX2 46 "PuzzleBookModel" "thrown" "I") (by decide +kernel)) (fun _ h9 => h9) rfl (by decide +kernel) rfl rfl (Nat.le_of_ble_eq_true rfl) dX2_find_2 (fun H locs hP hD hS => ?_)
  have hP : va_P D vwCl (mW m0 m1 m2 m3 m4 m5 cB cI n L fd fc op tn eb ec 0) H := hP
  have hD : va_D A (mW m0 m1 m2 m3 m4 m5 cB cI n L fd fc op tn eb ec 0) := hD
  refine lv_aload_n hx hb dX2_find_5 rfl (lv_at hl 0 rfl) ?_
  refine va_get (D := D) (ci := 3) (v := .int (nI op)) (C := RX2) (T := TX2) (N := 12) hx hb hts hinX2 hown hK hP 0 rfl rfl 2 (by decide) (hts (.fieldLink RX2 32 "PuzzleBookModel" "open" "Z") (by decide +kernel)) (fun _ h9 => h9) rfl dX2_find_6 ?_
  refine j0_ne (tgt := 14) hx hb (nI_toInt (n := op) (by omega)) dX2_find_9 (by decide) (fun c1 => ?_) (fun c1 => ?_)
  · skip
    have loop : ∀ (fu t : Nat), t ≤ ec → t < fu → fdF L.1 (bO eb ec) nz iz ec = fdF L.1 (bO eb ec) nz iz t → ∀ (H : Heap) (locs : List Loc), va_P D vwCl (mW m0 m1 m2 m3 m4 m5 cB cI n L fd fc op tn eb ec 0) H → va_D A (mW m0 m1 m2 m3 m4 m5 cB cI n L fd fc op tn eb ec 0) → va_S A s.heap H locs → ∀ ls : Array Slot, lv_has ls 4 [(3, .int (nI t - nI 1)), (0, .ref m0), (1, .int nv), (2, .int iv)] → W p l e ({ frames := 1, cells := 0, slots := 0, locals := 21 }) s m [.ref m0, .int nv, .int iv].toArray below meth c H locs 0 0 (MQ below (wQi ((q_find L.1 (bO eb ec) op ec nz iz)) D (mW m0 m1 m2 m3 m4 m5 cB cI n L fd fc op tn eb ec 0) A) [.ref m0, .int nv, .int iv].toArray s 0 0 A) (F0 m 21 ls []) := by
      intro fu
      induction fu with
      | zero => intro t hm hf; omega
      | succ fu ih =>
        intro t hm hfu hq H locs hP hD hS ls hl
        refine lv_iload_n hx hb dX2_find_21 rfl (lv_at hl 0 rfl) ?_
        refine j0_lt (tgt := 82) hx hb (m1_toInt (by omega)) dX2_find_22 (by decide) (fun c2 => ?_) (fun c2 => ?_)
        · skip
          refine lv_iconst (v := -1) hx hb dX2_find_82 (by decide +kernel) ?_
          have hk9 : 0 = t := by omega
          subst hk9
          exact rt_wi hx hb hr hlocks hP hD hS dX2_find_83 (by unfold q_find; rw [if_neg (by omega), hq]; rfl)
        · skip
          refine lv_aload_n hx hb dX2_find_25 rfl (lv_at hl 1 rfl) ?_
          refine lv_iload_n hx hb dX2_find_26 rfl (lv_at hl 0 rfl) ?_
          refine lv_as (y := nI (t - 1)) (pk_sub (by omega)) ?_
          refine rd_V (As := [.int (nI (t - 1))]) (rest := []) ⟨hx, hb, hml, hown, hts⟩ (c_X2_nameOf l D m0 m1 m2 m3 m4 m5 cB cI n L fd fc op tn eb ec 0 (t - 1) hn hg he hE (by omega)) (cwV 1 hts gX2_find_X2_nameOf rfl rfl rfl (by decide +kernel) ⟨Nat.le_of_ble_eq_true rfl, Nat.le_of_ble_eq_true rfl⟩) hK hP [0, 1, 2, 3, 4, 5] rfl (ci := 3) rfl rfl (q0 := 0) rfl rfl hl.1 rfl (Nat.le_of_ble_eq_true rfl) dX2_find_27 ⟨Nat.zero_le _, Nat.zero_le _⟩ (fun r3 hr3 => ?_)
          subst hr3
          have m9 : nmO L.1 (bO eb ec (t - 1)) < 65536 := nmO_lt hg _
          refine lv_iload_n hx hb dX2_find_30 rfl (lv_at hl 2 rfl) ?_
          refine jb_ne (tgt := 76) hx hb (nI_toInt (n := nmO L.1 (bO eb ec (t - 1))) (by omega)) h1 dX2_find_31 (by decide) (fun c4 => ?_) (fun c4 => ?_)
          · skip
            refine lv_iinc (v := (nI (t - 1) - nI 1)) (lv' := [(3, .int (nI (t - 1) - nI 1)), (0, .ref m0), (1, .int nv), (2, .int iv)]) hx hb dX2_find_76 hl (k := 0) rfl (m1_dec (by omega)) (by decide) rfl (fun ls hl => ?_)
            refine lv_goto (tgt := 21) hx hb dX2_find_79 (by decide) ?_
            exact ih (t - 1) (by omega) (by omega) (hq.trans (fdF_f (by omega) c4)) H locs hP hD hS ls (lv_sub hl [0, 1, 2, 3] rfl)
          · skip
            have g9 := hg (64 * bO eb ec (t - 1) + 2)
            refine lv_iload_n hx hb dX2_find_34 rfl (lv_at hl 3 rfl) ?_
            refine j0_lt (tgt := 53) hx hb h2 dX2_find_35 (by decide) (fun c5 => ?_) (fun c5 => ?_)
            · skip
              refine lv_iconst (v := -1) hx hb dX2_find_53 (by decide +kernel) ?_
              refine lv_goto (tgt := 75) hx hb dX2_find_54 (by decide) ?_
              exact rt_wi hx hb hr hlocks hP hD hS dX2_find_75 (by unfold q_find; rw [if_neg (by omega), hq, fdF_t (by omega) c4]; unfold rwB; rw [if_neg (by omega)])
            · skip
              refine lv_iload_n hx hb dX2_find_38 rfl (lv_at hl 3 rfl) ?_
              refine lv_aload_n hx hb dX2_find_39 rfl (lv_at hl 1 rfl) ?_
              refine lv_iload_n hx hb dX2_find_40 rfl (lv_at hl 0 rfl) ?_
              refine lv_as (y := nI (t - 1)) (pk_sub (by omega)) ?_
              refine rd_V (As := [.int (nI (t - 1))]) (rest := [.int iv]) ⟨hx, hb, hml, hown, hts⟩ (c_X2_longOf l D m0 m1 m2 m3 m4 m5 cB cI n L fd fc op tn eb ec 0 (t - 1) hn hg he hE (by omega)) (cwV 1 hts gX2_find_X2_longOf rfl rfl rfl (by decide +kernel) ⟨Nat.le_of_ble_eq_true rfl, Nat.le_of_ble_eq_true rfl⟩) hK hP [0, 1, 2, 3, 4, 5] rfl (ci := 3) rfl rfl (q0 := 0) rfl rfl hl.1 rfl (Nat.le_of_ble_eq_true rfl) dX2_find_41 ⟨Nat.zero_le _, Nat.zero_le _⟩ (fun r6 hr6 => ?_)
              subst hr6
              refine jb_ge (tgt := 53) hx hb h2 (nI_toInt (n := L.1 (64 * bO eb ec (t - 1) + 2)) (by omega)) dX2_find_44 (by decide) (fun c7 => ?_) (fun c7 => ?_)
              · skip
                refine lv_iconst (v := -1) hx hb dX2_find_53 (by decide +kernel) ?_
                refine lv_goto (tgt := 75) hx hb dX2_find_54 (by decide) ?_
                exact rt_wi hx hb hr hlocks hP hD hS dX2_find_75 (by unfold q_find; rw [if_neg (by omega), hq, fdF_t (by omega) c4]; unfold rwB; rw [if_neg (by omega)])
              · skip
                refine lv_iload_n hx hb dX2_find_47 rfl (lv_at hl 3 rfl) ?_
                refine lv_bipush (v := nI 48) hx hb dX2_find_48 (by decide +kernel) ?_
                refine jb_lt (tgt := 57) hx hb h2 (nI_toInt (n := 48) (by decide)) dX2_find_50 (by decide) (fun c8 => ?_) (fun c8 => ?_)
                · skip
                  obtain ⟨i, hi⟩ : ∃ j : Nat, iz = (j : Int) := ⟨iz.toNat, by omega⟩
                  have ei : iv = nI i := Int32.toInt_inj.mp (by rw [h2, hi, nI_toInt (by omega)])
                  have zi : iz.toNat = i := by omega
                  have e9 := hE (t - 1)
                  refine lv_aload_n hx hb dX2_find_57 rfl (lv_at hl 1 rfl) ?_
                  refine va_get (D := D) (ci := 3) (v := .ref m1) (C := RX2) (T := TX2) (N := 12) hx hb hts hinX2 hown hK hP 0 rfl rfl 1 (by decide) (hts (.fieldLink RX2 7 "PuzzleBookModel" "store" "[I") (by decide +kernel)) (fun _ h9 => h9) rfl dX2_find_58 ?_
                  refine lv_bipush (v := nI 64) hx hb dX2_find_61 (by decide +kernel) ?_
                  refine lv_aload_n hx hb dX2_find_63 rfl (lv_at hl 1 rfl) ?_
                  refine va_get (D := D) (ci := 3) (v := .ref m2) (C := RX2) (T := TX2) (N := 12) hx hb hts hinX2 hown hK hP 0 rfl rfl 6 (by decide) (hts (.fieldLink RX2 13 "PuzzleBookModel" "block" "[I") (by decide +kernel)) (fun _ h9 => h9) rfl dX2_find_64 ?_
                  refine lv_iload_n hx hb dX2_find_67 rfl (lv_at hl 0 rfl) ?_
                  refine lv_as (y := nI (t - 1)) (pk_sub (by omega)) ?_
                  refine ld_i (f := eb) (k := t - 1) hx hb hK hP 2 1 rfl rfl (by omega) (by decide) dX2_find_68 ?_
                  refine lv_as (y := nI (bO eb ec (t - 1))) (congrArg nI (bO_t (by omega)).symm) ?_
                  refine lv_imul hx hb dX2_find_69 ?_
                  refine lv_as (y := nI (64 * (bO eb ec (t - 1)))) (pk_mul _ _) ?_
                  refine lv_iconst (v := nI 3) hx hb dX2_find_70 (by decide +kernel) ?_
                  refine lv_iadd hx hb dX2_find_71 ?_
                  refine lv_as (y := nI ((64 * (bO eb ec (t - 1))) + 3)) (nI_add _ _) ?_
                  refine lv_iload_n hx hb dX2_find_72 rfl (lv_at hl 3 rfl) ?_
                  refine lv_as (y := nI i) ei ?_
                  refine lv_iadd hx hb dX2_find_73 ?_
                  refine lv_as (y := nI (((64 * (bO eb ec (t - 1))) + 3) + i)) (nI_add _ _) ?_
                  refine lv_as (y := nI (64 * bO eb ec (t - 1) + (3 + i))) (congrArg nI (by omega)) ?_
                  refine ld_i (f := L.1) (k := 64 * bO eb ec (t - 1) + (3 + i)) hx hb hK hP 1 1 rfl rfl (by omega) (by decide) dX2_find_74 ?_
                  exact rt_wi hx hb hr hlocks hP hD hS dX2_find_75 (by unfold q_find; rw [if_neg (by omega), hq, fdF_t (by omega) c4]; unfold rwB; rw [if_pos (by omega), zi])
                · skip
                  refine lv_iconst (v := -1) hx hb dX2_find_53 (by decide +kernel) ?_
                  refine lv_goto (tgt := 75) hx hb dX2_find_54 (by decide) ?_
                  exact rt_wi hx hb hr hlocks hP hD hS dX2_find_75 (by unfold q_find; rw [if_neg (by omega), hq, fdF_t (by omega) c4]; unfold rwB; rw [if_neg (by omega)])
    refine lv_aload_n hx hb dX2_find_14 rfl (lv_at hl 0 rfl) ?_
    refine va_get (D := D) (ci := 3) (v := .int (nI ec)) (C := RX2) (T := TX2) (N := 12) hx hb hts hinX2 hown hK hP 0 rfl rfl 4 (by decide) (hts (.fieldLink RX2 54 "PuzzleBookModel" "entries" "I") (by decide +kernel)) (fun _ h9 => h9) rfl dX2_find_15 ?_
    refine lv_iconst (v := nI 1) hx hb dX2_find_18 (by decide +kernel) ?_
    refine lv_isub hx hb dX2_find_19 ?_
    refine lv_istore_n (lv' := [(3, .int (nI ec - nI 1)), (0, .ref m0), (1, .int nv), (2, .int iv)]) hx hb dX2_find_20 rfl hl (by decide) rfl (fun ls hl => ?_)
    exact loop (ec + 1) ec (by omega) (by omega) rfl H locs hP hD hS ls (lv_sub hl [0, 1, 2, 3] rfl)
  · skip
    refine lv_iconst (v := -1) hx hb dX2_find_12 (by decide +kernel) ?_
    exact rt_wi hx hb hr hlocks hP hD hS dX2_find_13 (by unfold q_find; rw [if_pos (by omega)])
set_option maxRecDepth 100000 in
set_option maxHeartbeats 4000000 in
/-- entry(k, what) -/
theorem c_X2_entry (l : Launch) (D : va_G) (m0 m1 m2 m3 m4 m5 : Nat) (cB cI : ClassId) (n : Nat) (L : Lg) (fd : Nat → Nat) (fc : Nat) (op : Nat) (tn : Nat) (eb : Nat → Nat) (ec : Nat) (th : Nat) (kv wv : Int32) (kz wz : Int) (sz : Nat) (hn : n ≤ 64) (hg : ∀ j, L.1 j < 256) (he : ec ≤ 40) (hE : ∀ k, bO eb ec k < n) (ho : op ≤ 1) (h1 : kv.toInt = kz) (h2 : wv.toInt = wz) : Met l yX2_entry wsX2_entry ({ frames := 1, cells := 0, slots := 0, locals := 21 }) (wP [.ref m0, .int kv, .int wv] D (mW m0 m1 m2 m3 m4 m5 cB cI n L fd fc op tn eb ec th) (ty2 cB cI) sz) (wQi ((q_entry L.1 (bO eb ec) op ec kz wz)) D (mW m0 m1 m2 m3 m4 m5 cB cI n L fd fc op tn eb ec 0) (va_A (mW m0 m1 m2 m3 m4 m5 cB cI n L fd fc op tn eb ec th) sz)) 0 0 (va_A (mW m0 m1 m2 m3 m4 m5 cB cI n L fd fc op tn eb ec th) sz) := by
  refine met_wi (by decide) rfl (Nat.le_of_ble_eq_true rfl) ?_
  intro p e s m below meth c hx hb hml hr hlocks hown hts hP hK A hD hA hS ls hl
  have hown : s.vm.findClass RX2 = some m.cls := hown
  have hinX2 : ∀ w ∈ u_ws RX2 TX2 12, w ∈ wsX2_entry := by decide +kernel
  have hl : lv_has ls 3 [(0, .ref m0), (1, .int kv), (2, .int wv)] := hl
  refine lv_aload_n hx hb dX2_entry_0 rfl (lv_at hl 0 rfl) ?_
  refine lv_iconst (v := nI 0) hx hb dX2_entry_1 (by decide +kernel) ?_
  refine va_put (D := D) (ci := 3) (v := .int (nI 0)) (ty := .int) (C := RX2) (T := TX2) (N := 12) hx hb hts hinX2 tyX2 tyX2_ok nmX2 hown hK hP hD hS 0 rfl rfl 5 (by decide) (hts (.fieldLink RX2 46 "PuzzleBookModel" "thrown" "I") (by decide +kernel)) (fun _ h9 => h9) rfl (by decide +kernel) rfl rfl (Nat.le_of_ble_eq_true rfl) dX2_entry_2 (fun H locs hP hD hS => ?_)
  have hP : va_P D vwCl (mW m0 m1 m2 m3 m4 m5 cB cI n L fd fc op tn eb ec 0) H := hP
  have hD : va_D A (mW m0 m1 m2 m3 m4 m5 cB cI n L fd fc op tn eb ec 0) := hD
  refine lv_aload_n hx hb dX2_entry_5 rfl (lv_at hl 0 rfl) ?_
  refine va_get (D := D) (ci := 3) (v := .int (nI op)) (C := RX2) (T := TX2) (N := 12) hx hb hts hinX2 hown hK hP 0 rfl rfl 2 (by decide) (hts (.fieldLink RX2 32 "PuzzleBookModel" "open" "Z") (by decide +kernel)) (fun _ h9 => h9) rfl dX2_entry_6 ?_
  refine j0_eq (tgt := 24) hx hb (nI_toInt (n := op) (by omega)) dX2_entry_9 (by decide) (fun c1 => ?_) (fun c1 => ?_)
  · skip
    refine lv_iconst (v := -1) hx hb dX2_entry_24 (by decide +kernel) ?_
    exact rt_wi hx hb hr hlocks hP hD hS dX2_entry_25 (by unfold q_entry; rw [if_neg (by omega)])
  · skip
    refine lv_iload_n hx hb dX2_entry_12 rfl (lv_at hl 1 rfl) ?_
    refine j0_lt (tgt := 24) hx hb h1 dX2_entry_13 (by decide) (fun c2 => ?_) (fun c2 => ?_)
    · skip
      refine lv_iconst (v := -1) hx hb dX2_entry_24 (by decide +kernel) ?_
      exact rt_wi hx hb hr hlocks hP hD hS dX2_entry_25 (by unfold q_entry; rw [if_neg (by omega)])
    · skip
      refine lv_iload_n hx hb dX2_entry_16 rfl (lv_at hl 1 rfl) ?_
      refine lv_aload_n hx hb dX2_entry_17 rfl (lv_at hl 0 rfl) ?_
      refine va_get (D := D) (ci := 3) (v := .int (nI ec)) (C := RX2) (T := TX2) (N := 12) hx hb hts hinX2 hown hK hP 0 rfl rfl 4 (by decide) (hts (.fieldLink RX2 54 "PuzzleBookModel" "entries" "I") (by decide +kernel)) (fun _ h9 => h9) rfl dX2_entry_18 ?_
      refine jb_lt (tgt := 26) hx hb h1 (nI_toInt (n := ec) (by omega)) dX2_entry_21 (by decide) (fun c3 => ?_) (fun c3 => ?_)
      · skip
        obtain ⟨i, hi⟩ : ∃ j : Nat, kz = (j : Int) := ⟨kz.toNat, by omega⟩
        have ei : kv = nI i := Int32.toInt_inj.mp (by rw [h1, hi, nI_toInt (by omega)])
        have zi : kz.toNat = i := by omega
        refine lv_iload_n hx hb dX2_entry_26 rfl (lv_at hl 2 rfl) ?_
        refine j0_ne (tgt := 38) hx hb h2 dX2_entry_27 (by decide) (fun c4 => ?_) (fun c4 => ?_)
        · skip
          refine lv_iload_n hx hb dX2_entry_38 rfl (lv_at hl 2 rfl) ?_
          refine lv_iconst (v := nI 1) hx hb dX2_entry_39 (by decide +kernel) ?_
          refine jb_ne (tgt := 52) hx hb h2 (nI_toInt (n := 1) (by decide)) dX2_entry_40 (by decide) (fun c5 => ?_) (fun c5 => ?_)
          · skip
            refine lv_iload_n hx hb dX2_entry_52 rfl (lv_at hl 2 rfl) ?_
            refine lv_iconst (v := nI 2) hx hb dX2_entry_53 (by decide +kernel) ?_
            refine jb_ne (tgt := 65) hx hb h2 (nI_toInt (n := 2) (by decide)) dX2_entry_54 (by decide) (fun c6 => ?_) (fun c6 => ?_)
            · skip
              refine lv_iconst (v := -1) hx hb dX2_entry_65 (by decide +kernel) ?_
              exact rt_wi hx hb hr hlocks hP hD hS dX2_entry_66 (by unfold q_entry; rw [if_pos (by omega), if_neg (by omega), if_neg (by omega), if_neg (by omega)])
            · skip
              refine lv_aload_n hx hb dX2_entry_57 rfl (lv_at hl 0 rfl) ?_
              refine lv_iload_n hx hb dX2_entry_58 rfl (lv_at hl 1 rfl) ?_
              refine lv_as (y := nI i) ei ?_
              refine rd_V (As := [.int (nI i)]) (rest := []) ⟨hx, hb, hml, hown, hts⟩ (c_X2_longOf l D m0 m1 m2 m3 m4 m5 cB cI n L fd fc op tn eb ec 0 i hn hg he hE (by omega)) (cwV 1 hts gX2_entry_X2_longOf rfl rfl rfl (by decide +kernel) ⟨Nat.le_of_ble_eq_true rfl, Nat.le_of_ble_eq_true rfl⟩) hK hP [0, 1, 2, 3, 4, 5] rfl (ci := 3) rfl rfl (q0 := 0) rfl rfl hl.1 rfl (Nat.le_of_ble_eq_true rfl) dX2_entry_59 ⟨Nat.zero_le _, Nat.zero_le _⟩ (fun r7 hr7 => ?_)
              subst hr7
              refine lv_goto (tgt := 66) hx hb dX2_entry_62 (by decide) ?_
              exact rt_wi hx hb hr hlocks hP hD hS dX2_entry_66 (by unfold q_entry; rw [if_pos (by omega), if_neg (by omega), if_neg (by omega), if_pos (by omega), zi])
          · skip
            refine lv_aload_n hx hb dX2_entry_43 rfl (lv_at hl 0 rfl) ?_
            refine va_get (D := D) (ci := 3) (v := .ref m2) (C := RX2) (T := TX2) (N := 12) hx hb hts hinX2 hown hK hP 0 rfl rfl 6 (by decide) (hts (.fieldLink RX2 13 "PuzzleBookModel" "block" "[I") (by decide +kernel)) (fun _ h9 => h9) rfl dX2_entry_44 ?_
            refine lv_iload_n hx hb dX2_entry_47 rfl (lv_at hl 1 rfl) ?_
            refine lv_as (y := nI i) ei ?_
            refine ld_i (f := eb) (k := i) hx hb hK hP 2 1 rfl rfl (by omega) (by decide) dX2_entry_48 ?_
            refine lv_as (y := nI (bO eb ec i)) (congrArg nI (bO_t (by omega)).symm) ?_
            refine lv_goto (tgt := 66) hx hb dX2_entry_49 (by decide) ?_
            exact rt_wi hx hb hr hlocks hP hD hS dX2_entry_66 (by unfold q_entry; rw [if_pos (by omega), if_neg (by omega), if_pos (by omega), zi])
        · skip
          refine lv_aload_n hx hb dX2_entry_30 rfl (lv_at hl 0 rfl) ?_
          refine lv_iload_n hx hb dX2_entry_31 rfl (lv_at hl 1 rfl) ?_
          refine lv_as (y := nI i) ei ?_
          refine rd_V (As := [.int (nI i)]) (rest := []) ⟨hx, hb, hml, hown, hts⟩ (c_X2_nameOf l D m0 m1 m2 m3 m4 m5 cB cI n L fd fc op tn eb ec 0 i hn hg he hE (by omega)) (cwV 1 hts gX2_entry_X2_nameOf rfl rfl rfl (by decide +kernel) ⟨Nat.le_of_ble_eq_true rfl, Nat.le_of_ble_eq_true rfl⟩) hK hP [0, 1, 2, 3, 4, 5] rfl (ci := 3) rfl rfl (q0 := 0) rfl rfl hl.1 rfl (Nat.le_of_ble_eq_true rfl) dX2_entry_32 ⟨Nat.zero_le _, Nat.zero_le _⟩ (fun r8 hr8 => ?_)
          subst hr8
          refine lv_goto (tgt := 66) hx hb dX2_entry_35 (by decide) ?_
          exact rt_wi hx hb hr hlocks hP hD hS dX2_entry_66 (by unfold q_entry; rw [if_pos (by omega), if_pos (by omega), zi])
      · skip
        refine lv_iconst (v := -1) hx hb dX2_entry_24 (by decide +kernel) ?_
        exact rt_wi hx hb hr hlocks hP hD hS dX2_entry_25 (by unfold q_entry; rw [if_neg (by omega)])
set_option maxRecDepth 100000 in
set_option maxHeartbeats 4000000 in
/-- crash(kept) -/
theorem c_X2_crash (l : Launch) (D : va_G) (m0 m1 m2 m3 m4 m5 : Nat) (cB cI : ClassId) (n : Nat) (L : Lg) (fd : Nat → Nat) (fc : Nat) (op : Nat) (tn : Nat) (eb : Nat → Nat) (ec : Nat) (th : Nat) (kv : Int32) (kz : Int) (sz : Nat) (hn : n ≤ 64) (ho : op ≤ 1) (h2 : L.2.2.2 ≤ 129) (hp : op ≠ 0 → ∀ k, k < L.2.2.2 → L.2.1 k < 64 * n) (h1 : kv.toInt = kz) : Met l yX2_crash wsX2_crash ({ frames := 0, cells := 0, slots := 0, locals := 0 }) (wP [.ref m0, .int kv] D (mW m0 m1 m2 m3 m4 m5 cB cI n L fd fc op tn eb ec th) (ty2 cB cI) sz) (wQi ((mcF L op kz).2.2) D (mW m0 m1 m2 m3 m4 m5 cB cI n ((mcF L op kz).1) fd fc ((mcF L op kz).2.1) tn eb ec 0) (va_A (mW m0 m1 m2 m3 m4 m5 cB cI n L fd fc op tn eb ec th) sz)) 0 0 (va_A (mW m0 m1 m2 m3 m4 m5 cB cI n L fd fc op tn eb ec th) sz) := by
  refine met_wi (by decide) rfl (Nat.le_of_ble_eq_true rfl) ?_
  intro p e s m below meth c hx hb hml hr hlocks hown hts hP hK A hD hA hS ls hl
  have hown : s.vm.findClass RX2 = some m.cls := hown
  have hinX2 : ∀ w ∈ u_ws RX2 TX2 12, w ∈ wsX2_crash := by decide +kernel
  have hl : lv_has ls 3 [(0, .ref m0), (1, .int kv)] := hl
  refine lv_aload_n hx hb dX2_crash_0 rfl (lv_at hl 0 rfl) ?_
  refine lv_iconst (v := nI 0) hx hb dX2_crash_1 (by decide +kernel) ?_
  refine va_put (D := D) (ci := 3) (v := .int (nI 0)) (ty := .int) (C := RX2) (T := TX2) (N := 12) hx hb hts hinX2 tyX2 tyX2_ok nmX2 hown hK hP hD hS 0 rfl rfl 5 (by decide) (hts (.fieldLink RX2 46 "PuzzleBookModel" "thrown" "I") (by decide +kernel)) (fun _ h9 => h9) rfl (by decide +kernel) rfl rfl (Nat.le_of_ble_eq_true rfl) dX2_crash_2 (fun H locs hP hD hS => ?_)
  have hP : va_P D vwCl (mW m0 m1 m2 m3 m4 m5 cB cI n L fd fc op tn eb ec 0) H := hP
  have hD : va_D A (mW m0 m1 m2 m3 m4 m5 cB cI n L fd fc op tn eb ec 0) := hD
  refine lv_aload_n hx hb dX2_crash_5 rfl (lv_at hl 0 rfl) ?_
  refine va_get (D := D) (ci := 3) (v := .int (nI op)) (C := RX2) (T := TX2) (N := 12) hx hb hts hinX2 hown hK hP 0 rfl rfl 2 (by decide) (hts (.fieldLink RX2 32 "PuzzleBookModel" "open" "Z") (by decide +kernel)) (fun _ h9 => h9) rfl dX2_crash_6 ?_
  refine j0_eq (tgt := 31) hx hb (nI_toInt (n := op) (by omega)) dX2_crash_9 (by decide) (fun c1 => ?_) (fun c1 => ?_)
  · skip
    have e9 : mcF L op kz = (L, op, nI 0) := if_neg (by omega)
    rw [e9]
    refine lv_iconst (v := nI 0) hx hb dX2_crash_31 (by decide +kernel) ?_
    exact rt_wz hx hb hr hlocks hP hD hS dX2_crash_32 (by decide +kernel) rfl
  · skip
    refine lv_aload_n hx hb dX2_crash_12 rfl (lv_at hl 0 rfl) ?_
    refine va_get (D := D) (ci := 3) (v := .int (nI L.2.2.2)) (C := RX2) (T := TX2) (N := 12) hx hb hts hinX2 hown hK hP 0 rfl rfl 11 (by decide) (hts (.fieldLink RX2 43 "PuzzleBookModel" "written" "I") (by decide +kernel)) (fun _ h9 => h9) rfl dX2_crash_13 ?_
    refine j0_eq (tgt := 31) hx hb (nI_toInt (n := L.2.2.2) (by omega)) dX2_crash_16 (by decide) (fun c2 => ?_) (fun c2 => ?_)
    · skip
      have e9 : mcF L op kz = (L, op, nI 0) := if_neg (by omega)
      rw [e9]
      refine lv_iconst (v := nI 0) hx hb dX2_crash_31 (by decide +kernel) ?_
      exact rt_wz hx hb hr hlocks hP hD hS dX2_crash_32 (by decide +kernel) rfl
    · skip
      refine lv_iload_n hx hb dX2_crash_19 rfl (lv_at hl 1 rfl) ?_
      refine j0_lt (tgt := 31) hx hb h1 dX2_crash_20 (by decide) (fun c3 => ?_) (fun c3 => ?_)
      · skip
        have e9 : mcF L op kz = (L, op, nI 0) := if_neg (by omega)
        rw [e9]
        refine lv_iconst (v := nI 0) hx hb dX2_crash_31 (by decide +kernel) ?_
        exact rt_wz hx hb hr hlocks hP hD hS dX2_crash_32 (by decide +kernel) rfl
      · skip
        refine lv_iload_n hx hb dX2_crash_23 rfl (lv_at hl 1 rfl) ?_
        refine lv_aload_n hx hb dX2_crash_24 rfl (lv_at hl 0 rfl) ?_
        refine va_get (D := D) (ci := 3) (v := .int (nI L.2.2.2)) (C := RX2) (T := TX2) (N := 12) hx hb hts hinX2 hown hK hP 0 rfl rfl 11 (by decide) (hts (.fieldLink RX2 43 "PuzzleBookModel" "written" "I") (by decide +kernel)) (fun _ h9 => h9) rfl dX2_crash_25 ?_
        refine jb_le (tgt := 33) hx hb h1 (nI_toInt (n := L.2.2.2) (by omega)) dX2_crash_28 (by decide) (fun c4 => ?_) (fun c4 => ?_)
        · skip
          obtain ⟨i, hi⟩ : ∃ j : Nat, kz = (j : Int) := ⟨kz.toNat, by omega⟩
          have ei : kv = nI i := Int32.toInt_inj.mp (by rw [h1, hi, nI_toInt (by omega)])
          have zi : kz.toNat = i := by omega
          have e9 : mcF L op kz = ((unD L (L.2.2.2 - i), L.2.1, L.2.2.1, L.2.2.2), 0, nI 1) := by rw [← zi]; exact if_pos (by omega)
          have loop : ∀ (fu t : Nat), i ≤ t → t ≤ L.2.2.2 → t - i < fu → ∀ (H : Heap) (locs : List Loc), va_P D vwCl (mW m0 m1 m2 m3 m4 m5 cB cI n (unD L (L.2.2.2 - t), L.2.1, L.2.2.1, L.2.2.2) fd fc op tn eb ec 0) H → va_D A (mW m0 m1 m2 m3 m4 m5 cB cI n (unD L (L.2.2.2 - t), L.2.1, L.2.2.1, L.2.2.2) fd fc op tn eb ec 0) → va_S A s.heap H locs → ∀ ls : Array Slot, lv_has ls 3 [(2, .int (nI t - nI 1)), (0, .ref m0), (1, .int kv)] → W p l e ({ frames := 0, cells := 0, slots := 0, locals := 0 }) s m [.ref m0, .int kv].toArray below meth c H locs 0 0 (MQ below (wQi ((mcF L op kz).2.2) D (mW m0 m1 m2 m3 m4 m5 cB cI n ((mcF L op kz).1) fd fc ((mcF L op kz).2.1) tn eb ec 0) A) [.ref m0, .int kv].toArray s 0 0 A) (F0 m 40 ls []) := by
            intro fu
            induction fu with
            | zero => intro t ha hb9 hf; omega
            | succ fu ih =>
              intro t ha hb9 hfu H locs hP hD hS ls hl
              refine lv_iload_n hx hb dX2_crash_40 rfl (lv_at hl 0 rfl) ?_
              refine lv_iload_n hx hb dX2_crash_41 rfl (lv_at hl 2 rfl) ?_
              refine jb_lt (tgt := 68) hx hb (m1_toInt (by omega)) h1 dX2_crash_42 (by decide) (fun c5 => ?_) (fun c5 => ?_)
              · skip
                refine lv_aload_n hx hb dX2_crash_68 rfl (lv_at hl 1 rfl) ?_
                refine lv_iconst (v := nI 0) hx hb dX2_crash_69 (by decide +kernel) ?_
                refine va_put (D := D) (ci := 3) (v := .int (nI 0)) (ty := .boolean) (C := RX2) (T := TX2) (N := 12) hx hb hts hinX2 tyX2 tyX2_ok nmX2 hown hK hP hD hS 0 rfl rfl 2 (by decide) (hts (.fieldLink RX2 32 "PuzzleBookModel" "open" "Z") (by decide +kernel)) (fun _ h9 => h9) rfl (by decide +kernel) rfl rfl (Nat.le_of_ble_eq_true rfl) dX2_crash_70 (fun H locs hP hD hS => ?_)
                have hP : va_P D vwCl (mW m0 m1 m2 m3 m4 m5 cB cI n (unD L (L.2.2.2 - t), L.2.1, L.2.2.1, L.2.2.2) fd fc 0 tn eb ec 0) H := hP
                have hD : va_D A (mW m0 m1 m2 m3 m4 m5 cB cI n (unD L (L.2.2.2 - t), L.2.1, L.2.2.1, L.2.2.2) fd fc 0 tn eb ec 0) := hD
                refine lv_iconst (v := nI 1) hx hb dX2_crash_73 (by decide +kernel) ?_
                rw [e9]
                have hk9 : i = t := by omega
                subst hk9
                exact rt_wz hx hb hr hlocks hP hD hS dX2_crash_74 (by decide +kernel) rfl
              · skip
                have p9 := hp (by omega) (t - 1) (by omega)
                refine lv_aload_n hx hb dX2_crash_45 rfl (lv_at hl 1 rfl) ?_
                refine va_get (D := D) (ci := 3) (v := .ref m1) (C := RX2) (T := TX2) (N := 12) hx hb hts hinX2 hown hK hP 0 rfl rfl 1 (by decide) (hts (.fieldLink RX2 7 "PuzzleBookModel" "store" "[I") (by decide +kernel)) (fun _ h9 => h9) rfl dX2_crash_46 ?_
                refine lv_aload_n hx hb dX2_crash_49 rfl (lv_at hl 1 rfl) ?_
                refine va_get (D := D) (ci := 3) (v := .ref m4) (C := RX2) (T := TX2) (N := 12) hx hb hts hinX2 hown hK hP 0 rfl rfl 9 (by decide) (hts (.fieldLink RX2 19 "PuzzleBookModel" "where" "[I") (by decide +kernel)) (fun _ h9 => h9) rfl dX2_crash_50 ?_
                refine lv_iload_n hx hb dX2_crash_53 rfl (lv_at hl 0 rfl) ?_
                refine lv_as (y := nI (t - 1)) (pk_sub (by omega)) ?_
                refine ld_i (f := L.2.1) (k := t - 1) hx hb hK hP 4 1 rfl rfl (by omega) (by decide) dX2_crash_54 ?_
                refine lv_aload_n hx hb dX2_crash_55 rfl (lv_at hl 1 rfl) ?_
                refine va_get (D := D) (ci := 3) (v := .ref m5) (C := RX2) (T := TX2) (N := 12) hx hb hts hinX2 hown hK hP 0 rfl rfl 10 (by decide) (hts (.fieldLink RX2 22 "PuzzleBookModel" "before" "[I") (by decide +kernel)) (fun _ h9 => h9) rfl dX2_crash_56 ?_
                refine lv_iload_n hx hb dX2_crash_59 rfl (lv_at hl 0 rfl) ?_
                refine lv_as (y := nI (t - 1)) (pk_sub (by omega)) ?_
                refine ld_i (f := L.2.2.1) (k := t - 1) hx hb hK hP 5 1 rfl rfl (by omega) (by decide) dX2_crash_60 ?_
                refine st_i (f := unD L (L.2.2.2 - t)) (k := L.2.1 (t - 1)) (x := L.2.2.1 (t - 1)) hx hb hK hP hD hS 1 1 rfl rfl (by omega) (by decide) dX2_crash_61 (fun H locs hP hD hS => ?_)
                have hP : va_P D vwCl (mW m0 m1 m2 m3 m4 m5 cB cI n (va_up (unD L (L.2.2.2 - t)) (L.2.1 (t - 1)) (L.2.2.1 (t - 1)), L.2.1, L.2.2.1, L.2.2.2) fd fc op tn eb ec 0) H := hP
                have hD : va_D A (mW m0 m1 m2 m3 m4 m5 cB cI n (va_up (unD L (L.2.2.2 - t)) (L.2.1 (t - 1)) (L.2.2.1 (t - 1)), L.2.1, L.2.2.1, L.2.2.2) fd fc op tn eb ec 0) := hD
                refine lv_iinc (v := (nI (t - 1) - nI 1)) (lv' := [(2, .int (nI (t - 1) - nI 1)), (0, .ref m0), (1, .int kv)]) hx hb dX2_crash_62 hl (k := 0) rfl (m1_dec (by omega)) (by decide) rfl (fun ls hl => ?_)
                refine lv_goto (tgt := 40) hx hb dX2_crash_65 (by decide) ?_
                have u9 : va_up (unD L (L.2.2.2 - t)) (L.2.1 (t - 1)) (L.2.2.1 (t - 1)) = unD L (L.2.2.2 - (t - 1)) := (unD_s (by omega) hb9).symm
                rw [u9] at hP hD
                exact ih (t - 1) (by omega) (by omega) (by omega) H locs hP hD hS ls (lv_sub hl [0, 1, 2] rfl)
          refine lv_aload_n hx hb dX2_crash_33 rfl (lv_at hl 0 rfl) ?_
          refine va_get (D := D) (ci := 3) (v := .int (nI L.2.2.2)) (C := RX2) (T := TX2) (N := 12) hx hb hts hinX2 hown hK hP 0 rfl rfl 11 (by decide) (hts (.fieldLink RX2 43 "PuzzleBookModel" "written" "I") (by decide +kernel)) (fun _ h9 => h9) rfl dX2_crash_34 ?_
          refine lv_iconst (v := nI 1) hx hb dX2_crash_37 (by decide +kernel) ?_
          refine lv_isub hx hb dX2_crash_38 ?_
          refine lv_istore_n (lv' := [(2, .int (nI L.2.2.2 - nI 1)), (0, .ref m0), (1, .int kv)]) hx hb dX2_crash_39 rfl hl (by decide) rfl (fun ls hl => ?_)
          exact loop (L.2.2.2 + 1) L.2.2.2 (by omega) (by omega) (by omega) H locs (by rw [Nat.sub_self]; exact hP) (by rw [Nat.sub_self]; exact hD) hS ls (lv_sub hl [0, 1, 2] rfl)
        · skip
          have e9 : mcF L op kz = (L, op, nI 0) := if_neg (by omega)
          rw [e9]
          refine lv_iconst (v := nI 0) hx hb dX2_crash_31 (by decide +kernel) ?_
          exact rt_wz hx hb hr hlocks hP hD hS dX2_crash_32 (by decide +kernel) rfl
set_option maxRecDepth 100000 in
set_option maxHeartbeats 4000000 in
/-- poke(b, i, mask) -/
theorem c_X2_poke (l : Launch) (D : va_G) (m0 m1 m2 m3 m4 m5 : Nat) (cB cI : ClassId) (n : Nat) (L : Lg) (fd : Nat → Nat) (fc : Nat) (op : Nat) (tn : Nat) (eb : Nat → Nat) (ec : Nat) (th : Nat) (bv iv mv : Int32) (bz iz mz : Int) (sz : Nat) (hn : n ≤ 64) (h1 : bv.toInt = bz) (h2 : iv.toInt = iz) (h3 : mv.toInt = mz) : Met l yX2_poke wsX2_poke ({ frames := 1, cells := 0, slots := 0, locals := 22 }) (wP [.ref m0, .int bv, .int iv, .int mv] D (mW m0 m1 m2 m3 m4 m5 cB cI n L fd fc op tn eb ec th) (ty2 cB cI) sz) (wQi ((pkF n L bz iz mz).2) D (mW m0 m1 m2 m3 m4 m5 cB cI n ((pkF n L bz iz mz).1) fd fc op tn eb ec 0) (va_A (mW m0 m1 m2 m3 m4 m5 cB cI n L fd fc op tn eb ec th) sz)) 0 0 (va_A (mW m0 m1 m2 m3 m4 m5 cB cI n L fd fc op tn eb ec th) sz) := by
  refine met_wi (by decide) rfl (Nat.le_of_ble_eq_true rfl) ?_
  intro p e s m below meth c hx hb hml hr hlocks hown hts hP hK A hD hA hS ls hl
  have hown : s.vm.findClass RX2 = some m.cls := hown
  have hinX2 : ∀ w ∈ u_ws RX2 TX2 12, w ∈ wsX2_poke := by decide +kernel
  have hl : lv_has ls 4 [(0, .ref m0), (1, .int bv), (2, .int iv), (3, .int mv)] := hl
  refine lv_aload_n hx hb dX2_poke_0 rfl (lv_at hl 0 rfl) ?_
  refine lv_iconst (v := nI 0) hx hb dX2_poke_1 (by decide +kernel) ?_
  refine va_put (D := D) (ci := 3) (v := .int (nI 0)) (ty := .int) (C := RX2) (T := TX2) (N := 12) hx hb hts hinX2 tyX2 tyX2_ok nmX2 hown hK hP hD hS 0 rfl rfl 5 (by decide) (hts (.fieldLink RX2 46 "PuzzleBookModel" "thrown" "I") (by decide +kernel)) (fun _ h9 => h9) rfl (by decide +kernel) rfl rfl (Nat.le_of_ble_eq_true rfl) dX2_poke_2 (fun H locs hP hD hS => ?_)
  have hP : va_P D vwCl (mW m0 m1 m2 m3 m4 m5 cB cI n L fd fc op tn eb ec 0) H := hP
  have hD : va_D A (mW m0 m1 m2 m3 m4 m5 cB cI n L fd fc op tn eb ec 0) := hD
  refine lv_aload_n hx hb dX2_poke_5 rfl (lv_at hl 0 rfl) ?_
  refine lv_iload_n hx hb dX2_poke_6 rfl (lv_at hl 1 rfl) ?_
  refine lv_iload_n hx hb dX2_poke_7 rfl (lv_at hl 2 rfl) ?_
  refine rd_V (As := [.int bv, .int iv]) (rest := []) ⟨hx, hb, hml, hown, hts⟩ (c_X2_isByte l D m0 m1 m2 m3 m4 m5 cB cI n L fd fc op tn eb ec 0 bv iv bz iz hn h1 h2) (cwV 2 hts gX2_poke_X2_isByte rfl rfl rfl (by decide +kernel) ⟨Nat.le_of_ble_eq_true rfl, Nat.le_of_ble_eq_true rfl⟩) hK hP [0, 1, 2, 3, 4, 5] rfl (ci := 3) rfl rfl (q0 := 0) rfl rfl hl.1 rfl (Nat.le_of_ble_eq_true rfl) dX2_poke_8 ⟨Nat.zero_le _, Nat.zero_le _⟩ (fun r1 hr1 => ?_)
  subst hr1
  by_cases q2 : (0 ≤ bz ∧ bz < (n : Int) ∧ 0 ≤ iz ∧ iz < 64)
  · skip
    refine lv_as (y := nI 1) (congrArg nI (b01_t q2)) ?_
    refine j0_eq (tgt := 26) hx hb (nI_toInt (n := 1) (by decide)) dX2_poke_11 (by decide) (fun c3 => absurd c3 (by omega)) (fun c3 => ?_)
    refine lv_iload_n hx hb dX2_poke_14 rfl (lv_at hl 3 rfl) ?_
    refine lv_iconst (v := nI 1) hx hb dX2_poke_15 (by decide +kernel) ?_
    refine jb_lt (tgt := 26) hx hb h3 (nI_toInt (n := 1) (by decide)) dX2_poke_16 (by decide) (fun c4 => ?_) (fun c4 => ?_)
    · skip
      have e9 : pkF n L bz iz mz = (L, nI 0) := if_neg (by omega)
      rw [e9]
      refine lv_iconst (v := nI 0) hx hb dX2_poke_26 (by decide +kernel) ?_
      exact rt_wz hx hb hr hlocks hP hD hS dX2_poke_27 (by decide +kernel) rfl
    · skip
      refine lv_iload_n hx hb dX2_poke_19 rfl (lv_at hl 3 rfl) ?_
      refine lv_sipush (v := nI 255) hx hb dX2_poke_20 (by decide +kernel) ?_
      refine jb_le (tgt := 28) hx hb h3 (nI_toInt (n := 255) (by decide)) dX2_poke_23 (by decide) (fun c5 => ?_) (fun c5 => ?_)
      · skip
        obtain ⟨jb, hjb⟩ : ∃ j : Nat, bz = (j : Int) := ⟨bz.toNat, by omega⟩
        have ejb : bv = nI jb := Int32.toInt_inj.mp (by rw [h1, hjb, nI_toInt (by omega)])
        have zjb : bz.toNat = jb := by omega
        obtain ⟨ji, hji⟩ : ∃ j : Nat, iz = (j : Int) := ⟨iz.toNat, by omega⟩
        have eji : iv = nI ji := Int32.toInt_inj.mp (by rw [h2, hji, nI_toInt (by omega)])
        have zji : iz.toNat = ji := by omega
        obtain ⟨jm, hjm⟩ : ∃ j : Nat, mz = (j : Int) := ⟨mz.toNat, by omega⟩
        have ejm : mv = nI jm := Int32.toInt_inj.mp (by rw [h3, hjm, nI_toInt (by omega)])
        have zjm : mz.toNat = jm := by omega
        have e9 : pkF n L bz iz mz = (wX L (64 * jb + ji) jm, nI 1) := by rw [← zjb, ← zji, ← zjm]; exact if_pos (by omega)
        rw [e9]
        refine lv_aload_n hx hb dX2_poke_28 rfl (lv_at hl 0 rfl) ?_
        refine va_get (D := D) (ci := 3) (v := .ref m1) (C := RX2) (T := TX2) (N := 12) hx hb hts hinX2 hown hK hP 0 rfl rfl 1 (by decide) (hts (.fieldLink RX2 7 "PuzzleBookModel" "store" "[I") (by decide +kernel)) (fun _ h9 => h9) rfl dX2_poke_29 ?_
        refine lv_bipush (v := nI 64) hx hb dX2_poke_32 (by decide +kernel) ?_
        refine lv_iload_n hx hb dX2_poke_34 rfl (lv_at hl 1 rfl) ?_
        refine lv_as (y := nI jb) ejb ?_
        refine lv_imul hx hb dX2_poke_35 ?_
        refine lv_as (y := nI (64 * jb)) (pk_mul _ _) ?_
        refine lv_iload_n hx hb dX2_poke_36 rfl (lv_at hl 2 rfl) ?_
        refine lv_as (y := nI ji) eji ?_
        refine lv_iadd hx hb dX2_poke_37 ?_
        refine lv_as (y := nI ((64 * jb) + ji)) (nI_add _ _) ?_
        refine lv_dup2_11 hx hb dX2_poke_38 rfl rfl ?_
        refine ld_i (f := L.1) (k := (64 * jb) + ji) hx hb hK hP 1 1 rfl rfl (by omega) (by decide) dX2_poke_39 ?_
        refine lv_iload_n hx hb dX2_poke_40 rfl (lv_at hl 3 rfl) ?_
        refine lv_as (y := nI jm) ejm ?_
        refine lv_ixor hx hb dX2_poke_41 ?_
        refine lv_as (y := nI (L.1 (64 * jb + ji) ^^^ jm)) (nI_xor _ _) ?_
        refine st_i (f := L.1) (k := (64 * jb) + ji) (x := L.1 (64 * jb + ji) ^^^ jm) hx hb hK hP hD hS 1 1 rfl rfl (by omega) (by decide) dX2_poke_42 (fun H locs hP hD hS => ?_)
        have hP : va_P D vwCl (mW m0 m1 m2 m3 m4 m5 cB cI n (va_up L.1 ((64 * jb) + ji) (L.1 (64 * jb + ji) ^^^ jm), L.2.1, L.2.2.1, L.2.2.2) fd fc op tn eb ec 0) H := hP
        have hD : va_D A (mW m0 m1 m2 m3 m4 m5 cB cI n (va_up L.1 ((64 * jb) + ji) (L.1 (64 * jb + ji) ^^^ jm), L.2.1, L.2.2.1, L.2.2.2) fd fc op tn eb ec 0) := hD
        refine lv_iconst (v := nI 1) hx hb dX2_poke_43 (by decide +kernel) ?_
        exact rt_wz hx hb hr hlocks hP hD hS dX2_poke_44 (by decide +kernel) rfl
      · skip
        have e9 : pkF n L bz iz mz = (L, nI 0) := if_neg (by omega)
        rw [e9]
        refine lv_iconst (v := nI 0) hx hb dX2_poke_26 (by decide +kernel) ?_
        exact rt_wz hx hb hr hlocks hP hD hS dX2_poke_27 (by decide +kernel) rfl
  · skip
    refine lv_as (y := nI 0) (congrArg nI (b01_f q2)) ?_
    refine j0_eq (tgt := 26) hx hb (nI_toInt (n := 0) (by decide)) dX2_poke_11 (by decide) (fun c6 => ?_) (fun c6 => absurd c6 (by omega))
    have e9 : pkF n L bz iz mz = (L, nI 0) := if_neg (by omega)
    rw [e9]
    refine lv_iconst (v := nI 0) hx hb dX2_poke_26 (by decide +kernel) ?_
    exact rt_wz hx hb hr hlocks hP hD hS dX2_poke_27 (by decide +kernel) rfl
set_option maxRecDepth 100000 in
set_option maxHeartbeats 4000000 in
/-- badAt() -/
theorem c_X2_badAt (l : Launch) (D : va_G) (m0 m1 m2 m3 m4 m5 : Nat) (cB cI : ClassId) (n : Nat) (L : Lg) (fd : Nat → Nat) (fc : Nat) (op : Nat) (tn : Nat) (eb : Nat → Nat) (ec : Nat) (th : Nat)  (sz : Nat) (hn0 : 4 ≤ n) (hn : n ≤ 64) (hg : ∀ j, L.1 j < 256) (he : ec ≤ 40) (hE : ∀ k, bO eb ec k < n) (ho : op ≤ 1) (ht : op ≠ 0 → tn < n) : Met l yX2_badAt wsX2_badAt ({ frames := 2, cells := 0, slots := 0, locals := 46 }) (wP [.ref m0] D (mW m0 m1 m2 m3 m4 m5 cB cI n L fd fc op tn eb ec th) (ty2 cB cI) sz) (wQi ((qm_bad L.1 (bO eb ec) op tn ec n)) D (mW m0 m1 m2 m3 m4 m5 cB cI n L fd fc op tn eb ec 0) (va_A (mW m0 m1 m2 m3 m4 m5 cB cI n L fd fc op tn eb ec th) sz)) 0 0 (va_A (mW m0 m1 m2 m3 m4 m5 cB cI n L fd fc op tn eb ec th) sz) := by
  refine met_wi (by decide) rfl (Nat.le_of_ble_eq_true rfl) ?_
  intro p e s m below meth c hx hb hml hr hlocks hown hts hP hK A hD hA hS ls hl
  have hown : s.vm.findClass RX2 = some m.cls := hown
  have hinX2 : ∀ w ∈ u_ws RX2 TX2 12, w ∈ wsX2_badAt := by decide +kernel
  have hl : lv_has ls 2 [(0, .ref m0)] := hl
  refine lv_aload_n hx hb dX2_badAt_0 rfl (lv_at hl 0 rfl) ?_
  refine lv_iconst (v := nI 0) hx hb dX2_badAt_1 (by decide +kernel) ?_
  refine va_put (D := D) (ci := 3) (v := .int (nI 0)) (ty := .int) (C := RX2) (T := TX2) (N := 12) hx hb hts hinX2 tyX2 tyX2_ok nmX2 hown hK hP hD hS 0 rfl rfl 5 (by decide) (hts (.fieldLink RX2 46 "PuzzleBookModel" "thrown" "I") (by decide +kernel)) (fun _ h9 => h9) rfl (by decide +kernel) rfl rfl (Nat.le_of_ble_eq_true rfl) dX2_badAt_2 (fun H locs hP hD hS => ?_)
  have hP : va_P D vwCl (mW m0 m1 m2 m3 m4 m5 cB cI n L fd fc op tn eb ec 0) H := hP
  have hD : va_D A (mW m0 m1 m2 m3 m4 m5 cB cI n L fd fc op tn eb ec 0) := hD
  refine lv_aload_n hx hb dX2_badAt_5 rfl (lv_at hl 0 rfl) ?_
  refine va_get (D := D) (ci := 3) (v := .int (nI op)) (C := RX2) (T := TX2) (N := 12) hx hb hts hinX2 hown hK hP 0 rfl rfl 2 (by decide) (hts (.fieldLink RX2 32 "PuzzleBookModel" "open" "Z") (by decide +kernel)) (fun _ h9 => h9) rfl dX2_badAt_6 ?_
  refine j0_ne (tgt := 14) hx hb (nI_toInt (n := op) (by omega)) dX2_badAt_9 (by decide) (fun c1 => ?_) (fun c1 => ?_)
  · skip
    have t9 := ht (by omega)
    refine lv_aload_n hx hb dX2_badAt_14 rfl (lv_at hl 0 rfl) ?_
    refine lv_aload_n hx hb dX2_badAt_15 rfl (lv_at hl 0 rfl) ?_
    refine va_get (D := D) (ci := 3) (v := .int (nI tn)) (C := RX2) (T := TX2) (N := 12) hx hb hts hinX2 hown hK hP 0 rfl rfl 3 (by decide) (hts (.fieldLink RX2 29 "PuzzleBookModel" "turn" "I") (by decide +kernel)) (fun _ h9 => h9) rfl dX2_badAt_16 ?_
    refine rd_V (As := [.int (nI tn)]) (rest := []) ⟨hx, hb, hml, hown, hts⟩ (c_X2_isRight l D m0 m1 m2 m3 m4 m5 cB cI n L fd fc op tn eb ec 0 tn hg (by omega)) (cwV 1 hts gX2_badAt_X2_isRight rfl rfl rfl (by decide +kernel) ⟨Nat.le_of_ble_eq_true rfl, Nat.le_of_ble_eq_true rfl⟩) hK hP [0, 1, 2, 3, 4, 5] rfl (ci := 3) rfl rfl (q0 := 0) rfl rfl hl.1 rfl (Nat.le_of_ble_eq_true rfl) dX2_badAt_19 ⟨Nat.zero_le _, Nat.zero_le _⟩ (fun r2 hr2 => ?_)
    subst hr2
    by_cases q3 : (okS L.1 (64 * tn))
    · skip
      refine lv_as (y := nI 1) (congrArg nI (b01_t q3)) ?_
      refine j0_ne (tgt := 30) hx hb (nI_toInt (n := 1) (by decide)) dX2_badAt_22 (by decide) (fun c4 => ?_) (fun c4 => absurd c4 (by omega))
      have loop : ∀ (fu j : Nat), 3 + j ≤ n → n - (3 + j) < fu → (∀ i, i < j → ¬ (fun j => tk (bO eb ec) ec (3 + j) ∧ ¬ okS L.1 (64 * (3 + j))) i) → ∀ (H : Heap) (locs : List Loc), va_P D vwCl (mW m0 m1 m2 m3 m4 m5 cB cI n L fd fc op tn eb ec 0) H → va_D A (mW m0 m1 m2 m3 m4 m5 cB cI n L fd fc op tn eb ec 0) → va_S A s.heap H locs → ∀ ls : Array Slot, lv_has ls 2 [(1, .int (nI (3 + j))), (0, .ref m0)] → W p l e ({ frames := 2, cells := 0, slots := 0, locals := 46 }) s m [.ref m0].toArray below meth c H locs 0 0 (MQ below (wQi ((qm_bad L.1 (bO eb ec) op tn ec n)) D (mW m0 m1 m2 m3 m4 m5 cB cI n L fd fc op tn eb ec 0) A) [.ref m0].toArray s 0 0 A) (F0 m 32 ls []) := by
        intro fu
        induction fu with
        | zero => intro j hj hf; omega
        | succ fu ih =>
          intro j hj hfu hi H locs hP hD hS ls hl
          refine lv_iload_n hx hb dX2_badAt_32 rfl (lv_at hl 0 rfl) ?_
          refine lv_aload_n hx hb dX2_badAt_33 rfl (lv_at hl 1 rfl) ?_
          refine va_get (D := D) (ci := 3) (v := .int (nI n)) (C := RX2) (T := TX2) (N := 12) hx hb hts hinX2 hown hK hP 0 rfl rfl 0 (by decide) (hts (.fieldLink RX2 25 "PuzzleBookModel" "blocks" "I") (by decide +kernel)) (fun _ h9 => h9) rfl dX2_badAt_34 ?_
          refine jb_ge (tgt := 64) hx hb (nI_toInt (n := 3 + j) (by omega)) (nI_toInt (n := n) (by omega)) dX2_badAt_37 (by decide) (fun c5 => ?_) (fun c5 => ?_)
          · skip
            refine lv_iconst (v := -1) hx hb dX2_badAt_64 (by decide +kernel) ?_
            have e9 : fN (fun j => tk (bO eb ec) ec (3 + j) ∧ ¬ okS L.1 (64 * (3 + j))) (n - 3) = n - 3 := fN_no (fun k hk => hi k (by omega))
            exact rt_wi hx hb hr hlocks hP hD hS dX2_badAt_65 (by unfold qm_bad; rw [if_neg (by omega), if_pos q3, if_neg (by rw [e9]; omega)])
          · skip
            refine lv_aload_n hx hb dX2_badAt_40 rfl (lv_at hl 1 rfl) ?_
            refine lv_iload_n hx hb dX2_badAt_41 rfl (lv_at hl 0 rfl) ?_
            refine rd_V (As := [.int (nI (3 + j))]) (rest := []) ⟨hx, hb, hml, hown, hts⟩ (c_X2_isUsed l D m0 m1 m2 m3 m4 m5 cB cI n L fd fc op tn eb ec 0 (3 + j) hn he hE (by omega)) (cwV 1 hts gX2_badAt_X2_isUsed rfl rfl rfl (by decide +kernel) ⟨Nat.le_of_ble_eq_true rfl, Nat.le_of_ble_eq_true rfl⟩) hK hP [0, 1, 2, 3, 4, 5] rfl (ci := 3) rfl rfl (q0 := 0) rfl rfl hl.1 rfl (Nat.le_of_ble_eq_true rfl) dX2_badAt_42 ⟨Nat.zero_le _, Nat.zero_le _⟩ (fun r6 hr6 => ?_)
            subst hr6
            by_cases q7 : (tk (bO eb ec) ec (3 + j))
            · skip
              refine lv_as (y := nI 1) (congrArg nI (b01_t q7)) ?_
              refine j0_eq (tgt := 58) hx hb (nI_toInt (n := 1) (by decide)) dX2_badAt_45 (by decide) (fun c8 => absurd c8 (by omega)) (fun c8 => ?_)
              refine lv_aload_n hx hb dX2_badAt_48 rfl (lv_at hl 1 rfl) ?_
              refine lv_iload_n hx hb dX2_badAt_49 rfl (lv_at hl 0 rfl) ?_
              refine rd_V (As := [.int (nI (3 + j))]) (rest := []) ⟨hx, hb, hml, hown, hts⟩ (c_X2_isRight l D m0 m1 m2 m3 m4 m5 cB cI n L fd fc op tn eb ec 0 (3 + j) hg (by omega)) (cwV 1 hts gX2_badAt_X2_isRight rfl rfl rfl (by decide +kernel) ⟨Nat.le_of_ble_eq_true rfl, Nat.le_of_ble_eq_true rfl⟩) hK hP [0, 1, 2, 3, 4, 5] rfl (ci := 3) rfl rfl (q0 := 0) rfl rfl hl.1 rfl (Nat.le_of_ble_eq_true rfl) dX2_badAt_50 ⟨Nat.zero_le _, Nat.zero_le _⟩ (fun r9 hr9 => ?_)
              subst hr9
              by_cases q10 : (okS L.1 (64 * (3 + j)))
              · skip
                refine lv_as (y := nI 1) (congrArg nI (b01_t q10)) ?_
                refine j0_ne (tgt := 58) hx hb (nI_toInt (n := 1) (by decide)) dX2_badAt_53 (by decide) (fun c11 => ?_) (fun c11 => absurd c11 (by omega))
                refine lv_iinc (v := nI (3 + j + 1)) (lv' := [(1, .int (nI (3 + j + 1))), (0, .ref m0)]) hx hb dX2_badAt_58 hl (k := 0) rfl (nI_add _ 1) (by decide) rfl (fun ls hl => ?_)
                refine lv_goto (tgt := 32) hx hb dX2_badAt_61 (by decide) ?_
                exact ih (j + 1) (by omega) (by omega) (fun i q => (Nat.lt_or_eq_of_le (Nat.le_of_lt_succ q)).elim (hi i) (fun q => by rw [q]; exact fun z => z.2 q10)) H locs hP hD hS ls (lv_sub hl [0, 1] rfl)
              · skip
                refine lv_as (y := nI 0) (congrArg nI (b01_f q10)) ?_
                refine j0_ne (tgt := 58) hx hb (nI_toInt (n := 0) (by decide)) dX2_badAt_53 (by decide) (fun c12 => absurd c12 (by omega)) (fun c12 => ?_)
                refine lv_iload_n hx hb dX2_badAt_56 rfl (lv_at hl 0 rfl) ?_
                have e9 : fN (fun j => tk (bO eb ec) ec (3 + j) ∧ ¬ okS L.1 (64 * (3 + j))) (n - 3) = j := fN_eq (by omega) ⟨q7, q10⟩ hi
                exact rt_wi hx hb hr hlocks hP hD hS dX2_badAt_57 (by unfold qm_bad; rw [if_neg (by omega), if_pos q3, if_pos (by rw [e9]; omega), e9])
            · skip
              refine lv_as (y := nI 0) (congrArg nI (b01_f q7)) ?_
              refine j0_eq (tgt := 58) hx hb (nI_toInt (n := 0) (by decide)) dX2_badAt_45 (by decide) (fun c13 => ?_) (fun c13 => absurd c13 (by omega))
              refine lv_iinc (v := nI (3 + j + 1)) (lv' := [(1, .int (nI (3 + j + 1))), (0, .ref m0)]) hx hb dX2_badAt_58 hl (k := 0) rfl (nI_add _ 1) (by decide) rfl (fun ls hl => ?_)
              refine lv_goto (tgt := 32) hx hb dX2_badAt_61 (by decide) ?_
              exact ih (j + 1) (by omega) (by omega) (fun i q => (Nat.lt_or_eq_of_le (Nat.le_of_lt_succ q)).elim (hi i) (fun q => by rw [q]; exact fun z => q7 z.1)) H locs hP hD hS ls (lv_sub hl [0, 1] rfl)
      refine lv_iconst (v := nI 3) hx hb dX2_badAt_30 (by decide +kernel) ?_
      refine lv_istore_n (lv' := [(1, .int (nI 3)), (0, .ref m0)]) hx hb dX2_badAt_31 rfl hl (by decide) rfl (fun ls hl => ?_)
      exact loop (n + 1) 0 (by omega) (by omega) (fun j q => absurd q (Nat.not_lt_zero j)) H locs hP hD hS ls (lv_sub hl [0, 1] rfl)
    · skip
      refine lv_as (y := nI 0) (congrArg nI (b01_f q3)) ?_
      refine j0_ne (tgt := 30) hx hb (nI_toInt (n := 0) (by decide)) dX2_badAt_22 (by decide) (fun c14 => absurd c14 (by omega)) (fun c14 => ?_)
      refine lv_aload_n hx hb dX2_badAt_25 rfl (lv_at hl 0 rfl) ?_
      refine va_get (D := D) (ci := 3) (v := .int (nI tn)) (C := RX2) (T := TX2) (N := 12) hx hb hts hinX2 hown hK hP 0 rfl rfl 3 (by decide) (hts (.fieldLink RX2 29 "PuzzleBookModel" "turn" "I") (by decide +kernel)) (fun _ h9 => h9) rfl dX2_badAt_26 ?_
      exact rt_wi hx hb hr hlocks hP hD hS dX2_badAt_29 (by unfold qm_bad; rw [if_neg (by omega), if_neg q3])
  · skip
    refine lv_iconst (v := -1) hx hb dX2_badAt_12 (by decide +kernel) ?_
    exact rt_wi hx hb hr hlocks hP hD hS dX2_badAt_13 (by unfold qm_bad; rw [if_pos (by omega)])
set_option maxRecDepth 100000 in
set_option maxHeartbeats 4000000 in
/-- byteAt(b, i) -/
theorem c_X2_byteAt (l : Launch) (D : va_G) (m0 m1 m2 m3 m4 m5 : Nat) (cB cI : ClassId) (n : Nat) (L : Lg) (fd : Nat → Nat) (fc : Nat) (op : Nat) (tn : Nat) (eb : Nat → Nat) (ec : Nat) (th : Nat) (bv iv : Int32) (bz iz : Int) (sz : Nat) (hn : n ≤ 64) (h1 : bv.toInt = bz) (h2 : iv.toInt = iz) : Met l yX2_byteAt wsX2_byteAt ({ frames := 1, cells := 0, slots := 0, locals := 22 }) (wP [.ref m0, .int bv, .int iv] D (mW m0 m1 m2 m3 m4 m5 cB cI n L fd fc op tn eb ec th) (ty2 cB cI) sz) (wQi ((if (0 ≤ bz ∧ bz < (n : Int) ∧ 0 ≤ iz ∧ iz < 64) then nI (L.1 (64 * bz.toNat + iz.toNat)) else nI 0)) D (mW m0 m1 m2 m3 m4 m5 cB cI n L fd fc op tn eb ec (if (0 ≤ bz ∧ bz < (n : Int) ∧ 0 ≤ iz ∧ iz < 64) then 0 else 1)) (va_A (mW m0 m1 m2 m3 m4 m5 cB cI n L fd fc op tn eb ec th) sz)) 0 0 (va_A (mW m0 m1 m2 m3 m4 m5 cB cI n L fd fc op tn eb ec th) sz) := by
  refine met_wi (by decide) rfl (Nat.le_of_ble_eq_true rfl) ?_
  intro p e s m below meth c hx hb hml hr hlocks hown hts hP hK A hD hA hS ls hl
  have hown : s.vm.findClass RX2 = some m.cls := hown
  have hinX2 : ∀ w ∈ u_ws RX2 TX2 12, w ∈ wsX2_byteAt := by decide +kernel
  have hl : lv_has ls 3 [(0, .ref m0), (1, .int bv), (2, .int iv)] := hl
  refine lv_aload_n hx hb dX2_byteAt_0 rfl (lv_at hl 0 rfl) ?_
  refine lv_aload_n hx hb dX2_byteAt_1 rfl (lv_at hl 0 rfl) ?_
  refine lv_iload_n hx hb dX2_byteAt_2 rfl (lv_at hl 1 rfl) ?_
  refine lv_iload_n hx hb dX2_byteAt_3 rfl (lv_at hl 2 rfl) ?_
  refine rd_V (As := [.int bv, .int iv]) (rest := [.ref m0]) ⟨hx, hb, hml, hown, hts⟩ (c_X2_isByte l D m0 m1 m2 m3 m4 m5 cB cI n L fd fc op tn eb ec th bv iv bz iz hn h1 h2) (cwV 2 hts gX2_byteAt_X2_isByte rfl rfl rfl (by decide +kernel) ⟨Nat.le_of_ble_eq_true rfl, Nat.le_of_ble_eq_true rfl⟩) hK hP [0, 1, 2, 3, 4, 5] rfl (ci := 3) rfl rfl (q0 := 0) rfl rfl hl.1 rfl (Nat.le_of_ble_eq_true rfl) dX2_byteAt_4 ⟨Nat.zero_le _, Nat.zero_le _⟩ (fun r1 hr1 => ?_)
  subst hr1
  by_cases q2 : (0 ≤ bz ∧ bz < (n : Int) ∧ 0 ≤ iz ∧ iz < 64)
  · skip
    refine lv_as (y := nI 1) (congrArg nI (b01_t q2)) ?_
    rw [if_pos q2, if_pos q2]
    refine j0_eq (tgt := 14) hx hb (nI_toInt (n := 1) (by decide)) dX2_byteAt_7 (by decide) (fun c3 => absurd c3 (by omega)) (fun c3 => ?_)
    refine lv_iconst (v := nI 0) hx hb dX2_byteAt_10 (by decide +kernel) ?_
    refine lv_goto (tgt := 15) hx hb dX2_byteAt_11 (by decide) ?_
    refine va_put (D := D) (ci := 3) (v := .int (nI 0)) (ty := .int) (C := RX2) (T := TX2) (N := 12) hx hb hts hinX2 tyX2 tyX2_ok nmX2 hown hK hP hD hS 0 rfl rfl 5 (by decide) (hts (.fieldLink RX2 46 "PuzzleBookModel" "thrown" "I") (by decide +kernel)) (fun _ h9 => h9) rfl (by decide +kernel) rfl rfl (Nat.le_of_ble_eq_true rfl) dX2_byteAt_15 (fun H locs hP hD hS => ?_)
    have hP : va_P D vwCl (mW m0 m1 m2 m3 m4 m5 cB cI n L fd fc op tn eb ec 0) H := hP
    have hD : va_D A (mW m0 m1 m2 m3 m4 m5 cB cI n L fd fc op tn eb ec 0) := hD
    refine lv_aload_n hx hb dX2_byteAt_18 rfl (lv_at hl 0 rfl) ?_
    refine va_get (D := D) (ci := 3) (v := .int (nI 0)) (C := RX2) (T := TX2) (N := 12) hx hb hts hinX2 hown hK hP 0 rfl rfl 5 (by decide) (hts (.fieldLink RX2 46 "PuzzleBookModel" "thrown" "I") (by decide +kernel)) (fun _ h9 => h9) rfl dX2_byteAt_19 ?_
    refine j0_eq (tgt := 29) hx hb (nI_toInt (n := 0) (by decide)) dX2_byteAt_22 (by decide) (fun c4 => ?_) (fun c4 => absurd c4 (by omega))
    obtain ⟨jb, hjb⟩ : ∃ j : Nat, bz = (j : Int) := ⟨bz.toNat, by omega⟩
    have ejb : bv = nI jb := Int32.toInt_inj.mp (by rw [h1, hjb, nI_toInt (by omega)])
    have zjb : bz.toNat = jb := by omega
    obtain ⟨ji, hji⟩ : ∃ j : Nat, iz = (j : Int) := ⟨iz.toNat, by omega⟩
    have eji : iv = nI ji := Int32.toInt_inj.mp (by rw [h2, hji, nI_toInt (by omega)])
    have zji : iz.toNat = ji := by omega
    rw [zjb, zji]
    refine lv_aload_n hx hb dX2_byteAt_29 rfl (lv_at hl 0 rfl) ?_
    refine va_get (D := D) (ci := 3) (v := .ref m1) (C := RX2) (T := TX2) (N := 12) hx hb hts hinX2 hown hK hP 0 rfl rfl 1 (by decide) (hts (.fieldLink RX2 7 "PuzzleBookModel" "store" "[I") (by decide +kernel)) (fun _ h9 => h9) rfl dX2_byteAt_30 ?_
    refine lv_bipush (v := nI 64) hx hb dX2_byteAt_33 (by decide +kernel) ?_
    refine lv_iload_n hx hb dX2_byteAt_35 rfl (lv_at hl 1 rfl) ?_
    refine lv_as (y := nI jb) ejb ?_
    refine lv_imul hx hb dX2_byteAt_36 ?_
    refine lv_as (y := nI (64 * jb)) (pk_mul _ _) ?_
    refine lv_iload_n hx hb dX2_byteAt_37 rfl (lv_at hl 2 rfl) ?_
    refine lv_as (y := nI ji) eji ?_
    refine lv_iadd hx hb dX2_byteAt_38 ?_
    refine lv_as (y := nI ((64 * jb) + ji)) (nI_add _ _) ?_
    refine ld_i (f := L.1) (k := (64 * jb) + ji) hx hb hK hP 1 1 rfl rfl (by omega) (by decide) dX2_byteAt_39 ?_
    exact rt_wi hx hb hr hlocks hP hD hS dX2_byteAt_40 rfl
  · skip
    refine lv_as (y := nI 0) (congrArg nI (b01_f q2)) ?_
    rw [if_neg q2, if_neg q2]
    refine j0_eq (tgt := 14) hx hb (nI_toInt (n := 0) (by decide)) dX2_byteAt_7 (by decide) (fun c5 => ?_) (fun c5 => absurd c5 (by omega))
    refine lv_iconst (v := nI 1) hx hb dX2_byteAt_14 (by decide +kernel) ?_
    refine va_put (D := D) (ci := 3) (v := .int (nI 1)) (ty := .int) (C := RX2) (T := TX2) (N := 12) hx hb hts hinX2 tyX2 tyX2_ok nmX2 hown hK hP hD hS 0 rfl rfl 5 (by decide) (hts (.fieldLink RX2 46 "PuzzleBookModel" "thrown" "I") (by decide +kernel)) (fun _ h9 => h9) rfl (by decide +kernel) rfl rfl (Nat.le_of_ble_eq_true rfl) dX2_byteAt_15 (fun H locs hP hD hS => ?_)
    have hP : va_P D vwCl (mW m0 m1 m2 m3 m4 m5 cB cI n L fd fc op tn eb ec 1) H := hP
    have hD : va_D A (mW m0 m1 m2 m3 m4 m5 cB cI n L fd fc op tn eb ec 1) := hD
    refine lv_aload_n hx hb dX2_byteAt_18 rfl (lv_at hl 0 rfl) ?_
    refine va_get (D := D) (ci := 3) (v := .int (nI 1)) (C := RX2) (T := TX2) (N := 12) hx hb hts hinX2 hown hK hP 0 rfl rfl 5 (by decide) (hts (.fieldLink RX2 46 "PuzzleBookModel" "thrown" "I") (by decide +kernel)) (fun _ h9 => h9) rfl dX2_byteAt_19 ?_
    refine j0_eq (tgt := 29) hx hb (nI_toInt (n := 1) (by decide)) dX2_byteAt_22 (by decide) (fun c6 => absurd c6 (by omega)) (fun c6 => ?_)
    refine lv_iconst (v := nI 0) hx hb dX2_byteAt_25 (by decide +kernel) ?_
    refine lv_goto (tgt := 40) hx hb dX2_byteAt_26 (by decide) ?_
    exact rt_wi hx hb hr hlocks hP hD hS dX2_byteAt_40 rfl
set_option maxRecDepth 100000 in
set_option maxHeartbeats 4000000 in
/-- free() -/
theorem c_X2_free (l : Launch) (D : va_G) (m0 m1 m2 m3 m4 m5 : Nat) (cB cI : ClassId) (n : Nat) (L : Lg) (fd : Nat → Nat) (fc : Nat) (op : Nat) (tn : Nat) (eb : Nat → Nat) (ec : Nat) (th : Nat)  (sz : Nat) (ho : op ≤ 1) : Met l yX2_free wsX2_free ({ frames := 0, cells := 0, slots := 0, locals := 0 }) (wP [.ref m0] D (mW m0 m1 m2 m3 m4 m5 cB cI n L fd fc op tn eb ec th) (ty2 cB cI) sz) (wQi ((q_free op n ec)) D (mW m0 m1 m2 m3 m4 m5 cB cI n L fd fc op tn eb ec 0) (va_A (mW m0 m1 m2 m3 m4 m5 cB cI n L fd fc op tn eb ec th) sz)) 0 0 (va_A (mW m0 m1 m2 m3 m4 m5 cB cI n L fd fc op tn eb ec th) sz) := by
  refine met_wi (by decide) rfl (Nat.le_of_ble_eq_true rfl) ?_
  intro p e s m below meth c hx hb hml hr hlocks hown hts hP hK A hD hA hS ls hl
  have hown : s.vm.findClass RX2 = some m.cls := hown
  have hinX2 : ∀ w ∈ u_ws RX2 TX2 12, w ∈ wsX2_free := by decide +kernel
  have hl : lv_has ls 1 [(0, .ref m0)] := hl
  refine lv_aload_n hx hb dX2_free_0 rfl (lv_at hl 0 rfl) ?_
  refine lv_iconst (v := nI 0) hx hb dX2_free_1 (by decide +kernel) ?_
  refine va_put (D := D) (ci := 3) (v := .int (nI 0)) (ty := .int) (C := RX2) (T := TX2) (N := 12) hx hb hts hinX2 tyX2 tyX2_ok nmX2 hown hK hP hD hS 0 rfl rfl 5 (by decide) (hts (.fieldLink RX2 46 "PuzzleBookModel" "thrown" "I") (by decide +kernel)) (fun _ h9 => h9) rfl (by decide +kernel) rfl rfl (Nat.le_of_ble_eq_true rfl) dX2_free_2 (fun H locs hP hD hS => ?_)
  have hP : va_P D vwCl (mW m0 m1 m2 m3 m4 m5 cB cI n L fd fc op tn eb ec 0) H := hP
  have hD : va_D A (mW m0 m1 m2 m3 m4 m5 cB cI n L fd fc op tn eb ec 0) := hD
  refine lv_aload_n hx hb dX2_free_5 rfl (lv_at hl 0 rfl) ?_
  refine va_get (D := D) (ci := 3) (v := .int (nI op)) (C := RX2) (T := TX2) (N := 12) hx hb hts hinX2 hown hK hP 0 rfl rfl 2 (by decide) (hts (.fieldLink RX2 32 "PuzzleBookModel" "open" "Z") (by decide +kernel)) (fun _ h9 => h9) rfl dX2_free_6 ?_
  refine j0_eq (tgt := 26) hx hb (nI_toInt (n := op) (by omega)) dX2_free_9 (by decide) (fun c1 => ?_) (fun c1 => ?_)
  · skip
    refine lv_iconst (v := -1) hx hb dX2_free_26 (by decide +kernel) ?_
    exact rt_wi hx hb hr hlocks hP hD hS dX2_free_27 (by unfold q_free; rw [if_pos (by omega)])
  · skip
    refine lv_aload_n hx hb dX2_free_12 rfl (lv_at hl 0 rfl) ?_
    refine va_get (D := D) (ci := 3) (v := .int (nI n)) (C := RX2) (T := TX2) (N := 12) hx hb hts hinX2 hown hK hP 0 rfl rfl 0 (by decide) (hts (.fieldLink RX2 25 "PuzzleBookModel" "blocks" "I") (by decide +kernel)) (fun _ h9 => h9) rfl dX2_free_13 ?_
    refine lv_iconst (v := nI 3) hx hb dX2_free_16 (by decide +kernel) ?_
    refine lv_isub hx hb dX2_free_17 ?_
    refine lv_aload_n hx hb dX2_free_18 rfl (lv_at hl 0 rfl) ?_
    refine va_get (D := D) (ci := 3) (v := .int (nI ec)) (C := RX2) (T := TX2) (N := 12) hx hb hts hinX2 hown hK hP 0 rfl rfl 4 (by decide) (hts (.fieldLink RX2 54 "PuzzleBookModel" "entries" "I") (by decide +kernel)) (fun _ h9 => h9) rfl dX2_free_19 ?_
    refine lv_isub hx hb dX2_free_22 ?_
    refine lv_goto (tgt := 27) hx hb dX2_free_23 (by decide) ?_
    exact rt_wi hx hb hr hlocks hP hD hS dX2_free_27 (by unfold q_free; rw [if_neg (by omega)])
set_option maxRecDepth 100000 in
set_option maxHeartbeats 4000000 in
/-- root() -/
theorem c_X2_root (l : Launch) (D : va_G) (m0 m1 m2 m3 m4 m5 : Nat) (cB cI : ClassId) (n : Nat) (L : Lg) (fd : Nat → Nat) (fc : Nat) (op : Nat) (tn : Nat) (eb : Nat → Nat) (ec : Nat) (th : Nat)  (sz : Nat) (ho : op ≤ 1) : Met l yX2_root wsX2_root ({ frames := 0, cells := 0, slots := 0, locals := 0 }) (wP [.ref m0] D (mW m0 m1 m2 m3 m4 m5 cB cI n L fd fc op tn eb ec th) (ty2 cB cI) sz) (wQi ((q_root op tn)) D (mW m0 m1 m2 m3 m4 m5 cB cI n L fd fc op tn eb ec 0) (va_A (mW m0 m1 m2 m3 m4 m5 cB cI n L fd fc op tn eb ec th) sz)) 0 0 (va_A (mW m0 m1 m2 m3 m4 m5 cB cI n L fd fc op tn eb ec th) sz) := by
  refine met_wi (by decide) rfl (Nat.le_of_ble_eq_true rfl) ?_
  intro p e s m below meth c hx hb hml hr hlocks hown hts hP hK A hD hA hS ls hl
  have hown : s.vm.findClass RX2 = some m.cls := hown
  have hinX2 : ∀ w ∈ u_ws RX2 TX2 12, w ∈ wsX2_root := by decide +kernel
  have hl : lv_has ls 1 [(0, .ref m0)] := hl
  refine lv_aload_n hx hb dX2_root_0 rfl (lv_at hl 0 rfl) ?_
  refine lv_iconst (v := nI 0) hx hb dX2_root_1 (by decide +kernel) ?_
  refine va_put (D := D) (ci := 3) (v := .int (nI 0)) (ty := .int) (C := RX2) (T := TX2) (N := 12) hx hb hts hinX2 tyX2 tyX2_ok nmX2 hown hK hP hD hS 0 rfl rfl 5 (by decide) (hts (.fieldLink RX2 46 "PuzzleBookModel" "thrown" "I") (by decide +kernel)) (fun _ h9 => h9) rfl (by decide +kernel) rfl rfl (Nat.le_of_ble_eq_true rfl) dX2_root_2 (fun H locs hP hD hS => ?_)
  have hP : va_P D vwCl (mW m0 m1 m2 m3 m4 m5 cB cI n L fd fc op tn eb ec 0) H := hP
  have hD : va_D A (mW m0 m1 m2 m3 m4 m5 cB cI n L fd fc op tn eb ec 0) := hD
  refine lv_aload_n hx hb dX2_root_5 rfl (lv_at hl 0 rfl) ?_
  refine va_get (D := D) (ci := 3) (v := .int (nI op)) (C := RX2) (T := TX2) (N := 12) hx hb hts hinX2 hown hK hP 0 rfl rfl 2 (by decide) (hts (.fieldLink RX2 32 "PuzzleBookModel" "open" "Z") (by decide +kernel)) (fun _ h9 => h9) rfl dX2_root_6 ?_
  refine j0_eq (tgt := 19) hx hb (nI_toInt (n := op) (by omega)) dX2_root_9 (by decide) (fun c1 => ?_) (fun c1 => ?_)
  · skip
    refine lv_iconst (v := -1) hx hb dX2_root_19 (by decide +kernel) ?_
    exact rt_wi hx hb hr hlocks hP hD hS dX2_root_20 (by unfold q_root; rw [if_pos (by omega)])
  · skip
    refine lv_aload_n hx hb dX2_root_12 rfl (lv_at hl 0 rfl) ?_
    refine va_get (D := D) (ci := 3) (v := .int (nI tn)) (C := RX2) (T := TX2) (N := 12) hx hb hts hinX2 hown hK hP 0 rfl rfl 3 (by decide) (hts (.fieldLink RX2 29 "PuzzleBookModel" "turn" "I") (by decide +kernel)) (fun _ h9 => h9) rfl dX2_root_13 ?_
    refine lv_goto (tgt := 20) hx hb dX2_root_16 (by decide) ?_
    exact rt_wi hx hb hr hlocks hP hD hS dX2_root_20 (by unfold q_root; rw [if_neg (by omega)])
set_option maxRecDepth 100000 in
set_option maxHeartbeats 4000000 in
/-- reopen() -/
theorem c_X2_reopen (l : Launch) (D : va_G) (m0 m1 m2 m3 m4 m5 : Nat) (cB cI : ClassId) (n : Nat) (L : Lg) (fd : Nat → Nat) (fc : Nat) (op : Nat) (tn : Nat) (eb : Nat → Nat) (ec : Nat) (th : Nat)  (sz : Nat) (hn0 : 4 ≤ n) (hn : n ≤ 64) (hg : ∀ j, L.1 j < 256) : Met l yX2_reopen wsX2_reopen ({ frames := 3, cells := 0, slots := 0, locals := 71 }) (wP [.ref m0] D (mW m0 m1 m2 m3 m4 m5 cB cI n L fd fc op tn eb ec th) (ty2 cB cI) sz) (wQi ((rmF L.1 n tn eb ec).2.2.2.2) D (mW m0 m1 m2 m3 m4 m5 cB cI n (w0 L) fd fc ((rmF L.1 n tn eb ec).1) ((rmF L.1 n tn eb ec).2.1) ((rmF L.1 n tn eb ec).2.2.1) ((rmF L.1 n tn eb ec).2.2.2.1) 0) (va_A (mW m0 m1 m2 m3 m4 m5 cB cI n L fd fc op tn eb ec th) sz)) 0 0 (va_A (mW m0 m1 m2 m3 m4 m5 cB cI n L fd fc op tn eb ec th) sz) := by
  refine met_wi (by decide) rfl (Nat.le_of_ble_eq_true rfl) ?_
  intro p e s m below meth c hx hb hml hr hlocks hown hts hP hK A hD hA hS ls hl
  have hown : s.vm.findClass RX2 = some m.cls := hown
  have hinX2 : ∀ w ∈ u_ws RX2 TX2 12, w ∈ wsX2_reopen := by decide +kernel
  have hl : lv_has ls 6 [(0, .ref m0)] := hl
  have g0 := hg 0
  refine lv_aload_n hx hb dX2_reopen_0 rfl (lv_at hl 0 rfl) ?_
  refine lv_iconst (v := nI 0) hx hb dX2_reopen_1 (by decide +kernel) ?_
  refine va_put (D := D) (ci := 3) (v := .int (nI 0)) (ty := .int) (C := RX2) (T := TX2) (N := 12) hx hb hts hinX2 tyX2 tyX2_ok nmX2 hown hK hP hD hS 0 rfl rfl 5 (by decide) (hts (.fieldLink RX2 46 "PuzzleBookModel" "thrown" "I") (by decide +kernel)) (fun _ h9 => h9) rfl (by decide +kernel) rfl rfl (Nat.le_of_ble_eq_true rfl) dX2_reopen_2 (fun H locs hP hD hS => ?_)
  have hP : va_P D vwCl (mW m0 m1 m2 m3 m4 m5 cB cI n L fd fc op tn eb ec 0) H := hP
  have hD : va_D A (mW m0 m1 m2 m3 m4 m5 cB cI n L fd fc op tn eb ec 0) := hD
  refine lv_aload_n hx hb dX2_reopen_5 rfl (lv_at hl 0 rfl) ?_
  refine lv_iconst (v := nI 0) hx hb dX2_reopen_6 (by decide +kernel) ?_
  refine va_put (D := D) (ci := 3) (v := .int (nI 0)) (ty := .boolean) (C := RX2) (T := TX2) (N := 12) hx hb hts hinX2 tyX2 tyX2_ok nmX2 hown hK hP hD hS 0 rfl rfl 2 (by decide) (hts (.fieldLink RX2 32 "PuzzleBookModel" "open" "Z") (by decide +kernel)) (fun _ h9 => h9) rfl (by decide +kernel) rfl rfl (Nat.le_of_ble_eq_true rfl) dX2_reopen_7 (fun H locs hP hD hS => ?_)
  have hP : va_P D vwCl (mW m0 m1 m2 m3 m4 m5 cB cI n L fd fc 0 tn eb ec 0) H := hP
  have hD : va_D A (mW m0 m1 m2 m3 m4 m5 cB cI n L fd fc 0 tn eb ec 0) := hD
  refine lv_aload_n hx hb dX2_reopen_10 rfl (lv_at hl 0 rfl) ?_
  refine lv_iconst (v := nI 0) hx hb dX2_reopen_11 (by decide +kernel) ?_
  refine va_put (D := D) (ci := 3) (v := .int (nI 0)) (ty := .int) (C := RX2) (T := TX2) (N := 12) hx hb hts hinX2 tyX2 tyX2_ok nmX2 hown hK hP hD hS 0 rfl rfl 11 (by decide) (hts (.fieldLink RX2 43 "PuzzleBookModel" "written" "I") (by decide +kernel)) (fun _ h9 => h9) rfl (by decide +kernel) rfl rfl (Nat.le_of_ble_eq_true rfl) dX2_reopen_12 (fun H locs hP hD hS => ?_)
  have hP : va_P D vwCl (mW m0 m1 m2 m3 m4 m5 cB cI n (L.1, L.2.1, L.2.2.1, 0) fd fc 0 tn eb ec 0) H := hP
  have hD : va_D A (mW m0 m1 m2 m3 m4 m5 cB cI n (L.1, L.2.1, L.2.2.1, 0) fd fc 0 tn eb ec 0) := hD
  refine lv_aload_n hx hb dX2_reopen_15 rfl (lv_at hl 0 rfl) ?_
  refine va_get (D := D) (ci := 3) (v := .ref m1) (C := RX2) (T := TX2) (N := 12) hx hb hts hinX2 hown hK hP 0 rfl rfl 1 (by decide) (hts (.fieldLink RX2 7 "PuzzleBookModel" "store" "[I") (by decide +kernel)) (fun _ h9 => h9) rfl dX2_reopen_16 ?_
  refine lv_iconst (v := nI 0) hx hb dX2_reopen_19 (by decide +kernel) ?_
  refine ld_i (f := L.1) (k := 0) hx hb hK hP 1 1 rfl rfl (by omega) (by decide) dX2_reopen_20 ?_
  refine lv_istore_n (lv' := [(1, .int (nI (L.1 0))), (0, .ref m0)]) hx hb dX2_reopen_21 rfl hl (by decide) rfl (fun ls hl => ?_)
  refine lv_iload_n hx hb dX2_reopen_22 rfl (lv_at hl 0 rfl) ?_
  refine lv_iconst (v := nI 1) hx hb dX2_reopen_23 (by decide +kernel) ?_
  refine jb_eq (tgt := 34) hx hb (nI_toInt (n := L.1 0) (by omega)) (nI_toInt (n := 1) (by decide)) dX2_reopen_24 (by decide) (fun c1 => ?_) (fun c1 => ?_)
  · skip
    have t9 : t12 L.1 := by unfold t12; omega
    refine lv_aload_n hx hb dX2_reopen_34 rfl (lv_at hl 1 rfl) ?_
    refine lv_iload_n hx hb dX2_reopen_35 rfl (lv_at hl 0 rfl) ?_
    refine rd_V (As := [.int (nI (L.1 0))]) (rest := []) ⟨hx, hb, hml, hown, hts⟩ (c_X2_rootIsRight l D m0 m1 m2 m3 m4 m5 cB cI n (L.1, L.2.1, L.2.2.1, 0) fd fc 0 tn eb ec 0 (L.1 0) hn hg (by omega)) (cwV 1 hts gX2_reopen_X2_rootIsRight rfl rfl rfl (by decide +kernel) ⟨Nat.le_of_ble_eq_true rfl, Nat.le_of_ble_eq_true rfl⟩) hK hP [0, 1, 2, 3, 4, 5] rfl (ci := 3) rfl rfl (q0 := 0) rfl rfl hl.1 rfl (Nat.le_of_ble_eq_true rfl) dX2_reopen_36 ⟨Nat.zero_le _, Nat.zero_le _⟩ (fun r2 hr2 => ?_)
    subst hr2
    by_cases q3 : (rdO (L.1, L.2.1, L.2.2.1, 0).1 (L.1 0) n)
    · skip
      refine lv_as (y := nI 1) (congrArg nI (b01_t q3)) ?_
      refine j0_ne (tgt := 46) hx hb (nI_toInt (n := 1) (by decide)) dX2_reopen_39 (by decide) (fun c4 => ?_) (fun c4 => absurd c4 (by omega))
      have g1 := hg (64 * (L.1 0))
      have t40 : L.1 (64 * (L.1 0)) ≤ 40 := q3.1.2
      have x64 : ∀ k, k < L.1 (64 * (L.1 0)) → L.1 (64 * (L.1 0) + (1 + k)) < n := fun k hk => Nat.lt_of_not_le (fun q => q3.2 k hk (Or.inr (Or.inl q)))
      refine lv_aload_n hx hb dX2_reopen_46 rfl (lv_at hl 1 rfl) ?_
      refine va_get (D := D) (ci := 3) (v := .ref m1) (C := RX2) (T := TX2) (N := 12) hx hb hts hinX2 hown hK hP 0 rfl rfl 1 (by decide) (hts (.fieldLink RX2 7 "PuzzleBookModel" "store" "[I") (by decide +kernel)) (fun _ h9 => h9) rfl dX2_reopen_47 ?_
      refine lv_bipush (v := nI 64) hx hb dX2_reopen_50 (by decide +kernel) ?_
      refine lv_iload_n hx hb dX2_reopen_52 rfl (lv_at hl 0 rfl) ?_
      refine lv_imul hx hb dX2_reopen_53 ?_
      refine lv_as (y := nI (64 * (L.1 0))) (pk_mul _ _) ?_
      refine ld_i (f := L.1) (k := 64 * (L.1 0)) hx hb hK hP 1 1 rfl rfl (by omega) (by decide) dX2_reopen_54 ?_
      refine lv_istore_n (lv' := [(2, .int (nI (L.1 (64 * (L.1 0))))), (1, .int (nI (L.1 0))), (0, .ref m0)]) hx hb dX2_reopen_55 rfl hl (by decide) rfl (fun ls hl => ?_)
      refine lv_sipush (v := nI 1000) hx hb dX2_reopen_56 (by decide +kernel) ?_
      refine lv_istore_n (lv' := [(3, .int (nI 1000)), (2, .int (nI (L.1 (64 * (L.1 0))))), (1, .int (nI (L.1 0))), (0, .ref m0)]) hx hb dX2_reopen_59 rfl hl (by decide) rfl (fun ls hl => ?_)
      refine lv_iconst (v := nI 0) hx hb dX2_reopen_60 (by decide +kernel) ?_
      refine lv_istore (lv' := [(4, .int (nI 0)), (3, .int (nI 1000)), (2, .int (nI (L.1 (64 * (L.1 0))))), (1, .int (nI (L.1 0))), (0, .ref m0)]) hx hb dX2_reopen_61 hl (by decide) rfl (fun ls hl => ?_)
      have loop : ∀ (fu k x : Nat), k ≤ L.1 (64 * (L.1 0)) → L.1 (64 * (L.1 0)) - k < fu → x = lwN (wrE L.1) (fun k => L.1 (64 * (L.1 0) + (1 + k))) k → x ≤ 1000 → ∀ (H : Heap) (locs : List Loc), va_P D vwCl (mW m0 m1 m2 m3 m4 m5 cB cI n (L.1, L.2.1, L.2.2.1, 0) fd fc 0 tn eb ec 0) H → va_D A (mW m0 m1 m2 m3 m4 m5 cB cI n (L.1, L.2.1, L.2.2.1, 0) fd fc 0 tn eb ec 0) → va_S A s.heap H locs → ∀ ls : Array Slot, lv_has ls 6 [(4, .int (nI k)), (3, .int (nI x)), (2, .int (nI (L.1 (64 * (L.1 0))))), (0, .ref m0), (1, .int (nI (L.1 0)))] → W p l e ({ frames := 3, cells := 0, slots := 0, locals := 71 }) s m [.ref m0].toArray below meth c H locs 0 0 (MQ below (wQi ((rmF L.1 n tn eb ec).2.2.2.2) D (mW m0 m1 m2 m3 m4 m5 cB cI n (w0 L) fd fc ((rmF L.1 n tn eb ec).1) ((rmF L.1 n tn eb ec).2.1) ((rmF L.1 n tn eb ec).2.2.1) ((rmF L.1 n tn eb ec).2.2.2.1) 0) A) [.ref m0].toArray s 0 0 A) (F0 m 63 ls []) := by
        intro fu
        induction fu with
        | zero => intro k x hk hf; omega
        | succ fu ih =>
          intro k x hk hfu hx9 hx8 H locs hP hD hS ls hl
          refine lv_iload hx hb dX2_reopen_63 (lv_at hl 0 rfl) ?_
          refine lv_iload_n hx hb dX2_reopen_65 rfl (lv_at hl 2 rfl) ?_
          refine jb_ge (tgt := 109) hx hb (nI_toInt (n := k) (by omega)) (nI_toInt (n := L.1 (64 * (L.1 0))) (by omega)) dX2_reopen_66 (by decide) (fun c5 => ?_) (fun c5 => ?_)
          · skip
            have k9 : k = L.1 (64 * (L.1 0)) := by omega
            rw [k9] at hx9
            refine lv_iload_n hx hb dX2_reopen_109 rfl (lv_at hl 1 rfl) ?_
            refine lv_sipush (v := nI 1000) hx hb dX2_reopen_110 (by decide +kernel) ?_
            refine jb_ge (tgt := 120) hx hb (nI_toInt (n := x) (by omega)) (nI_toInt (n := 1000) (by decide)) dX2_reopen_113 (by decide) (fun c6 => ?_) (fun c6 => ?_)
            · skip
              rw [rmF_o t9 q3 (by omega)]
              refine lv_aload_n hx hb dX2_reopen_120 rfl (lv_at hl 3 rfl) ?_
              refine lv_iload_n hx hb dX2_reopen_121 rfl (lv_at hl 4 rfl) ?_
              refine va_put (D := D) (ci := 3) (v := .int (nI (L.1 0))) (ty := .int) (C := RX2) (T := TX2) (N := 12) hx hb hts hinX2 tyX2 tyX2_ok nmX2 hown hK hP hD hS 0 rfl rfl 3 (by decide) (hts (.fieldLink RX2 29 "PuzzleBookModel" "turn" "I") (by decide +kernel)) (fun _ h9 => h9) rfl (by decide +kernel) rfl rfl (Nat.le_of_ble_eq_true rfl) dX2_reopen_122 (fun H locs hP hD hS => ?_)
              have hP : va_P D vwCl (mW m0 m1 m2 m3 m4 m5 cB cI n (L.1, L.2.1, L.2.2.1, 0) fd fc 0 (L.1 0) eb ec 0) H := hP
              have hD : va_D A (mW m0 m1 m2 m3 m4 m5 cB cI n (L.1, L.2.1, L.2.2.1, 0) fd fc 0 (L.1 0) eb ec 0) := hD
              refine lv_aload_n hx hb dX2_reopen_125 rfl (lv_at hl 3 rfl) ?_
              refine lv_iload_n hx hb dX2_reopen_126 rfl (lv_at hl 2 rfl) ?_
              refine va_put (D := D) (ci := 3) (v := .int (nI (L.1 (64 * (L.1 0))))) (ty := .int) (C := RX2) (T := TX2) (N := 12) hx hb hts hinX2 tyX2 tyX2_ok nmX2 hown hK hP hD hS 0 rfl rfl 4 (by decide) (hts (.fieldLink RX2 54 "PuzzleBookModel" "entries" "I") (by decide +kernel)) (fun _ h9 => h9) rfl (by decide +kernel) rfl rfl (Nat.le_of_ble_eq_true rfl) dX2_reopen_127 (fun H locs hP hD hS => ?_)
              have hP : va_P D vwCl (mW m0 m1 m2 m3 m4 m5 cB cI n (L.1, L.2.1, L.2.2.1, 0) fd fc 0 (L.1 0) eb (L.1 (64 * (L.1 0))) 0) H := hP
              have hD : va_D A (mW m0 m1 m2 m3 m4 m5 cB cI n (L.1, L.2.1, L.2.2.1, 0) fd fc 0 (L.1 0) eb (L.1 (64 * (L.1 0))) 0) := hD
              refine lv_iconst (v := nI 0) hx hb dX2_reopen_130 (by decide +kernel) ?_
              refine lv_istore (lv' := [(4, .int (nI 0)), (3, .int (nI x)), (2, .int (nI (L.1 (64 * (L.1 0))))), (0, .ref m0), (1, .int (nI (L.1 0)))]) hx hb dX2_reopen_131 hl (by decide) rfl (fun ls hl => ?_)
              have loop2 : ∀ (fv i : Nat), i ≤ L.1 (64 * (L.1 0)) → L.1 (64 * (L.1 0)) - i < fv → ∀ (H : Heap) (locs : List Loc), va_P D vwCl (mW m0 m1 m2 m3 m4 m5 cB cI n (L.1, L.2.1, L.2.2.1, 0) fd fc 0 (L.1 0) (cpE L.1 (L.1 0) eb i) (L.1 (64 * (L.1 0))) 0) H → va_D A (mW m0 m1 m2 m3 m4 m5 cB cI n (L.1, L.2.1, L.2.2.1, 0) fd fc 0 (L.1 0) (cpE L.1 (L.1 0) eb i) (L.1 (64 * (L.1 0))) 0) → va_S A s.heap H locs → ∀ ls : Array Slot, lv_has ls 6 [(4, .int (nI i)), (2, .int (nI (L.1 (64 * (L.1 0))))), (0, .ref m0), (1, .int (nI (L.1 0)))] → W p l e ({ frames := 3, cells := 0, slots := 0, locals := 71 }) s m [.ref m0].toArray below meth c H locs 0 0 (MQ below (wQi (nI (L.1 (64 * (L.1 0)))) D (mW m0 m1 m2 m3 m4 m5 cB cI n (L.1, L.2.1, L.2.2.1, 0) fd fc 1 (L.1 0) (cpE L.1 (L.1 0) eb (L.1 (64 * (L.1 0)))) (L.1 (64 * (L.1 0))) 0) A) [.ref m0].toArray s 0 0 A) (F0 m 133 ls []) := by
                intro fv
                induction fv with
                | zero => intro i hi hf; omega
                | succ fv ih2 =>
                  intro i hi hfv H locs hP hD hS ls hl
                  refine lv_iload hx hb dX2_reopen_133 (lv_at hl 0 rfl) ?_
                  refine lv_iload_n hx hb dX2_reopen_135 rfl (lv_at hl 1 rfl) ?_
                  refine jb_ge (tgt := 166) hx hb (nI_toInt (n := i) (by omega)) (nI_toInt (n := L.1 (64 * (L.1 0))) (by omega)) dX2_reopen_136 (by decide) (fun c7 => ?_) (fun c7 => ?_)
                  · skip
                    have i9 : i = L.1 (64 * (L.1 0)) := by omega
                    rw [i9] at hP hD
                    refine lv_aload_n hx hb dX2_reopen_166 rfl (lv_at hl 2 rfl) ?_
                    refine lv_iconst (v := nI 1) hx hb dX2_reopen_167 (by decide +kernel) ?_
                    refine va_put (D := D) (ci := 3) (v := .int (nI 1)) (ty := .boolean) (C := RX2) (T := TX2) (N := 12) hx hb hts hinX2 tyX2 tyX2_ok nmX2 hown hK hP hD hS 0 rfl rfl 2 (by decide) (hts (.fieldLink RX2 32 "PuzzleBookModel" "open" "Z") (by decide +kernel)) (fun _ h9 => h9) rfl (by decide +kernel) rfl rfl (Nat.le_of_ble_eq_true rfl) dX2_reopen_168 (fun H locs hP hD hS => ?_)
                    have hP : va_P D vwCl (mW m0 m1 m2 m3 m4 m5 cB cI n (L.1, L.2.1, L.2.2.1, 0) fd fc 1 (L.1 0) (cpE L.1 (L.1 0) eb (L.1 (64 * (L.1 0)))) (L.1 (64 * (L.1 0))) 0) H := hP
                    have hD : va_D A (mW m0 m1 m2 m3 m4 m5 cB cI n (L.1, L.2.1, L.2.2.1, 0) fd fc 1 (L.1 0) (cpE L.1 (L.1 0) eb (L.1 (64 * (L.1 0)))) (L.1 (64 * (L.1 0))) 0) := hD
                    refine lv_iload_n hx hb dX2_reopen_171 rfl (lv_at hl 1 rfl) ?_
                    exact rt_wi hx hb hr hlocks hP hD hS dX2_reopen_172 rfl
                  · skip
                    refine lv_aload_n hx hb dX2_reopen_139 rfl (lv_at hl 2 rfl) ?_
                    refine va_get (D := D) (ci := 3) (v := .ref m2) (C := RX2) (T := TX2) (N := 12) hx hb hts hinX2 hown hK hP 0 rfl rfl 6 (by decide) (hts (.fieldLink RX2 13 "PuzzleBookModel" "block" "[I") (by decide +kernel)) (fun _ h9 => h9) rfl dX2_reopen_140 ?_
                    refine lv_iload hx hb dX2_reopen_143 (lv_at hl 0 rfl) ?_
                    refine lv_aload_n hx hb dX2_reopen_145 rfl (lv_at hl 2 rfl) ?_
                    refine va_get (D := D) (ci := 3) (v := .ref m1) (C := RX2) (T := TX2) (N := 12) hx hb hts hinX2 hown hK hP 0 rfl rfl 1 (by decide) (hts (.fieldLink RX2 7 "PuzzleBookModel" "store" "[I") (by decide +kernel)) (fun _ h9 => h9) rfl dX2_reopen_146 ?_
                    refine lv_bipush (v := nI 64) hx hb dX2_reopen_149 (by decide +kernel) ?_
                    refine lv_iload_n hx hb dX2_reopen_151 rfl (lv_at hl 3 rfl) ?_
                    refine lv_imul hx hb dX2_reopen_152 ?_
                    refine lv_as (y := nI (64 * (L.1 0))) (pk_mul _ _) ?_
                    refine lv_iconst (v := nI 1) hx hb dX2_reopen_153 (by decide +kernel) ?_
                    refine lv_iadd hx hb dX2_reopen_154 ?_
                    refine lv_as (y := nI ((64 * (L.1 0)) + 1)) (nI_add _ _) ?_
                    refine lv_iload hx hb dX2_reopen_155 (lv_at hl 0 rfl) ?_
                    refine lv_iadd hx hb dX2_reopen_157 ?_
                    refine lv_as (y := nI (((64 * (L.1 0)) + 1) + i)) (nI_add _ _) ?_
                    refine lv_as (y := nI (64 * (L.1 0) + (1 + i))) (congrArg nI (by omega)) ?_
                    refine ld_i (f := L.1) (k := 64 * (L.1 0) + (1 + i)) hx hb hK hP 1 1 rfl rfl (by omega) (by decide) dX2_reopen_158 ?_
                    refine st_i (f := cpE L.1 (L.1 0) eb i) (k := i) (x := L.1 (64 * (L.1 0) + (1 + i))) hx hb hK hP hD hS 2 1 rfl rfl (by omega) (by decide) dX2_reopen_159 (fun H locs hP hD hS => ?_)
                    have hP : va_P D vwCl (mW m0 m1 m2 m3 m4 m5 cB cI n (L.1, L.2.1, L.2.2.1, 0) fd fc 0 (L.1 0) (va_up (cpE L.1 (L.1 0) eb i) i (L.1 (64 * (L.1 0) + (1 + i)))) (L.1 (64 * (L.1 0))) 0) H := hP
                    have hD : va_D A (mW m0 m1 m2 m3 m4 m5 cB cI n (L.1, L.2.1, L.2.2.1, 0) fd fc 0 (L.1 0) (va_up (cpE L.1 (L.1 0) eb i) i (L.1 (64 * (L.1 0) + (1 + i)))) (L.1 (64 * (L.1 0))) 0) := hD
                    refine lv_iinc (v := nI (i + 1)) (lv' := [(4, .int (nI (i + 1))), (2, .int (nI (L.1 (64 * (L.1 0))))), (0, .ref m0), (1, .int (nI (L.1 0)))]) hx hb dX2_reopen_160 hl (k := 0) rfl (nI_add _ 1) (by decide) rfl (fun ls hl => ?_)
                    refine lv_goto (tgt := 133) hx hb dX2_reopen_163 (by decide) ?_
                    exact ih2 (i + 1) (by omega) (by omega) H locs hP hD hS ls (lv_sub hl [0, 1, 2, 3] rfl)
              exact loop2 41 0 (by omega) (by omega) H locs hP hD hS ls (lv_sub hl [0, 2, 3, 4] rfl)
            · skip
              rw [rmF_e t9 q3 (by omega), ← hx9]
              refine lv_iconst (v := -1) hx hb dX2_reopen_116 (by decide +kernel) ?_
              refine lv_iload_n hx hb dX2_reopen_117 rfl (lv_at hl 1 rfl) ?_
              refine lv_isub hx hb dX2_reopen_118 ?_
              exact rt_wi hx hb hr hlocks hP hD hS dX2_reopen_119 rfl
          · skip
            have xk := x64 k (by omega)
            refine lv_aload_n hx hb dX2_reopen_69 rfl (lv_at hl 3 rfl) ?_
            refine va_get (D := D) (ci := 3) (v := .ref m1) (C := RX2) (T := TX2) (N := 12) hx hb hts hinX2 hown hK hP 0 rfl rfl 1 (by decide) (hts (.fieldLink RX2 7 "PuzzleBookModel" "store" "[I") (by decide +kernel)) (fun _ h9 => h9) rfl dX2_reopen_70 ?_
            refine lv_bipush (v := nI 64) hx hb dX2_reopen_73 (by decide +kernel) ?_
            refine lv_iload_n hx hb dX2_reopen_75 rfl (lv_at hl 4 rfl) ?_
            refine lv_imul hx hb dX2_reopen_76 ?_
            refine lv_as (y := nI (64 * (L.1 0))) (pk_mul _ _) ?_
            refine lv_iconst (v := nI 1) hx hb dX2_reopen_77 (by decide +kernel) ?_
            refine lv_iadd hx hb dX2_reopen_78 ?_
            refine lv_as (y := nI ((64 * (L.1 0)) + 1)) (nI_add _ _) ?_
            refine lv_iload hx hb dX2_reopen_79 (lv_at hl 0 rfl) ?_
            refine lv_iadd hx hb dX2_reopen_81 ?_
            refine lv_as (y := nI (((64 * (L.1 0)) + 1) + k)) (nI_add _ _) ?_
            refine lv_as (y := nI (64 * (L.1 0) + (1 + k))) (congrArg nI (by omega)) ?_
            refine ld_i (f := L.1) (k := 64 * (L.1 0) + (1 + k)) hx hb hK hP 1 1 rfl rfl (by omega) (by decide) dX2_reopen_82 ?_
            refine lv_istore (lv' := [(5, .int (nI (L.1 (64 * (L.1 0) + (1 + k))))), (4, .int (nI k)), (3, .int (nI x)), (2, .int (nI (L.1 (64 * (L.1 0))))), (0, .ref m0), (1, .int (nI (L.1 0)))]) hx hb dX2_reopen_83 hl (by decide) rfl (fun ls hl => ?_)
            refine lv_aload_n hx hb dX2_reopen_85 rfl (lv_at hl 4 rfl) ?_
            refine lv_iload hx hb dX2_reopen_86 (lv_at hl 0 rfl) ?_
            refine rd_V (As := [.int (nI (L.1 (64 * (L.1 0) + (1 + k))))]) (rest := []) ⟨hx, hb, hml, hown, hts⟩ (c_X2_entryIsRight l D m0 m1 m2 m3 m4 m5 cB cI n (L.1, L.2.1, L.2.2.1, 0) fd fc 0 tn eb ec 0 (L.1 (64 * (L.1 0) + (1 + k))) hg (by omega)) (cwV 1 hts gX2_reopen_X2_entryIsRight rfl rfl rfl (by decide +kernel) ⟨Nat.le_of_ble_eq_true rfl, Nat.le_of_ble_eq_true rfl⟩) hK hP [0, 1, 2, 3, 4, 5] rfl (ci := 3) rfl rfl (q0 := 0) rfl rfl hl.1 rfl (Nat.le_of_ble_eq_true rfl) dX2_reopen_88 ⟨Nat.zero_le _, Nat.zero_le _⟩ (fun r8 hr8 => ?_)
            subst hr8
            by_cases q9 : (¬ wrE (L.1, L.2.1, L.2.2.1, 0).1 (L.1 (64 * (L.1 0) + (1 + k))))
            · skip
              refine lv_as (y := nI 1) (congrArg nI (b01_t q9)) ?_
              refine j0_ne (tgt := 103) hx hb (nI_toInt (n := 1) (by decide)) dX2_reopen_91 (by decide) (fun c10 => ?_) (fun c10 => absurd c10 (by omega))
              refine lv_iinc (v := nI (k + 1)) (lv' := [(4, .int (nI (k + 1))), (5, .int (nI (L.1 (64 * (L.1 0) + (1 + k))))), (3, .int (nI x)), (2, .int (nI (L.1 (64 * (L.1 0))))), (0, .ref m0), (1, .int (nI (L.1 0)))]) hx hb dX2_reopen_103 hl (k := 1) rfl (nI_add _ 1) (by decide) rfl (fun ls hl => ?_)
              refine lv_goto (tgt := 63) hx hb dX2_reopen_106 (by decide) ?_
              exact ih (k + 1) x (by omega) (by omega) (by rw [lwN_f (P := wrE L.1) (E := (fun k => L.1 (64 * (L.1 0) + (1 + k)))) q9]; exact hx9) (by omega) H locs hP hD hS ls (lv_sub hl [0, 2, 3, 4, 5] rfl)
            · skip
              refine lv_as (y := nI 0) (congrArg nI (b01_f q9)) ?_
              refine j0_ne (tgt := 103) hx hb (nI_toInt (n := 0) (by decide)) dX2_reopen_91 (by decide) (fun c11 => absurd c11 (by omega)) (fun c11 => ?_)
              have qq : wrE L.1 ((fun k => L.1 (64 * (L.1 0) + (1 + k))) k) := Classical.byContradiction q9
              refine lv_iload hx hb dX2_reopen_94 (lv_at hl 0 rfl) ?_
              refine lv_iload_n hx hb dX2_reopen_96 rfl (lv_at hl 2 rfl) ?_
              refine jb_ge (tgt := 103) hx hb (nI_toInt (n := L.1 (64 * (L.1 0) + (1 + k))) (by omega)) (nI_toInt (n := x) (by omega)) dX2_reopen_97 (by decide) (fun c12 => ?_) (fun c12 => ?_)
              · skip
                refine lv_iinc (v := nI (k + 1)) (lv' := [(4, .int (nI (k + 1))), (5, .int (nI (L.1 (64 * (L.1 0) + (1 + k))))), (3, .int (nI x)), (2, .int (nI (L.1 (64 * (L.1 0))))), (0, .ref m0), (1, .int (nI (L.1 0)))]) hx hb dX2_reopen_103 hl (k := 1) rfl (nI_add _ 1) (by decide) rfl (fun ls hl => ?_)
                refine lv_goto (tgt := 63) hx hb dX2_reopen_106 (by decide) ?_
                exact ih (k + 1) x (by omega) (by omega) (by rw [lwN_t (P := wrE L.1) (E := (fun k => L.1 (64 * (L.1 0) + (1 + k)))) qq, ← hx9]; exact (Nat.min_eq_left (by omega)).symm) (by omega) H locs hP hD hS ls (lv_sub hl [0, 2, 3, 4, 5] rfl)
              · skip
                refine lv_iload hx hb dX2_reopen_100 (lv_at hl 0 rfl) ?_
                refine lv_istore_n (lv' := [(3, .int (nI (L.1 (64 * (L.1 0) + (1 + k))))), (5, .int (nI (L.1 (64 * (L.1 0) + (1 + k))))), (4, .int (nI k)), (2, .int (nI (L.1 (64 * (L.1 0))))), (0, .ref m0), (1, .int (nI (L.1 0)))]) hx hb dX2_reopen_102 rfl hl (by decide) rfl (fun ls hl => ?_)
                refine lv_iinc (v := nI (k + 1)) (lv' := [(4, .int (nI (k + 1))), (3, .int (nI (L.1 (64 * (L.1 0) + (1 + k))))), (5, .int (nI (L.1 (64 * (L.1 0) + (1 + k))))), (2, .int (nI (L.1 (64 * (L.1 0))))), (0, .ref m0), (1, .int (nI (L.1 0)))]) hx hb dX2_reopen_103 hl (k := 2) rfl (nI_add _ 1) (by decide) rfl (fun ls hl => ?_)
                refine lv_goto (tgt := 63) hx hb dX2_reopen_106 (by decide) ?_
                exact ih (k + 1) (L.1 (64 * (L.1 0) + (1 + k))) (by omega) (by omega) (by rw [lwN_t (P := wrE L.1) (E := (fun k => L.1 (64 * (L.1 0) + (1 + k)))) qq, ← hx9]; exact (Nat.min_eq_right (by omega)).symm) (by omega) H locs hP hD hS ls (lv_sub hl [0, 1, 3, 4, 5] rfl)
      exact loop 41 0 1000 (by omega) (by omega) rfl (by omega) H locs hP hD hS ls (lv_sub hl [0, 1, 2, 4, 3] rfl)
    · skip
      refine lv_as (y := nI 0) (congrArg nI (b01_f q3)) ?_
      refine j0_ne (tgt := 46) hx hb (nI_toInt (n := 0) (by decide)) dX2_reopen_39 (by decide) (fun c13 => absurd c13 (by omega)) (fun c13 => ?_)
      rw [rmF_r t9 q3]
      refine lv_iconst (v := -1) hx hb dX2_reopen_42 (by decide +kernel) ?_
      refine lv_iload_n hx hb dX2_reopen_43 rfl (lv_at hl 0 rfl) ?_
      refine lv_isub hx hb dX2_reopen_44 ?_
      exact rt_wi hx hb hr hlocks hP hD hS dX2_reopen_45 rfl
  · skip
    refine lv_iload_n hx hb dX2_reopen_27 rfl (lv_at hl 0 rfl) ?_
    refine lv_iconst (v := nI 2) hx hb dX2_reopen_28 (by decide +kernel) ?_
    refine jb_eq (tgt := 34) hx hb (nI_toInt (n := L.1 0) (by omega)) (nI_toInt (n := 2) (by decide)) dX2_reopen_29 (by decide) (fun c14 => ?_) (fun c14 => ?_)
    · skip
      have t9 : t12 L.1 := by unfold t12; omega
      refine lv_aload_n hx hb dX2_reopen_34 rfl (lv_at hl 1 rfl) ?_
      refine lv_iload_n hx hb dX2_reopen_35 rfl (lv_at hl 0 rfl) ?_
      refine rd_V (As := [.int (nI (L.1 0))]) (rest := []) ⟨hx, hb, hml, hown, hts⟩ (c_X2_rootIsRight l D m0 m1 m2 m3 m4 m5 cB cI n (L.1, L.2.1, L.2.2.1, 0) fd fc 0 tn eb ec 0 (L.1 0) hn hg (by omega)) (cwV 1 hts gX2_reopen_X2_rootIsRight rfl rfl rfl (by decide +kernel) ⟨Nat.le_of_ble_eq_true rfl, Nat.le_of_ble_eq_true rfl⟩) hK hP [0, 1, 2, 3, 4, 5] rfl (ci := 3) rfl rfl (q0 := 0) rfl rfl hl.1 rfl (Nat.le_of_ble_eq_true rfl) dX2_reopen_36 ⟨Nat.zero_le _, Nat.zero_le _⟩ (fun r15 hr15 => ?_)
      subst hr15
      by_cases q16 : (rdO (L.1, L.2.1, L.2.2.1, 0).1 (L.1 0) n)
      · skip
        refine lv_as (y := nI 1) (congrArg nI (b01_t q16)) ?_
        refine j0_ne (tgt := 46) hx hb (nI_toInt (n := 1) (by decide)) dX2_reopen_39 (by decide) (fun c17 => ?_) (fun c17 => absurd c17 (by omega))
        have g1 := hg (64 * (L.1 0))
        have t40 : L.1 (64 * (L.1 0)) ≤ 40 := q16.1.2
        have x64 : ∀ k, k < L.1 (64 * (L.1 0)) → L.1 (64 * (L.1 0) + (1 + k)) < n := fun k hk => Nat.lt_of_not_le (fun q => q16.2 k hk (Or.inr (Or.inl q)))
        refine lv_aload_n hx hb dX2_reopen_46 rfl (lv_at hl 1 rfl) ?_
        refine va_get (D := D) (ci := 3) (v := .ref m1) (C := RX2) (T := TX2) (N := 12) hx hb hts hinX2 hown hK hP 0 rfl rfl 1 (by decide) (hts (.fieldLink RX2 7 "PuzzleBookModel" "store" "[I") (by decide +kernel)) (fun _ h9 => h9) rfl dX2_reopen_47 ?_
        refine lv_bipush (v := nI 64) hx hb dX2_reopen_50 (by decide +kernel) ?_
        refine lv_iload_n hx hb dX2_reopen_52 rfl (lv_at hl 0 rfl) ?_
        refine lv_imul hx hb dX2_reopen_53 ?_
        refine lv_as (y := nI (64 * (L.1 0))) (pk_mul _ _) ?_
        refine ld_i (f := L.1) (k := 64 * (L.1 0)) hx hb hK hP 1 1 rfl rfl (by omega) (by decide) dX2_reopen_54 ?_
        refine lv_istore_n (lv' := [(2, .int (nI (L.1 (64 * (L.1 0))))), (1, .int (nI (L.1 0))), (0, .ref m0)]) hx hb dX2_reopen_55 rfl hl (by decide) rfl (fun ls hl => ?_)
        refine lv_sipush (v := nI 1000) hx hb dX2_reopen_56 (by decide +kernel) ?_
        refine lv_istore_n (lv' := [(3, .int (nI 1000)), (2, .int (nI (L.1 (64 * (L.1 0))))), (1, .int (nI (L.1 0))), (0, .ref m0)]) hx hb dX2_reopen_59 rfl hl (by decide) rfl (fun ls hl => ?_)
        refine lv_iconst (v := nI 0) hx hb dX2_reopen_60 (by decide +kernel) ?_
        refine lv_istore (lv' := [(4, .int (nI 0)), (3, .int (nI 1000)), (2, .int (nI (L.1 (64 * (L.1 0))))), (1, .int (nI (L.1 0))), (0, .ref m0)]) hx hb dX2_reopen_61 hl (by decide) rfl (fun ls hl => ?_)
        have loop : ∀ (fu k x : Nat), k ≤ L.1 (64 * (L.1 0)) → L.1 (64 * (L.1 0)) - k < fu → x = lwN (wrE L.1) (fun k => L.1 (64 * (L.1 0) + (1 + k))) k → x ≤ 1000 → ∀ (H : Heap) (locs : List Loc), va_P D vwCl (mW m0 m1 m2 m3 m4 m5 cB cI n (L.1, L.2.1, L.2.2.1, 0) fd fc 0 tn eb ec 0) H → va_D A (mW m0 m1 m2 m3 m4 m5 cB cI n (L.1, L.2.1, L.2.2.1, 0) fd fc 0 tn eb ec 0) → va_S A s.heap H locs → ∀ ls : Array Slot, lv_has ls 6 [(4, .int (nI k)), (3, .int (nI x)), (2, .int (nI (L.1 (64 * (L.1 0))))), (0, .ref m0), (1, .int (nI (L.1 0)))] → W p l e ({ frames := 3, cells := 0, slots := 0, locals := 71 }) s m [.ref m0].toArray below meth c H locs 0 0 (MQ below (wQi ((rmF L.1 n tn eb ec).2.2.2.2) D (mW m0 m1 m2 m3 m4 m5 cB cI n (w0 L) fd fc ((rmF L.1 n tn eb ec).1) ((rmF L.1 n tn eb ec).2.1) ((rmF L.1 n tn eb ec).2.2.1) ((rmF L.1 n tn eb ec).2.2.2.1) 0) A) [.ref m0].toArray s 0 0 A) (F0 m 63 ls []) := by
          intro fu
          induction fu with
          | zero => intro k x hk hf; omega
          | succ fu ih =>
            intro k x hk hfu hx9 hx8 H locs hP hD hS ls hl
            refine lv_iload hx hb dX2_reopen_63 (lv_at hl 0 rfl) ?_
            refine lv_iload_n hx hb dX2_reopen_65 rfl (lv_at hl 2 rfl) ?_
            refine jb_ge (tgt := 109) hx hb (nI_toInt (n := k) (by omega)) (nI_toInt (n := L.1 (64 * (L.1 0))) (by omega)) dX2_reopen_66 (by decide) (fun c18 => ?_) (fun c18 => ?_)
            · skip
              have k9 : k = L.1 (64 * (L.1 0)) := by omega
              rw [k9] at hx9
              refine lv_iload_n hx hb dX2_reopen_109 rfl (lv_at hl 1 rfl) ?_
              refine lv_sipush (v := nI 1000) hx hb dX2_reopen_110 (by decide +kernel) ?_
              refine jb_ge (tgt := 120) hx hb (nI_toInt (n := x) (by omega)) (nI_toInt (n := 1000) (by decide)) dX2_reopen_113 (by decide) (fun c19 => ?_) (fun c19 => ?_)
              · skip
                rw [rmF_o t9 q16 (by omega)]
                refine lv_aload_n hx hb dX2_reopen_120 rfl (lv_at hl 3 rfl) ?_
                refine lv_iload_n hx hb dX2_reopen_121 rfl (lv_at hl 4 rfl) ?_
                refine va_put (D := D) (ci := 3) (v := .int (nI (L.1 0))) (ty := .int) (C := RX2) (T := TX2) (N := 12) hx hb hts hinX2 tyX2 tyX2_ok nmX2 hown hK hP hD hS 0 rfl rfl 3 (by decide) (hts (.fieldLink RX2 29 "PuzzleBookModel" "turn" "I") (by decide +kernel)) (fun _ h9 => h9) rfl (by decide +kernel) rfl rfl (Nat.le_of_ble_eq_true rfl) dX2_reopen_122 (fun H locs hP hD hS => ?_)
                have hP : va_P D vwCl (mW m0 m1 m2 m3 m4 m5 cB cI n (L.1, L.2.1, L.2.2.1, 0) fd fc 0 (L.1 0) eb ec 0) H := hP
                have hD : va_D A (mW m0 m1 m2 m3 m4 m5 cB cI n (L.1, L.2.1, L.2.2.1, 0) fd fc 0 (L.1 0) eb ec 0) := hD
                refine lv_aload_n hx hb dX2_reopen_125 rfl (lv_at hl 3 rfl) ?_
                refine lv_iload_n hx hb dX2_reopen_126 rfl (lv_at hl 2 rfl) ?_
                refine va_put (D := D) (ci := 3) (v := .int (nI (L.1 (64 * (L.1 0))))) (ty := .int) (C := RX2) (T := TX2) (N := 12) hx hb hts hinX2 tyX2 tyX2_ok nmX2 hown hK hP hD hS 0 rfl rfl 4 (by decide) (hts (.fieldLink RX2 54 "PuzzleBookModel" "entries" "I") (by decide +kernel)) (fun _ h9 => h9) rfl (by decide +kernel) rfl rfl (Nat.le_of_ble_eq_true rfl) dX2_reopen_127 (fun H locs hP hD hS => ?_)
                have hP : va_P D vwCl (mW m0 m1 m2 m3 m4 m5 cB cI n (L.1, L.2.1, L.2.2.1, 0) fd fc 0 (L.1 0) eb (L.1 (64 * (L.1 0))) 0) H := hP
                have hD : va_D A (mW m0 m1 m2 m3 m4 m5 cB cI n (L.1, L.2.1, L.2.2.1, 0) fd fc 0 (L.1 0) eb (L.1 (64 * (L.1 0))) 0) := hD
                refine lv_iconst (v := nI 0) hx hb dX2_reopen_130 (by decide +kernel) ?_
                refine lv_istore (lv' := [(4, .int (nI 0)), (3, .int (nI x)), (2, .int (nI (L.1 (64 * (L.1 0))))), (0, .ref m0), (1, .int (nI (L.1 0)))]) hx hb dX2_reopen_131 hl (by decide) rfl (fun ls hl => ?_)
                have loop2 : ∀ (fv i : Nat), i ≤ L.1 (64 * (L.1 0)) → L.1 (64 * (L.1 0)) - i < fv → ∀ (H : Heap) (locs : List Loc), va_P D vwCl (mW m0 m1 m2 m3 m4 m5 cB cI n (L.1, L.2.1, L.2.2.1, 0) fd fc 0 (L.1 0) (cpE L.1 (L.1 0) eb i) (L.1 (64 * (L.1 0))) 0) H → va_D A (mW m0 m1 m2 m3 m4 m5 cB cI n (L.1, L.2.1, L.2.2.1, 0) fd fc 0 (L.1 0) (cpE L.1 (L.1 0) eb i) (L.1 (64 * (L.1 0))) 0) → va_S A s.heap H locs → ∀ ls : Array Slot, lv_has ls 6 [(4, .int (nI i)), (2, .int (nI (L.1 (64 * (L.1 0))))), (0, .ref m0), (1, .int (nI (L.1 0)))] → W p l e ({ frames := 3, cells := 0, slots := 0, locals := 71 }) s m [.ref m0].toArray below meth c H locs 0 0 (MQ below (wQi (nI (L.1 (64 * (L.1 0)))) D (mW m0 m1 m2 m3 m4 m5 cB cI n (L.1, L.2.1, L.2.2.1, 0) fd fc 1 (L.1 0) (cpE L.1 (L.1 0) eb (L.1 (64 * (L.1 0)))) (L.1 (64 * (L.1 0))) 0) A) [.ref m0].toArray s 0 0 A) (F0 m 133 ls []) := by
                  intro fv
                  induction fv with
                  | zero => intro i hi hf; omega
                  | succ fv ih2 =>
                    intro i hi hfv H locs hP hD hS ls hl
                    refine lv_iload hx hb dX2_reopen_133 (lv_at hl 0 rfl) ?_
                    refine lv_iload_n hx hb dX2_reopen_135 rfl (lv_at hl 1 rfl) ?_
                    refine jb_ge (tgt := 166) hx hb (nI_toInt (n := i) (by omega)) (nI_toInt (n := L.1 (64 * (L.1 0))) (by omega)) dX2_reopen_136 (by decide) (fun c20 => ?_) (fun c20 => ?_)
                    · skip
                      have i9 : i = L.1 (64 * (L.1 0)) := by omega
                      rw [i9] at hP hD
                      refine lv_aload_n hx hb dX2_reopen_166 rfl (lv_at hl 2 rfl) ?_
                      refine lv_iconst (v := nI 1) hx hb dX2_reopen_167 (by decide +kernel) ?_
                      refine va_put (D := D) (ci := 3) (v := .int (nI 1)) (ty := .boolean) (C := RX2) (T := TX2) (N := 12) hx hb hts hinX2 tyX2 tyX2_ok nmX2 hown hK hP hD hS 0 rfl rfl 2 (by decide) (hts (.fieldLink RX2 32 "PuzzleBookModel" "open" "Z") (by decide +kernel)) (fun _ h9 => h9) rfl (by decide +kernel) rfl rfl (Nat.le_of_ble_eq_true rfl) dX2_reopen_168 (fun H locs hP hD hS => ?_)
                      have hP : va_P D vwCl (mW m0 m1 m2 m3 m4 m5 cB cI n (L.1, L.2.1, L.2.2.1, 0) fd fc 1 (L.1 0) (cpE L.1 (L.1 0) eb (L.1 (64 * (L.1 0)))) (L.1 (64 * (L.1 0))) 0) H := hP
                      have hD : va_D A (mW m0 m1 m2 m3 m4 m5 cB cI n (L.1, L.2.1, L.2.2.1, 0) fd fc 1 (L.1 0) (cpE L.1 (L.1 0) eb (L.1 (64 * (L.1 0)))) (L.1 (64 * (L.1 0))) 0) := hD
                      refine lv_iload_n hx hb dX2_reopen_171 rfl (lv_at hl 1 rfl) ?_
                      exact rt_wi hx hb hr hlocks hP hD hS dX2_reopen_172 rfl
                    · skip
                      refine lv_aload_n hx hb dX2_reopen_139 rfl (lv_at hl 2 rfl) ?_
                      refine va_get (D := D) (ci := 3) (v := .ref m2) (C := RX2) (T := TX2) (N := 12) hx hb hts hinX2 hown hK hP 0 rfl rfl 6 (by decide) (hts (.fieldLink RX2 13 "PuzzleBookModel" "block" "[I") (by decide +kernel)) (fun _ h9 => h9) rfl dX2_reopen_140 ?_
                      refine lv_iload hx hb dX2_reopen_143 (lv_at hl 0 rfl) ?_
                      refine lv_aload_n hx hb dX2_reopen_145 rfl (lv_at hl 2 rfl) ?_
                      refine va_get (D := D) (ci := 3) (v := .ref m1) (C := RX2) (T := TX2) (N := 12) hx hb hts hinX2 hown hK hP 0 rfl rfl 1 (by decide) (hts (.fieldLink RX2 7 "PuzzleBookModel" "store" "[I") (by decide +kernel)) (fun _ h9 => h9) rfl dX2_reopen_146 ?_
                      refine lv_bipush (v := nI 64) hx hb dX2_reopen_149 (by decide +kernel) ?_
                      refine lv_iload_n hx hb dX2_reopen_151 rfl (lv_at hl 3 rfl) ?_
                      refine lv_imul hx hb dX2_reopen_152 ?_
                      refine lv_as (y := nI (64 * (L.1 0))) (pk_mul _ _) ?_
                      refine lv_iconst (v := nI 1) hx hb dX2_reopen_153 (by decide +kernel) ?_
                      refine lv_iadd hx hb dX2_reopen_154 ?_
                      refine lv_as (y := nI ((64 * (L.1 0)) + 1)) (nI_add _ _) ?_
                      refine lv_iload hx hb dX2_reopen_155 (lv_at hl 0 rfl) ?_
                      refine lv_iadd hx hb dX2_reopen_157 ?_
                      refine lv_as (y := nI (((64 * (L.1 0)) + 1) + i)) (nI_add _ _) ?_
                      refine lv_as (y := nI (64 * (L.1 0) + (1 + i))) (congrArg nI (by omega)) ?_
                      refine ld_i (f := L.1) (k := 64 * (L.1 0) + (1 + i)) hx hb hK hP 1 1 rfl rfl (by omega) (by decide) dX2_reopen_158 ?_
                      refine st_i (f := cpE L.1 (L.1 0) eb i) (k := i) (x := L.1 (64 * (L.1 0) + (1 + i))) hx hb hK hP hD hS 2 1 rfl rfl (by omega) (by decide) dX2_reopen_159 (fun H locs hP hD hS => ?_)
                      have hP : va_P D vwCl (mW m0 m1 m2 m3 m4 m5 cB cI n (L.1, L.2.1, L.2.2.1, 0) fd fc 0 (L.1 0) (va_up (cpE L.1 (L.1 0) eb i) i (L.1 (64 * (L.1 0) + (1 + i)))) (L.1 (64 * (L.1 0))) 0) H := hP
                      have hD : va_D A (mW m0 m1 m2 m3 m4 m5 cB cI n (L.1, L.2.1, L.2.2.1, 0) fd fc 0 (L.1 0) (va_up (cpE L.1 (L.1 0) eb i) i (L.1 (64 * (L.1 0) + (1 + i)))) (L.1 (64 * (L.1 0))) 0) := hD
                      refine lv_iinc (v := nI (i + 1)) (lv' := [(4, .int (nI (i + 1))), (2, .int (nI (L.1 (64 * (L.1 0))))), (0, .ref m0), (1, .int (nI (L.1 0)))]) hx hb dX2_reopen_160 hl (k := 0) rfl (nI_add _ 1) (by decide) rfl (fun ls hl => ?_)
                      refine lv_goto (tgt := 133) hx hb dX2_reopen_163 (by decide) ?_
                      exact ih2 (i + 1) (by omega) (by omega) H locs hP hD hS ls (lv_sub hl [0, 1, 2, 3] rfl)
                exact loop2 41 0 (by omega) (by omega) H locs hP hD hS ls (lv_sub hl [0, 2, 3, 4] rfl)
              · skip
                rw [rmF_e t9 q16 (by omega), ← hx9]
                refine lv_iconst (v := -1) hx hb dX2_reopen_116 (by decide +kernel) ?_
                refine lv_iload_n hx hb dX2_reopen_117 rfl (lv_at hl 1 rfl) ?_
                refine lv_isub hx hb dX2_reopen_118 ?_
                exact rt_wi hx hb hr hlocks hP hD hS dX2_reopen_119 rfl
            · skip
              have xk := x64 k (by omega)
              refine lv_aload_n hx hb dX2_reopen_69 rfl (lv_at hl 3 rfl) ?_
              refine va_get (D := D) (ci := 3) (v := .ref m1) (C := RX2) (T := TX2) (N := 12) hx hb hts hinX2 hown hK hP 0 rfl rfl 1 (by decide) (hts (.fieldLink RX2 7 "PuzzleBookModel" "store" "[I") (by decide +kernel)) (fun _ h9 => h9) rfl dX2_reopen_70 ?_
              refine lv_bipush (v := nI 64) hx hb dX2_reopen_73 (by decide +kernel) ?_
              refine lv_iload_n hx hb dX2_reopen_75 rfl (lv_at hl 4 rfl) ?_
              refine lv_imul hx hb dX2_reopen_76 ?_
              refine lv_as (y := nI (64 * (L.1 0))) (pk_mul _ _) ?_
              refine lv_iconst (v := nI 1) hx hb dX2_reopen_77 (by decide +kernel) ?_
              refine lv_iadd hx hb dX2_reopen_78 ?_
              refine lv_as (y := nI ((64 * (L.1 0)) + 1)) (nI_add _ _) ?_
              refine lv_iload hx hb dX2_reopen_79 (lv_at hl 0 rfl) ?_
              refine lv_iadd hx hb dX2_reopen_81 ?_
              refine lv_as (y := nI (((64 * (L.1 0)) + 1) + k)) (nI_add _ _) ?_
              refine lv_as (y := nI (64 * (L.1 0) + (1 + k))) (congrArg nI (by omega)) ?_
              refine ld_i (f := L.1) (k := 64 * (L.1 0) + (1 + k)) hx hb hK hP 1 1 rfl rfl (by omega) (by decide) dX2_reopen_82 ?_
              refine lv_istore (lv' := [(5, .int (nI (L.1 (64 * (L.1 0) + (1 + k))))), (4, .int (nI k)), (3, .int (nI x)), (2, .int (nI (L.1 (64 * (L.1 0))))), (0, .ref m0), (1, .int (nI (L.1 0)))]) hx hb dX2_reopen_83 hl (by decide) rfl (fun ls hl => ?_)
              refine lv_aload_n hx hb dX2_reopen_85 rfl (lv_at hl 4 rfl) ?_
              refine lv_iload hx hb dX2_reopen_86 (lv_at hl 0 rfl) ?_
              refine rd_V (As := [.int (nI (L.1 (64 * (L.1 0) + (1 + k))))]) (rest := []) ⟨hx, hb, hml, hown, hts⟩ (c_X2_entryIsRight l D m0 m1 m2 m3 m4 m5 cB cI n (L.1, L.2.1, L.2.2.1, 0) fd fc 0 tn eb ec 0 (L.1 (64 * (L.1 0) + (1 + k))) hg (by omega)) (cwV 1 hts gX2_reopen_X2_entryIsRight rfl rfl rfl (by decide +kernel) ⟨Nat.le_of_ble_eq_true rfl, Nat.le_of_ble_eq_true rfl⟩) hK hP [0, 1, 2, 3, 4, 5] rfl (ci := 3) rfl rfl (q0 := 0) rfl rfl hl.1 rfl (Nat.le_of_ble_eq_true rfl) dX2_reopen_88 ⟨Nat.zero_le _, Nat.zero_le _⟩ (fun r21 hr21 => ?_)
              subst hr21
              by_cases q22 : (¬ wrE (L.1, L.2.1, L.2.2.1, 0).1 (L.1 (64 * (L.1 0) + (1 + k))))
              · skip
                refine lv_as (y := nI 1) (congrArg nI (b01_t q22)) ?_
                refine j0_ne (tgt := 103) hx hb (nI_toInt (n := 1) (by decide)) dX2_reopen_91 (by decide) (fun c23 => ?_) (fun c23 => absurd c23 (by omega))
                refine lv_iinc (v := nI (k + 1)) (lv' := [(4, .int (nI (k + 1))), (5, .int (nI (L.1 (64 * (L.1 0) + (1 + k))))), (3, .int (nI x)), (2, .int (nI (L.1 (64 * (L.1 0))))), (0, .ref m0), (1, .int (nI (L.1 0)))]) hx hb dX2_reopen_103 hl (k := 1) rfl (nI_add _ 1) (by decide) rfl (fun ls hl => ?_)
                refine lv_goto (tgt := 63) hx hb dX2_reopen_106 (by decide) ?_
                exact ih (k + 1) x (by omega) (by omega) (by rw [lwN_f (P := wrE L.1) (E := (fun k => L.1 (64 * (L.1 0) + (1 + k)))) q22]; exact hx9) (by omega) H locs hP hD hS ls (lv_sub hl [0, 2, 3, 4, 5] rfl)
              · skip
                refine lv_as (y := nI 0) (congrArg nI (b01_f q22)) ?_
                refine j0_ne (tgt := 103) hx hb (nI_toInt (n := 0) (by decide)) dX2_reopen_91 (by decide) (fun c24 => absurd c24 (by omega)) (fun c24 => ?_)
                have qq : wrE L.1 ((fun k => L.1 (64 * (L.1 0) + (1 + k))) k) := Classical.byContradiction q22
                refine lv_iload hx hb dX2_reopen_94 (lv_at hl 0 rfl) ?_
                refine lv_iload_n hx hb dX2_reopen_96 rfl (lv_at hl 2 rfl) ?_
                refine jb_ge (tgt := 103) hx hb (nI_toInt (n := L.1 (64 * (L.1 0) + (1 + k))) (by omega)) (nI_toInt (n := x) (by omega)) dX2_reopen_97 (by decide) (fun c25 => ?_) (fun c25 => ?_)
                · skip
                  refine lv_iinc (v := nI (k + 1)) (lv' := [(4, .int (nI (k + 1))), (5, .int (nI (L.1 (64 * (L.1 0) + (1 + k))))), (3, .int (nI x)), (2, .int (nI (L.1 (64 * (L.1 0))))), (0, .ref m0), (1, .int (nI (L.1 0)))]) hx hb dX2_reopen_103 hl (k := 1) rfl (nI_add _ 1) (by decide) rfl (fun ls hl => ?_)
                  refine lv_goto (tgt := 63) hx hb dX2_reopen_106 (by decide) ?_
                  exact ih (k + 1) x (by omega) (by omega) (by rw [lwN_t (P := wrE L.1) (E := (fun k => L.1 (64 * (L.1 0) + (1 + k)))) qq, ← hx9]; exact (Nat.min_eq_left (by omega)).symm) (by omega) H locs hP hD hS ls (lv_sub hl [0, 2, 3, 4, 5] rfl)
                · skip
                  refine lv_iload hx hb dX2_reopen_100 (lv_at hl 0 rfl) ?_
                  refine lv_istore_n (lv' := [(3, .int (nI (L.1 (64 * (L.1 0) + (1 + k))))), (5, .int (nI (L.1 (64 * (L.1 0) + (1 + k))))), (4, .int (nI k)), (2, .int (nI (L.1 (64 * (L.1 0))))), (0, .ref m0), (1, .int (nI (L.1 0)))]) hx hb dX2_reopen_102 rfl hl (by decide) rfl (fun ls hl => ?_)
                  refine lv_iinc (v := nI (k + 1)) (lv' := [(4, .int (nI (k + 1))), (3, .int (nI (L.1 (64 * (L.1 0) + (1 + k))))), (5, .int (nI (L.1 (64 * (L.1 0) + (1 + k))))), (2, .int (nI (L.1 (64 * (L.1 0))))), (0, .ref m0), (1, .int (nI (L.1 0)))]) hx hb dX2_reopen_103 hl (k := 2) rfl (nI_add _ 1) (by decide) rfl (fun ls hl => ?_)
                  refine lv_goto (tgt := 63) hx hb dX2_reopen_106 (by decide) ?_
                  exact ih (k + 1) (L.1 (64 * (L.1 0) + (1 + k))) (by omega) (by omega) (by rw [lwN_t (P := wrE L.1) (E := (fun k => L.1 (64 * (L.1 0) + (1 + k)))) qq, ← hx9]; exact (Nat.min_eq_right (by omega)).symm) (by omega) H locs hP hD hS ls (lv_sub hl [0, 1, 3, 4, 5] rfl)
        exact loop 41 0 1000 (by omega) (by omega) rfl (by omega) H locs hP hD hS ls (lv_sub hl [0, 1, 2, 4, 3] rfl)
      · skip
        refine lv_as (y := nI 0) (congrArg nI (b01_f q16)) ?_
        refine j0_ne (tgt := 46) hx hb (nI_toInt (n := 0) (by decide)) dX2_reopen_39 (by decide) (fun c26 => absurd c26 (by omega)) (fun c26 => ?_)
        rw [rmF_r t9 q16]
        refine lv_iconst (v := -1) hx hb dX2_reopen_42 (by decide +kernel) ?_
        refine lv_iload_n hx hb dX2_reopen_43 rfl (lv_at hl 0 rfl) ?_
        refine lv_isub hx hb dX2_reopen_44 ?_
        exact rt_wi hx hb hr hlocks hP hD hS dX2_reopen_45 rfl
    · skip
      have t9 : ¬ t12 L.1 := by unfold t12; omega
      rw [rmF_n t9]
      refine lv_iconst (v := -1) hx hb dX2_reopen_32 (by decide +kernel) ?_
      exact rt_wi hx hb hr hlocks hP hD hS dX2_reopen_33 rfl
end
section
/-! 12: PuzzleBook.byteAt: it answers, or it throws (laid by wip/whole/gen/gen_throw.py) -/
theorem zq_ref {C n d : String} {A : Nat → Prop} {U : State} (h : va_Zq C n d A U U.heap) (args : Array Value) : (Cond.isRef (.static C n d)).before args U = true := by
  rcases h with ⟨cf, kf, fi, f, a, cell, h1, h2, h3, h4, h5, h6, h7, h8⟩ | ⟨t, cf, kf, fi, f, a, cell, h1, h2, h3, h4, h5, h6, h7, h8⟩
  · have hv := Term.static_eval (args := args) (first := U) (o := none) (idx := []) h1 h2 h4 h5 h6 h7
    simp [Cond.before, Cond.holds, Cond.value, hv]
  · have hv := Term.static_eval (args := args) (first := U) (o := none) (idx := []) h1 h2 h4 h5 h6 h7
    simp [Cond.before, Cond.holds, Cond.value, hv]
theorem ls_old {C n d : String} {s U : State} {a a' : Array Value} (h : (Cond.laysStatic C n d).before a s = true) (hW : s.WarmedH U.vm) (hk : ∀ q : Nat, q < s.heap.size → U.heap[q]? = s.heap[q]?) : (Cond.laysStatic C n d).before a' U = true := by
  obtain ⟨c, k, i, f, ad, cell, h1, h2, h3, h4, h5, h6, h7, h8, h9⟩ := Cond.laysStatic_spec h
  obtain ⟨k', hi', he⟩ := State.fieldFound?_setVm hW.alike h2
  have g1 : U.vm.findClass C = some c := by rw [hW.alike.findClass]; exact h1
  have g2 : U.fieldFound? C n d = some (c, k', i, f) := hi'
  have g3 : U.heap[ad]? = some cell := by rw [hk ad (Array.getElem?_eq_some_iff.mp h5).1]; exact h5
  have g4 : k'.statics = some ad := by rw [he]; exact h4
  have g5 : k'.staticTypes[f.slot]? = some f.type := by rw [he]; exact h9
  simp [Cond.before, Cond.holds, Cond.value, g1, g2, g3, g4, g5, h3, h6, h7, h8]
/-- what the tables' words alone don't say of the exception's making: two statics that hold a reference or null -/
def spB : List Cond := [.laysStatic "java/lang/Throwable" "UNASSIGNED_STACK" "[Ljava/lang/StackTraceElement;", .laysStatic "java/lang/Throwable" "SUPPRESSED_SENTINEL" "Ljava/util/List;", .isRef (.static "java/lang/Throwable" "UNASSIGNED_STACK" "[Ljava/lang/StackTraceElement;"), .isRef (.static "java/lang/Throwable" "SUPPRESSED_SENTINEL" "Ljava/util/List;")]
def spOK (U : State) : Prop := ∀ w ∈ spB, ∀ a : Array Value, w.before a U = true
theorem spOK_old {s U : State} (h : spOK s) (hini : (Cond.initialized "java/lang/Throwable").before #[] s = true) (hW : s.WarmedH U.vm) (hk : ∀ q : Nat, q < s.heap.size → U.heap[q]? = s.heap[q]?) : spOK U := by
  have key : ∀ C n d, (Cond.laysStatic C n d).before #[] s = true → (Cond.initialized C).before #[] s = true → (Cond.isRef (.static C n d)).before #[] s = true → ∀ a : Array Value, (Cond.isRef (.static C n d)).before a U = true := by
    intro C n d h1 h2 h3 a
    have z := va_Zqof (A := fun q => s.heap.size ≤ q) h1 h2 h3 (fun q hq => Nat.not_le.mpr hq)
    have z2 := (z.moved hW.alike).kept (H1 := U.heap) (fun q hq _ => hk q hq)
    exact zq_ref z2 a
  intro w hw a
  have h' := fun w hw => h w hw #[]
  rcases List.mem_cons.mp hw with rfl | hw
  · exact ls_old (h' _ List.mem_cons_self) hW hk
  rcases List.mem_cons.mp hw with rfl | hw
  · exact ls_old (h' _ (List.mem_cons_of_mem _ List.mem_cons_self)) hW hk
  rcases List.mem_cons.mp hw with rfl | hw
  · exact key _ _ _ (h' _ List.mem_cons_self) hini (h' _ (List.mem_cons_of_mem _ (List.mem_cons_of_mem _ List.mem_cons_self))) a
  rcases List.mem_cons.mp hw with rfl | hw
  · exact key _ _ _ (h' _ (List.mem_cons_of_mem _ List.mem_cons_self)) hini (h' _ (List.mem_cons_of_mem _ (List.mem_cons_of_mem _ (List.mem_cons_of_mem _ List.mem_cons_self)))) a
  · cases hw
theorem spOK_call {U : State} (h : spOK U) (g : JFrame) (mk : MethodId) (x : Array Value) : spOK (U.calling g mk x) := by
  intro w hw a
  have h0 := h w hw a
  rcases List.mem_cons.mp hw with rfl | hw
  · exact h0
  rcases List.mem_cons.mp hw with rfl | hw
  · exact h0
  rcases List.mem_cons.mp hw with rfl | hw
  · exact h0
  rcases List.mem_cons.mp hw with rfl | hw
  · exact h0
  · cases hw
def upB : List String := ["java/lang/IndexOutOfBoundsException", "java/lang/RuntimeException", "java/lang/Exception"]
/-- the tables' words on the exception's making -/
def wTb : List Cond := (Bundle.ownAtoms RX1 114 RJx00060 upB).filter Cond.onTables
theorem own_of : ∀ a ∈ Bundle.ownAtoms RX1 114 RJx00060 upB, a ∈ wTb ∨ a ∈ spB := by decide +kernel
/-- the words of byteAt where it throws -/
def wsBT : List Cond := wsX1_byteAt ++ (.stringRef RX1 112 "there is no such block or byte" :: wTb)
theorem sr_at {args a' : Array Value} {s U : State} (hW : s.WarmedH U.vm) {cls text : String} {index : Nat} (h : (Cond.stringRef cls index text).before args s = true) : (Cond.stringRef cls index text).before a' U = true := by
  have h1 := Cond.stringRef_warmed hW h
  exact h1
theorem fc_at {args a' : Array Value} {s U : State} (hW : s.WarmedH U.vm) {c : Cond} (h1 : c.onTables = true) (h2 : c.keepsFace = true) (h : c.before args s = true) : c.before a' U = true := by
  have h3 := Cond.before_shiftedFace (State.Shifted.of_warmed hW) c h2 h
  rw [Cond.onTables_vm (A' := a') (U' := U) U.vm c h1, State.setVm_self] at h3
  exact h3
theorem inBT1 : ∀ w ∈ wsX1_byteAt, w ∈ lw_tbl ∧ w.onTables = true ∧ w.keepsFace = true := by decide +kernel
theorem inBT3 : ∀ w ∈ wTb, w ∈ lw_tbl ∧ w.onTables = true ∧ w.keepsFace = true := by decide +kernel
theorem inBT2 : Cond.stringRef RX1 112 "there is no such block or byte" ∈ lw_tbl := by decide +kernel
/-- the words go with the tables -/
theorem payBT {args : Array Value} {s : State} (hts : ∀ w ∈ lw_tbl, w.before args s = true) : ∀ w ∈ wsBT, ∀ (a' : Array Value) (U : State), s.WarmedH U.vm → w.before a' U = true := by
  intro w hw a' U hW
  rcases List.mem_append.mp hw with h | h
  · exact fc_at hW (inBT1 w h).2.1 (inBT1 w h).2.2 (hts w (inBT1 w h).1)
  · rcases List.mem_cons.mp h with h | h
    · rw [h]; exact sr_at hW (hts _ inBT2)
    · exact fc_at hW (inBT3 w h).2.1 (inBT3 w h).2.2 (hts w (inBT3 w h).1)
/-- what a throw leaves -/
def qT (st : State) (o : Outcome) (t : State) : Prop := ∃ (x : Addr) (ce : Cell), o = .threw x ∧ st.heap.size ≤ x ∧ t.heap[x]? = some ce ∧ ce.vm.isStatics = false ∧ st.vm.findClass RJx00060 = some ce.cls ∧ st.WarmedH t.vm ∧ st.sameButNew ({ t with vm := st.vm } : State) [] 1 6
set_option maxRecDepth 100000 in
set_option maxHeartbeats 4000000 in
/-- byteAt(block, i), of a byte that is there -/
theorem c_X1_byteAt (l : Launch) (D : va_G) (b0 b1 b2 a0 a1 a2 a3 : Nat) (cB cI : ClassId) (n : Nat) (L : Lg) (fd : Nat → Nat) (fc : Nat) (op : Nat) (tn : Nat) (eb : Nat → Nat) (ec : Nat) (bk i : Nat) (hn : n ≤ 64) (hg : ∀ j, L.1 j < 256) (h1 : bk < n) (h2 : i < 64) : Met l yX1_byteAt wsX1_byteAt ({ frames := 2, cells := 0, slots := 0, locals := 44 }) (rP [.ref b0, .int (nI bk), .int (nI i)] D (bW b0 b1 b2 a0 a1 a2 a3 cB cI n L fd fc op tn eb ec) (ty2 cB cI)) (vp_Si (fun r => r = nI (L.1 (64 * bk + i)))) 0 0 (fun _ => False) := by
  refine met_r (by decide) rfl (Nat.le_of_ble_eq_true rfl) ?_
  intro p e s m below meth c hx hb hml hr hlocks hown hts hP hK ls hl
  have hown : s.vm.findClass RX1 = some m.cls := hown
  have hinX1 : ∀ w ∈ u_ws RX1 TX1 7, w ∈ wsX1_byteAt := by decide +kernel
  have hinX0 : ∀ w ∈ u_ws RX0 TX0 5, w ∈ wsX1_byteAt := by decide +kernel
  have hl : lv_has ls 3 [(0, .ref b0), (1, .int (nI bk)), (2, .int (nI i))] := hl
  refine lv_aload_n hx hb dX1_byteAt_0 rfl (lv_at hl 0 rfl) ?_
  refine va_get (D := D) (ci := 2) (v := .ref a0) (C := RX1) (T := TX1) (N := 7) hx hb hts hinX1 hown hK hP 0 rfl rfl 0 (by decide) (hts (.fieldLink RX1 28 "PuzzleBook" "store" "LPuzzleBook$Store;") (by decide +kernel)) (fun _ h9 => h9) rfl dX1_byteAt_1 ?_
  refine lv_iload_n hx hb dX1_byteAt_4 rfl (lv_at hl 1 rfl) ?_
  refine lv_iload_n hx hb dX1_byteAt_5 rfl (lv_at hl 2 rfl) ?_
  refine rd_V (As := [.int (nI bk), .int (nI i)]) (rest := []) ⟨hx, hb, hml, hown, hts⟩ (c_X0_has l D a0 a1 a2 a3 cB cI n L (nI bk) (nI i) ((bk : Nat) : Int) ((i : Nat) : Int) hn (nI_toInt (by omega)) (nI_toInt (by omega))) (cwV 2 hts gX1_byteAt_X0_has rfl rfl rfl (by decide +kernel) ⟨Nat.le_of_ble_eq_true rfl, Nat.le_of_ble_eq_true rfl⟩) hK hP [3, 4, 5, 6] rfl (ci := 1) rfl rfl (q0 := 3) rfl rfl hl.1 rfl (Nat.le_of_ble_eq_true rfl) dX1_byteAt_6 ⟨Nat.zero_le _, Nat.zero_le _⟩ (fun r1 hr1 => ?_)
  subst hr1
  refine lv_as (y := nI 1) (congrArg nI (b01_t (by omega))) ?_
  refine j0_ne (tgt := 22) hx hb (nI_toInt (n := 1) (by decide)) dX1_byteAt_9 (by decide) (fun c2 => ?_) (fun c2 => absurd c2 (by omega))
  refine lv_aload_n hx hb dX1_byteAt_22 rfl (lv_at hl 0 rfl) ?_
  refine va_get (D := D) (ci := 2) (v := .ref a0) (C := RX1) (T := TX1) (N := 7) hx hb hts hinX1 hown hK hP 0 rfl rfl 0 (by decide) (hts (.fieldLink RX1 28 "PuzzleBook" "store" "LPuzzleBook$Store;") (by decide +kernel)) (fun _ h9 => h9) rfl dX1_byteAt_23 ?_
  refine lv_iload_n hx hb dX1_byteAt_26 rfl (lv_at hl 1 rfl) ?_
  refine lv_iload_n hx hb dX1_byteAt_27 rfl (lv_at hl 2 rfl) ?_
  refine rd_V (As := [.int (nI bk), .int (nI i)]) (rest := []) ⟨hx, hb, hml, hown, hts⟩ (c_X0_read l D a0 a1 a2 a3 cB cI n L bk i hn hg h1 h2) (cwV 2 hts gX1_byteAt_X0_read rfl rfl rfl (by decide +kernel) ⟨Nat.le_of_ble_eq_true rfl, Nat.le_of_ble_eq_true rfl⟩) hK hP [3, 4, 5, 6] rfl (ci := 1) rfl rfl (q0 := 3) rfl rfl hl.1 rfl (Nat.le_of_ble_eq_true rfl) dX1_byteAt_28 ⟨Nat.zero_le _, Nat.zero_le _⟩ (fun r3 hr3 => ?_)
  subst hr3
  exact rt_i hx hb hr hlocks dX1_byteAt_31 rfl
set_option maxRecDepth 20000 in
theorem gBT_has : GoodIn wsBT (wsV RX1 97 RX0 yX0_has wsX0_has) := goodIn_sub (by decide +kernel) (by decide +kernel)
set_option maxRecDepth 100000 in
set_option maxHeartbeats 4000000 in
/-- byteAt(block, i), of a byte that isn't there: it throws -/
theorem t_X1_byteAt (l : Launch) (hfl : l.flags = flags0) (D : va_G) (b0 b1 b2 a0 a1 a2 a3 : Nat) (cB cI : ClassId) (n : Nat) (L : Lg) (fd : Nat → Nat) (fc : Nat) (op : Nat) (tn : Nat) (eb : Nat → Nat) (ec : Nat) (bv iv : Int32) (bz iz : Int) (hn : n ≤ 64) (h1 : bv.toInt = bz) (h2 : iv.toInt = iz) (hno : ¬ (0 ≤ bz ∧ bz < (n : Int) ∧ 0 ≤ iz ∧ iz < 64)) : MetFree l yX1_byteAt (headSpec wsBT ({ frames := 7, cells := 1, slots := 6, locals := 100 })) (va_Pc [.ref b0, .int bv, .int iv] (fun U => va_P D vwCl (bW b0 b1 b2 a0 a1 a2 a3 cB cI n L fd fc op tn eb ec) U.heap ∧ va_K D vwCl (ty2 cB cI) U ∧ spOK U)) (fun _ _ _ _ _ => True) (fun _ st o t => qT st o t) := by
  refine MetFree.of_bodyS (code := cX1_byteAt) (maxLocals := 3) (ret := some .int) (by decide) ?_ ?_
  · intro args s m h hnn
    obtain ⟨meth, c, q1, q2, q3, q4, q5, q6, -, -⟩ := Cond.code_spec hnn (atoms_spec (ws := wsBT) h _ List.mem_cons_self)
    exact ⟨meth, c, q1, q2, q3, q4, q5, q6⟩
  intro p e s m args below meth c s₁ B hml0 hv _
  obtain ⟨rfl, hP, hK, hZ⟩ := hv
  have hh0 : s₁.heap = s.heap := by rw [B.state]; rfl
  have hx := B.exec
  have hb := B.bytes
  have hlocks := B.notSynchronized
  have hts := atoms_spec (ws := wsBT) B.pre
  have hcw := hts (.code yX1_byteAt cX1_byteAt 3 (some .int)) List.mem_cons_self
  have hml : c.maxLocals = 3 := B.maxLocals_eq hcw
  have hown : s.vm.findClass RX1 = some m.cls := findClass_of_methodNamed B.named
  have hinX1 : ∀ w ∈ u_ws RX1 TX1 7, w ∈ wsBT := by decide +kernel
  have hinX0 : ∀ w ∈ u_ws RX0 TX0 5, w ∈ wsBT := by decide +kernel
  have K : W p l e ({ frames := 7, cells := 1, slots := 6, locals := 100 }) s m [.ref b0, .int bv, .int iv].toArray below meth c s.heap [] 0 0 (fun t => ∃ o, t.status = .running ∧ Ended t below o ∧ qT s o t) (entryFrame m [.ref b0, .int bv, .int iv].toArray 3) := by
    have hl := lv_entry [.ref b0, .int bv, .int iv] (n := 3) (Nat.le_of_ble_eq_true rfl)
    rw [lg_entry_eq]
    generalize (lg_sl [.ref b0, .int bv, .int iv] ++ List.replicate (3 - (lg_sl [.ref b0, .int bv, .int iv]).length) Slot.unset).toArray = ls at hl ⊢
    have hl : lv_has ls 3 [(0, .ref b0), (1, .int bv), (2, .int iv)] := hl
    refine lv_aload_n hx hb dX1_byteAt_0 rfl (lv_at hl 0 rfl) ?_
    refine va_get (D := D) (ci := 2) (v := .ref a0) (C := RX1) (T := TX1) (N := 7) hx hb hts hinX1 hown hK hP 0 rfl rfl 0 (by decide) (hts (.fieldLink RX1 28 "PuzzleBook" "store" "LPuzzleBook$Store;") (by decide +kernel)) (fun _ h9 => h9) rfl dX1_byteAt_1 ?_
    refine lv_iload_n hx hb dX1_byteAt_4 rfl (lv_at hl 1 rfl) ?_
    refine lv_iload_n hx hb dX1_byteAt_5 rfl (lv_at hl 2 rfl) ?_
    refine rd_V (As := [.int bv, .int iv]) (rest := []) ⟨hx, hb, hml, hown, hts⟩ (c_X0_has l D a0 a1 a2 a3 cB cI n L bv iv bz iz hn h1 h2) (cwV 2 hts gBT_has rfl rfl rfl (by decide +kernel) ⟨Nat.le_of_ble_eq_true rfl, Nat.le_of_ble_eq_true rfl⟩) hK hP [3, 4, 5, 6] rfl (ci := 1) rfl rfl (q0 := 3) rfl rfl hl.1 rfl (Nat.le_of_ble_eq_true rfl) dX1_byteAt_6 ⟨Nat.zero_le _, Nat.zero_le _⟩ (fun r1 hr1 => ?_)
    subst hr1
    refine lv_as (y := nI 0) (congrArg nI (b01_f hno)) ?_
    refine j0_ne (tgt := 22) hx hb (nI_toInt (n := 0) (by decide)) dX1_byteAt_9 (by decide) (fun c2 => absurd c2 (by omega)) (fun c2 => ?_)
    intro T hT X
    have htr : e.platform.stackTraces = false := Launch.traces_off hfl X.admits
    obtain ⟨vm₁, cX, kX, hfX, hkX, -, -, X₁, st1⟩ := X.newCold hx (own := RX1) (C := RJx00060) (index := 110) (n := 6) hown (hts (.classLink RX1 110 RJx00060) (by decide +kernel)) (hts (.instantiable RJx00060 6) (by decide +kernel)) (hts (.initialized RJx00060) (by decide +kernel)) (g := F0 m 12 ls []) rfl (by rw [hb]; exact dX1_byteAt_12) (Nat.le_of_ble_eq_true rfl) (Nat.le_of_ble_eq_true rfl)
    have hcellA : ((T.setVm vm₁).pushCell { cls := cX, slots := kX.instanceTypes.map defaultValue, vm := .none }).heap[T.heap.size]? = some (freshCell cX kX) := State.heap_pushCell_size _ _
    generalize (T.setVm vm₁).pushCell { cls := cX, slots := kX.instanceTypes.map defaultValue, vm := .none } = T1 at X₁ st1 hcellA
    obtain ⟨ks, cfs, is, sa, -, -, -, -, -, hev⟩ := Cond.stringRef_spec hown (hts (.stringRef RX1 112 "there is no such block or byte") (by decide +kernel))
    have st2 := X₁.ldcString hx hown (hts (.stringRef RX1 112 "there is no such block or byte") (by decide +kernel)) hev (g := F0 m 16 ls [.ref T.heap.size, .ref T.heap.size]) rfl (by rw [hb]; exact dX1_byteAt_16)
    obtain ⟨U, hsteps, hrun, hend, hW, hsame, ce, hce, K9⟩ := X₁.ctorThrowS hx htr (own := RX1) (cls := RJx00060) (names := upB) (ic := 114) hown (by decide +kernel) (by decide +kernel)
      (fun y hy => (own_of y hy).elim (fun h => hts y (List.mem_append_right _ (List.mem_cons_of_mem _ h))) (fun h => hZ y h _))
      (fun y hy => by cases hy) hfX hkX hcellA (by rw [hT]; exact Nat.le_refl _) (msg := .ref sa) rfl
      (g := F0 m 18 ls [.ref sa, .ref T.heap.size, .ref T.heap.size]) rfl (by rw [hml]; exact hl.1) rfl rfl (rest := []) rfl
      (by rw [hb]; exact dX1_byteAt_18) (by rw [hb]; exact dX1_byteAt_21) (covers_of_empty (B.noHandlers hcw) _) (by decide) (Nat.le_of_ble_eq_true rfl) hlocks
    refine ⟨U, st1 _ ?_, .threw T.heap.size, hrun, hend, T.heap.size, ce, rfl, by rw [hT]; exact Nat.le_refl _, hce, by rw [K9.vm]; rfl, K9.cls, hW, hsame⟩
    show Steps p.tables e below (T1.setTop (F0 m 15 ls [.ref T.heap.size])) _
    jvm_step X₁.here [X₁.here.top, hx, hb, dX1_byteAt_15, Value.category]
    exact st2 _ hsteps
  obtain ⟨t, q1, o, q2, q3, q4⟩ := K s₁ hh0 (Stand.of_body B)
  exact ⟨t, o, q1, q2, q3, q4⟩
end
section
/-! 13: a call that throws, and the law's own catch of it -/
section TC
variable {p : Program} {l : Launch} {e : Env} {R : Room} {s : State} {m : MethodId} {args : Array Value} {below : List Frame} {meth : Method} {c : Code} {T : State} {locs : List Loc} {cells slots : Nat}
/-- a cell that keeps its slots is the cell -/
theorem cell_same {a b : Cell} (h : b = { a with slots := b.slots }) (hz : b.slots.size = a.slots.size) (hs : ∀ i : Nat, b.slots[i]? = a.slots[i]?) : b = a := by
  have hb : b.slots = a.slots := Array.ext_getElem? hs
  rw [hb] at h
  rw [h]
/-- an invokevirtual whose method throws: the note of the throw lies over the caller's frame -/
theorem th_call (X : Stand p l e R s m args below meth c T locs cells slots) (hexec : p.tables.exec = Jvm.exec) {own C : String} {index : Nat} {y : MethodName} {bytes : ByteArray} {maxL : Nat} {ret : Option FieldType}
    (hown : s.vm.findClass own = some m.cls) (hlink : (Cond.methodLink own index y).before args s = true) (hinst : (Cond.instanceMethod y).before args s = true) (hsel : (Cond.selects C y y).before args s = true)
    (hcode : (Cond.code y bytes maxL ret).before args s = true) (hini : (Cond.initialized y.cls).before args s = true) (hy : y.cls ≠ "java/lang/invoke/MethodHandle" ∧ y.cls ≠ "java/lang/invoke/VarHandle")
    {ws : List Cond} {rm : Room} {Pc : Array Value → State → Prop} (hM : MetFree l y (headSpec ws rm) Pc (fun _ _ _ _ _ => True) (fun _ st o t => qT st o t)) (hbl : FrameBlind Pc)
    (hws : ∀ w ∈ ws, ∀ (a' : Array Value) (U : State), s.WarmedH U.vm → w.before a' U = true) (hcw : Cond.code y bytes maxL ret ∈ ws) (hfr : rm.frames + 1 ≤ R.frames) (hlo : 8 + (maxL + 11) + rm.locals ≤ R.locals) (hce : cells + rm.cells ≤ R.cells) (hsl : slots + rm.slots ≤ R.slots)
    {b : Addr} {cellB : Cell} (hcell : T.heap[b]? = some cellB) (hobj : cellB.vm.isStatics = false) (hcls : s.vm.findClass C = some cellB.cls)
    {g : JFrame} (hg : g.method = m) (hsize : g.locals.size = c.maxLocals) {argsL rest : List Value} (hlen : ∀ sig, parseMethodDescriptor y.desc = some sig → argsL.length = sig.parameters.length)
    (hstack : g.stack = argsL.reverse ++ .ref b :: rest) (hWt : 2 * g.monitorRoom + (rest.map fun v => v.category).sum ≤ 8) (hdg : decode c.code g.pc = .ok (.invokevirtual index, 3))
    (hpre : ∀ vm₁, s.WarmedH vm₁ → Pc (Value.ref b :: argsL).toArray (T.setVm vm₁)) :
    ∃ (x : Addr) (ce : Cell) (U : State), Stand p l e R s m args below meth c U locs (cells + 1) (slots + 6) ∧ U.heap[x]? = some ce ∧ ce.vm.isStatics = false ∧ s.vm.findClass RJx00060 = some ce.cls ∧ T.heap.size ≤ U.heap.size ∧ (∀ q : Nat, q < T.heap.size → U.heap[q]? = T.heap[q]?) ∧
      Steps p.tables e below (T.setTop g) ((U.setTop { g with stack := rest }).pushFrame (.throwing x)) := by
  obtain ⟨mk, methM, hnamed, hmethM, hstM, habM⟩ := Cond.instanceMethod_spec hinst
  obtain ⟨methM', cM, hmethM', hcM, -, hlM, -, -, -, hsigM⟩ := Cond.code_spec hnamed hcode
  cases hmethM.symm.trans hmethM'
  obtain ⟨c2, r2, m2, q1, q2, q3, q4, kP, hkP, hkPi⟩ := Cond.selects_spec hsel
  cases hcls.symm.trans q1
  cases (State.methodFound?_of_named hnamed hy).symm.trans q2
  cases hnamed.symm.trans q3
  have hselP : selectMethod e.platform s.vm cellB.cls mk = .method mk := by rw [Launch.admits_selectMethod X.admits]; exact q4
  obtain ⟨vm₁, X₁, hstep⟩ := X.invokevirtual hexec hown hlink hnamed hmethM hstM hkP hkPi hy (a := b) (cell := cellB) hcell
    (fun z h => by rw [h] at hobj; cases hobj) hselP hmethM habM hkP hkPi (g := g) hg (argsL := argsL) (rest := rest) (hlen _ hsigM) hstack hdg
  have hW1 := X₁.warmed
  have hn1 := X₁.named hnamed
  have hpc := hpre vm₁ hW1
  have hheap1 : (T.setVm vm₁).heap = T.heap := rfl
  generalize hU : T.setVm vm₁ = V at X₁ hstep hW1 hn1 hpc hheap1
  subst hg
  have hat : At V g.method c below := X₁.here
  obtain ⟨kY, hkY, -⟩ := className_of_methodNamed hn1
  have hiY : kY.init = .initialized := Cond.initialized_spec (findClass_of_methodNamed hn1) hkY (word_at (a' := args) hW1 (Or.inl (by first | rfl | simp [Cond.onTables, Cond.keeps, Cond.steady])) hini)
  obtain ⟨mY, cY, hmY, hcY, -, hlY, -, -, -, -⟩ := Cond.code_spec hn1 (hws _ hcw (Value.ref b :: argsL).toArray V hW1)
  have happ : (headSpec ws rm).appliesLoose y e.platform (V.calling { g with stack := rest } mk (Value.ref b :: argsL).toArray) = true :=
    Spec.appliesLoose_calling (g := { g with stack := rest }) hat hdg hn1 hkY hiY
      (X₁.room_calling (g := { g with stack := rest }) (R' := (headSpec ws rm).room) hsize hmY hcY hfr (by rw [hlY]; show 2 * g.monitorRoom + (rest.map fun v => v.category).sum + (maxL + 11) + rm.locals ≤ R.locals; omega) hce hsl) (atoms_intro fun w hw => hws w hw _ _ hW1)
  obtain ⟨mid, hmid⟩ := hat.above
  have hfrm : (V.setTop { g with stack := rest }).frames = (.java { g with stack := rest } :: mid) ++ below := by rw [State.frames_setTop' _ hat.top, hmid]; rfl
  obtain ⟨o, t, hgo, -, hend, hq⟩ := Steps.callFree hM p X₁.admits X₁.cas X₁.clock (acts := []) hfrm happ (hbl _ _ _ _ hpc) trivial
  have hq0 : qT (V.calling { g with stack := rest } mk (Value.ref b :: argsL).toArray) o t := hq
  rw [State.frames_setTop' _ hat.top] at hend
  obtain ⟨x, ce, rfl, -, hce1, hce2, hce3, hWt2, hsb⟩ := hq0
  obtain ⟨e2, z2, z3, z4, z5, z6⟩ := id hsb
  have hWV : V.WarmedH t.vm := hWt2
  obtain ⟨g₀, hg0⟩ := Option.isSome_iff_exists.mp hat.top
  obtain ⟨r, hr⟩ := State.topJava?_eq_some.mp hg0
  have hft : t.frames = .throwing x :: .java { g with stack := rest } :: V.frames.tail := hend
  have hte : t = ((({ V with heap := t.heap, slotsUsed := t.slotsUsed } : State).setVm t.vm).setTop { g with stack := rest }).pushFrame (.throwing x) := by
    have k1 : t = ({ t with vm := (V.calling { g with stack := rest } mk (Value.ref b :: argsL).toArray).vm } : State).setVm t.vm := rfl
    rw [e2] at k1
    have k2 : t = ({ (V.calling { g with stack := rest } mk (Value.ref b :: argsL).toArray).setFrames t.frames with heap := t.heap, slotsUsed := t.slotsUsed } : State).setVm t.vm := k1
    have hr' : (({ V with heap := t.heap, slotsUsed := t.slotsUsed } : State).setVm t.vm).frames = .java g₀ :: r := hr
    refine k2.trans ?_
    rw [hft, State.calling_eq hat.top, State.setFrames_setFrames, State.pushFrame, State.frames_setTop _ hr', State.setTop_of_frames _ hr', State.setFrames_setFrames, hr]
    rfl
  have hsame : V.sameButNew ({ V with heap := t.heap, slotsUsed := t.slotsUsed } : State) [] 1 6 := by
    refine ⟨?_, z2, z3, z4, z5, z6⟩
    obtain ⟨tt, ht, -⟩ := State.frames_cons hr
    show ({ V with heap := t.heap, slotsUsed := t.slotsUsed } : State) = { V.setFrames V.frames with heap := t.heap, slotsUsed := t.slotsUsed }
    rw [State.setFrames_self ht]
  refine ⟨x, ce, ({ V with heap := t.heap, slotsUsed := t.slotsUsed } : State).setVm t.vm, ?_, hce1, hce2, ?_, ?_, ?_, ?_⟩
  · have h9 := X₁.same.trans (hsame.setVm s.vm)
    rw [List.append_nil] at h9
    exact ⟨X₁.admits, X₁.cas, X₁.clock, X₁.frames, X₁.room, X₁.hears, X₁.method, X₁.code, (X₁.here.setHeapUsed t.heap t.slotsUsed).setVm hWV.alike, X₁.tail, State.WarmedH.trans X₁.warmed hWV, X₁.limits, X₁.bytes, h9⟩
  · have h8 : V.vm.findClass RJx00060 = some ce.cls := hce3
    rw [hW1.alike.findClass] at h8
    exact h8
  · show T.heap.size ≤ t.heap.size
    rw [← hheap1]; exact z2
  · intro q hq9
    have hq8 : q < V.heap.size := by rw [hheap1]; exact hq9
    obtain ⟨c', h1, h2, h3, h4⟩ := z6 q V.heap[q] (Array.getElem?_eq_getElem hq8)
    show t.heap[q]? = T.heap[q]?
    have h5 : c' = V.heap[q] := cell_same h2 h3 (fun i => h4 i (by simp))
    rw [← hheap1, Array.getElem?_eq_getElem hq8, ← h5]
    exact h1
  · refine hstep _ fun acts => ?_
    rw [doInvoke_state, ← hte]
    exact hgo
/-- the search through a table of one row, whose class is linked, cold or warm -/
theorem th_find {U : State} {f : JFrame} {a : Addr} {mth : Method} {code0 : Code} (hm : U.vm.method? f.method = some mth) (hc : mth.code = some code0) {x : ExceptionTableEntry} (hsp : code0.exceptionTable.toList = [x]) (hx : covers x f.pc = true) (h0 : x.catchType ≠ 0) {cT : ClassId} {cell : Cell}
    (hl : U.vm.ClassLinks e.platform f.method.cls x.catchType cT) (hcell : U.heap[a]? = some cell) (hobj : ∀ k, cell.vm ≠ .statics k) (hk : ∃ k, U.vm.classes[cell.cls]? = some k) (hkT : ∃ k, U.vm.classes[cT]? = some k) (hfit : U.vm.assignable cell.cls cT = true) (Q : Handler → Pre) (E : CtlPost) (d : Bool) (acts : List Action) :
    wp (findHandler f a) Q E e d acts U ↔ Q (.found x.handlerPc) d acts (U.setVm (U.vm.noted f.method.cls x.catchType (.cls cT))) := by
  rw [_root_.Jvm.W.findHandler_eq hm hc, hsp]
  simp only [covers] at hx
  obtain ⟨g1, g2⟩ := (resolveClass_links e.toSetting hl).op (op := VmOp.resolveClass f.method.cls x.catchType) rfl
  have hal : U.vm.Alike (U.vm.noted f.method.cls x.catchType (.cls cT)) := (Vm.Alike.refl U.vm).noted _ _ _
  obtain ⟨k1, hk1⟩ := hk
  obtain ⟨k2, hk2⟩ := hkT
  obtain ⟨k1', hk1', -⟩ := hal.2.2 _ _ hk1
  obtain ⟨k2', hk2', -⟩ := hal.2.2 _ _ hk2
  have hfit' : (U.vm.noted f.method.cls x.catchType (.cls cT)).assignable cell.cls cT = true := by rw [hal.assignable]; exact hfit
  simp [findHandler.go, hx, h0, g1, g2, hcell, hobj, hk1', hk2', hfit', VmOp.dirties, VmOp.acts]
/-- from the note of the throw to the handler -/
theorem th_catch (X : Stand p l e R s m args below meth c T locs cells slots) (a : Addr) {g : JFrame} (hg : g.method = m) {own name : String} (hown : s.vm.findClass own = some m.cls) {x : ExceptionTableEntry} (hsp : c.exceptionTable.toList = [x]) (hx : covers x g.pc = true) (h0 : x.catchType ≠ 0)
    (hlink : (Cond.classLink own x.catchType name).before args s = true) {cell : Cell} (hcls : s.vm.findClass name = some cell.cls) (hcell : T.heap[a]? = some cell) (hobj : cell.vm.isStatics = false) :
    ∃ vm', Stand p l e R s m args below meth c (T.setVm vm') locs cells slots ∧ ∀ target, Steps p.tables e below ((T.setVm vm').setTop { g with pc := x.handlerPc, stack := [.ref a] }) target → Steps p.tables e below ((T.setTop g).pushFrame (.throwing a)) target := by
  have hpl : e.platform.magicAccessors = ({} : Platform).magicAccessors := by rw [X.admits.platform]
  obtain ⟨c', hc', hcl⟩ := Cond.classLink_spec hown hlink e.platform hpl
  cases hcls.symm.trans hc'
  obtain ⟨dk, _, _, kt, hd, _, _, _, _, hkt, _, hopen⟩ := hcl.here
  have hcl₀ := X.warmed.classLinks hcl
  have hW' : s.WarmedH (T.vm.noted m.cls x.catchType (.cls cell.cls)) := X.warmed.noted hd hopen (State.rightAt_cls hcl)
  have hal := X.warmed.alike
  obtain ⟨kt', hkt', -⟩ := hal.2.2 _ _ hkt
  have hfit : T.vm.assignable cell.cls cell.cls = true := va_asg T.vm cell.cls
  refine ⟨_, X.noted hW', fun target hrest => ?_⟩
  subst hg
  have hfind : ∀ (Q : Handler → Pre) (E : CtlPost) (d : Bool) (acts : List Action), wp (findHandler g a) Q E e d acts ((T.setTop g).pushFrame (.throwing a)) ↔ Q (.found x.handlerPc) d acts (((T.setTop g).pushFrame (.throwing a)).setVm (T.vm.noted g.method.cls x.catchType (.cls cell.cls))) := th_find (e := e) (U := (T.setTop g).pushFrame (.throwing a)) (f := g) (a := a) X.method' X.code hsp hx h0 hcl₀ hcell (VmData.ne_statics_of hobj) ⟨kt', hkt'⟩ ⟨kt', hkt'⟩ hfit
  obtain ⟨hgo, hw⟩ := X.here.throwing a (g := g)
  refine Steps.head hgo hw ?_
  obtain ⟨g₀, hg0⟩ := Option.isSome_iff_exists.mp X.here.top
  obtain ⟨r, hr⟩ := State.topJava?_eq_some.mp hg0
  have hr' : (T.setVm (T.vm.noted g.method.cls x.catchType (.cls cell.cls))).frames = .java g₀ :: r := hr
  have hstep : (stepThrowing e ((T.setTop g).pushFrame (.throwing a)) a (.java g :: T.frames.tail)).Is ((((T.setTop g).pushFrame (.throwing a)).setVm (T.vm.noted g.method.cls x.catchType (.cls cell.cls))).setFrames (.java { g with pc := x.handlerPc, stack := [.ref a] } :: T.frames.tail)) [] := by
    simp only [stepThrowing, searchFrame, vmDo]
    generalize hres : Sem.go _ e false [] _ = res
    obtain ⟨as, rfl, ha⟩ := Sem.eq_ok_of hres (a := Handler.found x.handlerPc) (s' := ((T.setTop g).pushFrame (.throwing a)).setVm (T.vm.noted g.method.cls x.catchType (.cls cell.cls))) (acts' := []) (by simp [hfind _ _ _ _])
    exact ⟨rfl, ha⟩
  rw [stepThread_throwing (frames_entered X.here.top _), hstep.1]
  rw [State.setTop_of_frames _ hr'] at hrest
  have k1 : ∀ (u : State) (v : Vm) (F G : List Frame), ((u.setFrames F).setVm v).setFrames G = (u.setVm v).setFrames G := fun u v F G => by
    have h1 : (u.setFrames F).setVm v = (u.setVm v).setFrames F := rfl
    rw [h1, State.setFrames_setFrames]
  rw [hr, List.tail_cons, State.pushFrame, k1, State.setTop_of_frames _ hr, k1]
  exact hrest
end TC
end
section
/-! 14: the law's own two helpers: cell, byteAt -/
abbrev ty3 (cB cI cL : ClassId) : List (ClassId × FieldType) := [(cB, .byte), (cI, .int), (cL, .long)]
/-- a book, and the law's row of one long -/
abbrev oW (b0 b1 b2 a0 a1 a2 a3 o0 : Nat) (cB cI cL : ClassId) (n : Nat) (L : Lg) (fd : Nat → Nat) (fc op tn : Nat) (eb : Nat → Nat) (ec : Nat) (ov : Nat → Int64) : va_W := bW b0 b1 b2 a0 a1 a2 a3 cB cI n L fd fc op tn eb ec ++ [(o0, .inl (cL, 1, .inr (.inl ov)))]
/-- the words of the law's byteAt -/
def wsLT : List Cond := wsL_byteAt ++ (.classLink RL 13 RJx00060 :: wsBT)
theorem inLT : ∀ w ∈ wsBT, w ∈ wsLT := fun w h => List.mem_append_right _ (List.mem_cons_of_mem _ h)
set_option maxRecDepth 20000 in
theorem gLT : GoodIn wsLT (wsV RL 7 RX1 yX1_byteAt wsX1_byteAt) := goodIn_sub (by decide +kernel) (by decide +kernel)
theorem inLT1 : ∀ w ∈ wsL_byteAt, w ∈ lw_tbl ∧ w.onTables = true ∧ w.keepsFace = true := by decide +kernel
theorem inLT2 : Cond.classLink RL 13 RJx00060 ∈ lw_tbl ∧ (Cond.classLink RL 13 RJx00060).onTables = true ∧ (Cond.classLink RL 13 RJx00060).keepsFace = true := by decide +kernel
/-- the words go with the tables -/
theorem payLT {args : Array Value} {s : State} (hts : ∀ w ∈ lw_tbl, w.before args s = true) : ∀ w ∈ wsLT, ∀ (a' : Array Value) (U : State), s.WarmedH U.vm → w.before a' U = true := by
  intro w hw a' U hW
  rcases List.mem_append.mp hw with h | h
  · exact fc_at hW (inLT1 w h).2.1 (inLT1 w h).2.2 (hts w (inLT1 w h).1)
  · rcases List.mem_cons.mp h with h | h
    · rw [h]; exact fc_at hW inLT2.2.1 inLT2.2.2 (hts _ inLT2.1)
    · exact payBT hts w h a' U hW
theorem payBT' {args : Array Value} {s : State} (hts : ∀ w ∈ wsLT, w.before args s = true) : ∀ w ∈ wsBT, ∀ (a' : Array Value) (U : State), s.WarmedH U.vm → w.before a' U = true := by
  intro w hw a' U hW
  have h0 := hts w (inLT w hw)
  rcases List.mem_append.mp hw with h | h
  · exact fc_at hW (inBT1 w h).2.1 (inBT1 w h).2.2 h0
  · rcases List.mem_cons.mp h with h | h
    · subst h; exact sr_at hW h0
    · exact fc_at hW (inBT3 w h).2.1 (inBT3 w h).2.2 h0
/-- a start with the exception's statics -/
def lP (av : List Value) (D : va_G) (w : va_W) (tys : List (ClassId × FieldType)) (sz : Nat) : Array Value → State → Prop := va_Pc av (fun U => U.heap.size = sz ∧ va_P D vwCl w U.heap ∧ va_K D vwCl tys U ∧ va_D (fun _ => True) w ∧ spOK U)
theorem lP_blind {av : List Value} {D : va_G} {w : va_W} {tys : List (ClassId × FieldType)} {sz : Nat} : FrameBlind (lP av D w tys sz) := by
  intro a U g mk q
  obtain ⟨q0, q1, qP, qK, qD, qS⟩ := q
  exact ⟨q0, q1, qP, va_K.moved (u := U) (U := U.calling g mk a) (Vm.Alike.refl U.vm) qK, qD, spOK_call qS g mk a⟩
/-- the head of a method with an exception table -/
theorem met_l {l : Launch} {y : MethodName} {ws ws' : List Cond} {rm : Room} {cc : ByteArray} {maxL : Nat} {ret : Option FieldType} {hh : List (Nat × Nat × Nat × Nat)} {av : List Value} {D : va_G} {w w1 : va_W} {tys : List (ClassId × FieldType)} {sz mc ms : Nat} {r : Int32} (hy : plainName y.cls = true) (hw : ws = .codeWith y cc maxL ret hh :: ws') (hlen : (lg_sl av).length ≤ maxL)
    (body : ∀ (p : Program) (e : Env) (s : State) (m : MethodId) (below : List Frame) (meth : Method) (c : Code), p.tables.exec = Jvm.exec → c.code = cc → c.maxLocals = maxL → meth.sig.returnType = ret → meth.locks = false → s.vm.findClass y.cls = some m.cls → (c.exceptionTable.toList.map (fun h => (h.startPc, h.endPc, h.handlerPc, h.catchType)) = hh) → (∀ x ∈ ws, x.before av.toArray s = true) → va_P D vwCl w s.heap → va_K D vwCl tys s → ∀ A : Nat → Prop, va_D A w → (∀ q : Nat, s.heap.size ≤ q → A q) → va_S A s.heap s.heap [] → spOK s → ∀ ls : Array Slot, lv_has ls maxL (lv_args 0 av) →
      W p l e rm s m av.toArray below meth c s.heap [] 0 0 (MQ below (wQi r D w1 A) av.toArray s mc ms A) (F0 m 0 ls [])) : Met l y ws rm (lP av D w tys sz) (wQi r D w1 (va_A w sz)) mc ms (va_A w sz) := by
  refine va_MetW (cc := cc) (maxL := maxL) (ret := ret) (hh := hh) hy hw ?_
  intro p e s m args below meth c s₁ B hml hv
  obtain ⟨rfl, hsz, hP, hK, hD0, hSp⟩ := hv
  subst hsz
  have hts := atoms_spec (ws := ws) B.pre
  obtain ⟨m9, meth9, c9, hn9, hm9, hc9, -, -, hex, -⟩ := Cond.codeWith_spec (hts (.codeWith y cc maxL ret hh) (by rw [hw]; exact List.mem_cons_self))
  cases B.named.symm.trans hn9
  cases B.method.symm.trans hm9
  cases (Stand.of_body B).code.symm.trans hc9
  have hl := lv_entry av hlen
  rw [lg_entry_eq]
  exact body p e s m below meth c B.exec B.bytes hml B.returns B.notSynchronized (findClass_of_methodNamed B.named) hex hts hP hK _ (hD0.self (sz := s.heap.size)) (fun q h => Or.inr h) va_S.rf hSp _ hl
set_option maxRecDepth 100000 in
set_option maxHeartbeats 4000000 in
/-- the law's byteAt, where the byte is there: 0, and the byte in the row -/
theorem c_L_byteAt (l : Launch) (D : va_G) (b0 b1 b2 a0 a1 a2 a3 o0 : Nat) (cB cI cL : ClassId) (n : Nat) (L : Lg) (fd : Nat → Nat) (fc op tn : Nat) (eb : Nat → Nat) (ec : Nat) (ov : Nat → Int64) (bk i sz : Nat) (hn : n ≤ 64) (hg : ∀ j, L.1 j < 256) (h1 : bk < n) (h2 : i < 64) : Met l yL_byteAt wsLT ({ frames := 8, cells := 0, slots := 0, locals := 122 }) (lP [.ref b0, .int (nI bk), .int (nI i), .ref o0] D (oW b0 b1 b2 a0 a1 a2 a3 o0 cB cI cL n L fd fc op tn eb ec ov) (ty3 cB cI cL) sz) (wQi (nI 0) D (oW b0 b1 b2 a0 a1 a2 a3 o0 cB cI cL n L fd fc op tn eb ec (vp_updL ov 0 (lN (L.1 (64 * bk + i))))) (va_A (oW b0 b1 b2 a0 a1 a2 a3 o0 cB cI cL n L fd fc op tn eb ec ov) sz)) 0 0 (va_A (oW b0 b1 b2 a0 a1 a2 a3 o0 cB cI cL n L fd fc op tn eb ec ov) sz) := by
  refine met_l (by decide) rfl (Nat.le_of_ble_eq_true rfl) ?_
  intro p e s m below meth c hx hb hml hr hlocks hown hex hts hP hK A hD hA hS hSp ls hl
  have hown : s.vm.findClass RL = some m.cls := hown
  have hl : lv_has ls 5 [(0, .ref b0), (1, .int (nI bk)), (2, .int (nI i)), (3, .ref o0)] := hl
  have hK2 : va_K D vwCl (ty2 cB cI) s := hK.sub [0, 1] rfl
  refine lv_aload_n hx hb dL_byteAt_0 rfl (lv_at hl 3 rfl) ?_
  refine lv_iconst (v := nI 0) hx hb dL_byteAt_1 (by decide +kernel) ?_
  refine lv_aload_n hx hb dL_byteAt_2 rfl (lv_at hl 0 rfl) ?_
  refine lv_iload_n hx hb dL_byteAt_3 rfl (lv_at hl 1 rfl) ?_
  refine lv_iload_n hx hb dL_byteAt_4 rfl (lv_at hl 2 rfl) ?_
  refine rd_V (As := [.int (nI bk), .int (nI i)]) (rest := [.int (nI 0), .ref o0]) ⟨hx, hb, hml, hown, hts⟩ (c_X1_byteAt l D b0 b1 b2 a0 a1 a2 a3 cB cI n L fd fc op tn eb ec bk i hn hg h1 h2) (cwV 2 hts gLT rfl rfl rfl (by decide +kernel) ⟨Nat.le_of_ble_eq_true rfl, Nat.le_of_ble_eq_true rfl⟩) hK2 hP [0, 1, 2, 3, 4, 5, 6] rfl (ci := 2) rfl rfl (q0 := 0) rfl rfl hl.1 rfl (Nat.le_of_ble_eq_true rfl) dL_byteAt_5 ⟨Nat.zero_le _, Nat.zero_le _⟩ (fun r hr9 => ?_)
  subst hr9
  have g9 := hg (64 * bk + i)
  refine lv_i2l (v := lN (L.1 (64 * bk + i))) hx hb dL_byteAt_8 (nI_l (by omega)) ?_
  refine va_last hx hb hK hP hD hS 7 2 rfl rfl (i := nI 0) (vp_in_nI (by decide) (by decide)) dL_byteAt_9 (fun H locs hP hD hS => ?_)
  rw [show (nI 0).toNatClampNeg = 0 from by decide +kernel] at hP hD
  refine lv_goto (tgt := 17) hx hb dL_byteAt_10 (by decide) ?_
  refine lv_iconst (v := nI 0) hx hb dL_byteAt_17 (by decide +kernel) ?_
  exact rt_wi hx hb hr hlocks hP hD hS dL_byteAt_18 rfl
set_option maxRecDepth 100000 in
set_option maxHeartbeats 4000000 in
/-- the law's byteAt, where the byte isn't there: 1 -/
theorem t_L_byteAt (l : Launch) (hfl : l.flags = flags0) (D : va_G) (b0 b1 b2 a0 a1 a2 a3 o0 : Nat) (cB cI cL : ClassId) (n : Nat) (L : Lg) (fd : Nat → Nat) (fc op tn : Nat) (eb : Nat → Nat) (ec : Nat) (ov : Nat → Int64) (bv iv : Int32) (bz iz : Int) (sz : Nat) (hn : n ≤ 64) (h1 : bv.toInt = bz) (h2 : iv.toInt = iz) (hno : ¬ (0 ≤ bz ∧ bz < (n : Int) ∧ 0 ≤ iz ∧ iz < 64)) : Met l yL_byteAt wsLT ({ frames := 8, cells := 1, slots := 6, locals := 122 }) (lP [.ref b0, .int bv, .int iv, .ref o0] D (oW b0 b1 b2 a0 a1 a2 a3 o0 cB cI cL n L fd fc op tn eb ec ov) (ty3 cB cI cL) sz) (wQi (nI 1) D (oW b0 b1 b2 a0 a1 a2 a3 o0 cB cI cL n L fd fc op tn eb ec ov) (va_A (oW b0 b1 b2 a0 a1 a2 a3 o0 cB cI cL n L fd fc op tn eb ec ov) sz)) 1 6 (va_A (oW b0 b1 b2 a0 a1 a2 a3 o0 cB cI cL n L fd fc op tn eb ec ov) sz) := by
  refine met_l (by decide) rfl (Nat.le_of_ble_eq_true rfl) ?_
  intro p e s m below meth c hx hb hml hr hlocks hown hex hts hP hK A hD hA hS hSp ls hl
  have hown : s.vm.findClass RL = some m.cls := hown
  have hl : lv_has ls 5 [(0, .ref b0), (1, .int bv), (2, .int iv), (3, .ref o0)] := hl
  have hK2 : va_K D vwCl (ty2 cB cI) s := hK.sub [0, 1] rfl
  refine lv_aload_n hx hb dL_byteAt_0 rfl (lv_at hl 3 rfl) ?_
  refine lv_iconst (v := nI 0) hx hb dL_byteAt_1 (by decide +kernel) ?_
  refine lv_aload_n hx hb dL_byteAt_2 rfl (lv_at hl 0 rfl) ?_
  refine lv_iload_n hx hb dL_byteAt_3 rfl (lv_at hl 1 rfl) ?_
  refine lv_iload_n hx hb dL_byteAt_4 rfl (lv_at hl 2 rfl) ?_
  intro T hT X
  obtain ⟨x0, hx0⟩ : ∃ x0 : ExceptionTableEntry, c.exceptionTable.toList = [x0] ∧ x0.startPc = 0 ∧ x0.endPc = 10 ∧ x0.handlerPc = 13 ∧ x0.catchType = 13 := by
    cases hq : c.exceptionTable.toList with
    | nil => rw [hq] at hex; cases hex
    | cons a t =>
      rw [hq] at hex
      cases t with
      | nil =>
        simp only [List.map_cons, List.map_nil, List.cons.injEq, Prod.mk.injEq, and_true] at hex
        exact ⟨a, rfl, hex.1, hex.2.1, hex.2.2.1, hex.2.2.2⟩
      | cons b u => simp at hex
  obtain ⟨hsp, e1, e2, e3, e4⟩ := hx0
  have hPs : va_P D vwCl (bW b0 b1 b2 a0 a1 a2 a3 cB cI n L fd fc op tn eb ec) s.heap := hP.sub [0, 1, 2, 3, 4, 5, 6] rfl
  obtain ⟨cellB, hcB, hoB, hclB⟩ := va_recv (ci := 2) (q0 := 0) hK2 hPs rfl rfl
  obtain ⟨x, ce, U, X2, hce1, hce2, hce3, hsz2, hkeep, hst⟩ := th_call X hx (own := RL) (C := RX1) (index := 7) (y := yX1_byteAt) (bytes := cX1_byteAt) (maxL := 3) (ret := some .int) hown (hts (.methodLink RL 7 yX1_byteAt) (by decide +kernel)) (hts (.instanceMethod yX1_byteAt) (by decide +kernel)) (hts (.selects RX1 yX1_byteAt yX1_byteAt) (by decide +kernel)) (hts (.code yX1_byteAt cX1_byteAt 3 (some .int)) (by decide +kernel)) (hts (.initialized RX1) (by decide +kernel)) ⟨by decide +kernel, by decide +kernel⟩
    (t_X1_byteAt l hfl D b0 b1 b2 a0 a1 a2 a3 cB cI n L fd fc op tn eb ec bv iv bz iz hn h1 h2 hno) (fun a U g mk q => ⟨q.1, q.2.1, va_K.moved (u := U) (U := U.calling g mk a) (Vm.Alike.refl U.vm) q.2.2.1, spOK_call q.2.2.2 g mk a⟩) (payBT' hts) List.mem_cons_self (Nat.le_of_ble_eq_true rfl) (Nat.le_of_ble_eq_true rfl) (Nat.le_of_ble_eq_true rfl) (Nat.le_of_ble_eq_true rfl)
    (by rw [hT]; exact hcB) hoB hclB (g := F0 m 5 ls [.int iv, .int bv, .ref b0, .int (nI 0), .ref o0]) rfl (by rw [hml]; exact hl.1) (argsL := [.int bv, .int iv]) (rest := [.int (nI 0), .ref o0]) (fun sig hsig => by
      have h9 : parseMethodDescriptor yX1_byteAt.desc = some sig := hsig
      have h8 : (parseMethodDescriptor yX1_byteAt.desc).map (fun d => d.parameters.length) = some 2 := by decide +kernel
      rw [h9] at h8
      exact (Option.some.inj h8).symm) rfl (lv_room (Nat.le_of_ble_eq_true rfl)) (by rw [hb]; exact dL_byteAt_5)
    (fun vm₁ hW₁ => ⟨rfl, by rw [show (T.setVm vm₁).heap = s.heap from hT]; exact hPs, va_K.moved hW₁.alike hK2, spOK_old hSp (show (Cond.initialized "java/lang/Throwable").before #[] s = true from hts (.initialized "java/lang/Throwable") (by decide +kernel)) hW₁ (fun q _ => by rw [show (T.setVm vm₁).heap = s.heap from hT])⟩)
  obtain ⟨vm', X3, st3⟩ := th_catch X2 x (g := F0 m 5 ls [.int (nI 0), .ref o0]) rfl (own := RL) (name := RJx00060) hown hsp (by simp only [covers, e1, e2]; decide) (by rw [e4]; decide) (by rw [e4]; exact hts (.classLink RL 13 RJx00060) (by decide +kernel)) hce3 hce1 hce2
  have hP3 : va_P D vwCl (oW b0 b1 b2 a0 a1 a2 a3 o0 cB cI cL n L fd fc op tn eb ec ov) U.heap := hP.kept (fun k q hq => by
    have hlt := (hP k q hq).lt
    rw [hkeep q.1 (by rw [hT]; exact hlt), hT])
  have K : W p l e ({ frames := 8, cells := 1, slots := 6, locals := 122 }) s m [Value.ref b0, .int bv, .int iv, .ref o0].toArray below meth c U.heap [] 1 6 (MQ below (wQi (nI 1) D (oW b0 b1 b2 a0 a1 a2 a3 o0 cB cI cL n L fd fc op tn eb ec ov) A) [Value.ref b0, .int bv, .int iv, .ref o0].toArray s 1 6 A) (F0 m 13 ls [.ref x]) := by
    refine lv_astore (lv' := [(4, .ref x), (0, .ref b0), (1, .int bv), (2, .int iv), (3, .ref o0)]) hx hb dL_byteAt_13 hl (by decide) rfl (fun ls hl => ?_)
    refine lv_iconst (v := nI 1) hx hb dL_byteAt_15 (by decide +kernel) ?_
    exact W.iret hx hb hr (fun t ht _ => ⟨⟨nI 1, (), rfl, rfl, by rw [ht]; exact hP3, hD⟩, by rw [ht]; rw [← hT]; exact hsz2, fun q hq _ => by rw [ht, hkeep q (by rw [hT]; exact hq), hT]⟩) (fun q h => absurd h List.not_mem_nil) dL_byteAt_16 hlocks
  obtain ⟨t, k1, k2⟩ := K (U.setVm vm') rfl X3
  refine ⟨t, hst.trans (st3 _ ?_), k2⟩
  rw [e3]
  exact k1
end
