/-! NAMES AND WORDS, by program: what the tables say of each class, method and link of the small machine. -/
def gTbl : List Jvm.Cond := lw_tbl.filter goodWord
theorem gTbl_of {w : Jvm.Cond} (i : Nat) (h : lw_tbl[i]? = some w) (hg : goodWord w = true) : w ∈ gTbl := List.mem_filter.mpr ⟨List.mem_of_getElem? h, hg⟩
def mTL : List (List (String × String × String × Bool)) := [
  [("CardCastle$Cards", "rules", "LCardCastle$Rules;", true), ("CardCastle$Cards", "stiffness", "[I", true), ("CardCastle$Cards", "bends", "[I", true), ("CardCastle$Cards", "spots", "[I", true), ("CardCastle$Cards", "heap", "[I", true), ("CardCastle$Cards", "heaped", "I", false)],
  [("CardCastle$Castle", "rules", "LCardCastle$Rules;", true), ("CardCastle$Castle", "scale", "LCardCastle$Scale;", true), ("CardCastle$Castle", "cards", "LCardCastle$Cards;", true), ("CardCastle$Castle", "grid", "LCardCastle$Grid;", true), ("CardCastle$Castle", "log", "LCardCastle$FallLog;", true), ("CardCastle$Castle", "time", "I", false), ("CardCastle$Castle", "tremors", "I", false)],
  [("CardCastle$FallLog", "parts", "[I", true), ("CardCastle$FallLog", "causes", "[I", true), ("CardCastle$FallLog", "noted", "I", false)],
  [("CardCastle$Grid", "first", "[I", true), ("CardCastle$Grid", "second", "[I", true), ("CardCastle$Grid", "angle", "[I", true), ("CardCastle$Grid", "wobble", "[I", true), ("CardCastle$Grid", "flat", "[I", true)],
  [("CardCastle$History", "castles", "[LCardCastle$Castle;", true), ("CardCastle$History", "kept", "I", false), ("CardCastle$History", "next", "I", false)],
  [("CardCastle$Input", "bytes", "[B", true), ("CardCastle$Input", "length", "I", false)],
  [("CardCastle$Parser", "rules", "LCardCastle$Rules;", true), ("CardCastle$Parser", "castle", "LCardCastle$Castle;", true), ("CardCastle$Parser", "tokens", "LCardCastle$Tokens;", true), ("CardCastle$Parser", "error", "I", false), ("CardCastle$Parser", "errorAt", "I", false), ("CardCastle$Parser", "level", "I", false), ("CardCastle$Parser", "column", "I", false)],
  [("CardCastle$Rules", "settings", "[I", true), ("CardCastle$Rules", "names", "[I", true), ("CardCastle$Rules", "stiffness", "[I", true), ("CardCastle$Rules", "weights", "[I", true), ("CardCastle$Rules", "cards", "I", false)],
  [("CardCastle$Scale", "pairLoads", "[I", true), ("CardCastle$Scale", "flatLoads", "[I", true)],
  [("CardCastle$Text", "signs", "[B", true), ("CardCastle$Text", "length", "I", false)],
  [("CardCastle$Tokens", "input", "LCardCastle$Input;", true), ("CardCastle$Tokens", "end", "I", false), ("CardCastle$Tokens", "next", "I", false), ("CardCastle$Tokens", "start", "I", false), ("CardCastle$Tokens", "kind", "I", false), ("CardCastle$Tokens", "value", "I", false)],
  [("CardCastle", "input", "LCardCastle$Input;", true), ("CardCastle", "rules", "LCardCastle$Rules;", true), ("CardCastle", "scale", "LCardCastle$Scale;", true), ("CardCastle", "parser", "LCardCastle$Parser;", true), ("CardCastle", "castle", "LCardCastle$Castle;", true), ("CardCastle", "trial", "LCardCastle$Castle;", true), ("CardCastle", "history", "LCardCastle$History;", true), ("CardCastle", "saved", "[LCardCastle$Castle;", true), ("CardCastle", "isSaved", "[Z", true), ("CardCastle", "text", "LCardCastle$Text;", true), ("CardCastle", "loaded", "Z", false)],
  [("CardCastleLaw$Draws", "cells", "[I", true), ("CardCastleLaw$Draws", "at", "I", false)],
  [("CardCastleLaw$World", "text", "Ljava/lang/StringBuilder;", true), ("CardCastleLaw$World", "set", "[I", true), ("CardCastleLaw$World", "stiff", "[I", true), ("CardCastleLaw$World", "weight", "[I", true), ("CardCastleLaw$World", "where", "[I", true), ("CardCastleLaw$World", "level", "[I", true), ("CardCastleLaw$World", "column", "[I", true), ("CardCastleLaw$World", "less", "[I", true), ("CardCastleLaw$World", "bent", "[I", true), ("CardCastleLaw$World", "heap", "[I", true), ("CardCastleLaw$World", "one", "[[I", true), ("CardCastleLaw$World", "two", "[[I", true), ("CardCastleLaw$World", "angle", "[[I", true), ("CardCastleLaw$World", "wobble", "[[I", true), ("CardCastleLaw$World", "flat", "[[I", true), ("CardCastleLaw$World", "log", "[[I", true), ("CardCastleLaw$World", "causes", "[I", true), ("CardCastleLaw$World", "cards", "I", false), ("CardCastleLaw$World", "heaped", "I", false), ("CardCastleLaw$World", "time", "I", false), ("CardCastleLaw$World", "falls", "I", false), ("CardCastleLaw$World", "tremors", "I", false)],
  [("java/lang/AbstractStringBuilder", "value", "[B", false), ("java/lang/AbstractStringBuilder", "coder", "B", false), ("java/lang/AbstractStringBuilder", "maybeLatin1", "Z", false), ("java/lang/AbstractStringBuilder", "count", "I", false)],
  [("java/lang/String", "value", "[B", true), ("java/lang/String", "coder", "B", true), ("java/lang/String", "hash", "I", false), ("java/lang/String", "hashIsZero", "Z", false)]]
def mT (c : Nat) : u_T := fun k => (mTL.getD c []).getD k ("", "", "", false)
def mTN (c : Nat) : Nat := (mTL.getD c []).length
def mTyL : List (List FieldType) := [
  [.object "CardCastle$Rules", .array (.int), .array (.int), .array (.int), .array (.int), .int],
  [.object "CardCastle$Rules", .object "CardCastle$Scale", .object "CardCastle$Cards", .object "CardCastle$Grid", .object "CardCastle$FallLog", .int, .int],
  [.array (.int), .array (.int), .int],
  [.array (.int), .array (.int), .array (.int), .array (.int), .array (.int)],
  [.array (.object "CardCastle$Castle"), .int, .int],
  [.array (.byte), .int],
  [.object "CardCastle$Rules", .object "CardCastle$Castle", .object "CardCastle$Tokens", .int, .int, .int, .int],
  [.array (.int), .array (.int), .array (.int), .array (.int), .int],
  [.array (.int), .array (.int)],
  [.array (.byte), .int],
  [.object "CardCastle$Input", .int, .int, .int, .int, .int],
  [.object "CardCastle$Input", .object "CardCastle$Rules", .object "CardCastle$Scale", .object "CardCastle$Parser", .object "CardCastle$Castle", .object "CardCastle$Castle", .object "CardCastle$History", .array (.object "CardCastle$Castle"), .array (.boolean), .object "CardCastle$Text", .boolean],
  [.array (.int), .int],
  [.object "java/lang/StringBuilder", .array (.int), .array (.int), .array (.int), .array (.int), .array (.int), .array (.int), .array (.int), .array (.int), .array (.int), .array (.array (.int)), .array (.array (.int)), .array (.array (.int)), .array (.array (.int)), .array (.array (.int)), .array (.array (.int)), .array (.int), .int, .int, .int, .int, .int],
  [.array (.byte), .byte, .boolean, .int],
  [.array (.byte), .byte, .int, .boolean]]
def mTy (c k : Nat) : FieldType := (mTyL.getD c []).getD k .int
def mCN (c : Nat) : String := mCls.getD c ""
abbrev mcl : List vw_C := [(mCN 0, mT 0, mTN 0), (mCN 1, mT 1, mTN 1), (mCN 2, mT 2, mTN 2), (mCN 3, mT 3, mTN 3), (mCN 4, mT 4, mTN 4), (mCN 5, mT 5, mTN 5), (mCN 6, mT 6, mTN 6), (mCN 7, mT 7, mTN 7), (mCN 8, mT 8, mTN 8), (mCN 9, mT 9, mTN 9), (mCN 10, mT 10, mTN 10), (mCN 11, mT 11, mTN 11), (mCN 12, mT 12, mTN 12), (mCN 13, mT 13, mTN 13), (mCN 14, mT 14, mTN 14), (mCN 15, mT 15, mTN 15)]
theorem mcl_at {c : Nat} (h : c < 16) : mcl[c]? = some (mCN c, mT c, mTN c) := by
  match c, h with
  | 0, _ => rfl
  | 1, _ => rfl
  | 2, _ => rfl
  | 3, _ => rfl
  | 4, _ => rfl
  | 5, _ => rfl
  | 6, _ => rfl
  | 7, _ => rfl
  | 8, _ => rfl
  | 9, _ => rfl
  | 10, _ => rfl
  | 11, _ => rfl
  | 12, _ => rfl
  | 13, _ => rfl
  | 14, _ => rfl
  | 15, _ => rfl
  | n + 16, h => exact absurd h (by omega)
set_option maxRecDepth 100000 in
theorem mTy_ok {c k : Nat} (hc : c < 16) (hk : k < mTN c) : parseFieldDescriptor (mT c k).2.2.1 = some (mTy c k) := by
  have h : ∀ c, c < 16 → ∀ k, k < mTN c → parseFieldDescriptor (mT c k).2.2.1 = some (mTy c k) := by decide +kernel
  exact h c hc k hk
set_option maxRecDepth 100000 in
theorem mT_ne {c : Nat} (hc : c < 16) : ∀ a, a < mTN c → ∀ b, b < mTN c → a ≠ b → (mT c a).2.1 ≠ (mT c b).2.1 := by
  have h : ∀ c, c < 16 → ∀ a, a < mTN c → ∀ b, b < mTN c → a ≠ b → (mT c a).2.1 ≠ (mT c b).2.1 := by decide +kernel
  exact h c hc
def mLayP : List (List Nat) := [[223, 225, 227, 229, 231, 233], [251, 253, 255, 257, 259, 261, 263], [196, 198, 200], [174, 176, 178, 180, 182], [335, 337, 339], [81, 83], [305, 307, 309, 311, 313, 315, 317], [111, 113, 115, 117, 119], [134, 136], [352, 354], [281, 283, 285, 287, 289, 291], [369, 371, 373, 375, 377, 379, 381, 383, 385, 387, 389], [412, 414], [777, 779, 781, 783, 785, 787, 789, 791, 793, 795, 797, 799, 801, 803, 805, 807, 809, 811, 813, 815, 817, 819], [578, 580, 582, 584], [1647, 1649, 1651, 1653]]
set_option maxRecDepth 100000 in
theorem mLay_ok {c : Nat} (hc : c < 16) : ∀ w ∈ u_ws (mCN c) (mT c) (mTN c), w ∈ gTbl := by
  have h : ∀ c, c < 16 → ∀ k, k < mTN c → lw_tbl[(mLayP.getD c []).getD k 0]? = some (u_lay (mCN c) (mT c) k) ∧ goodWord (u_lay (mCN c) (mT c) k) = true := by decide +kernel
  intro w hw
  obtain ⟨k, hk, rfl⟩ := List.mem_map.mp hw
  obtain ⟨h1, h2⟩ := h c hc k (List.mem_range.mp hk)
  exact gTbl_of _ h1 h2
set_option maxRecDepth 100000 in
theorem mInst_ok {c : Nat} (hc : c < 16) : Jvm.Cond.instantiable (mCN c) (mTN c) ∈ gTbl ∧ Jvm.Cond.initialized (mCN c) ∈ gTbl := by
  have h : ∀ c, c < 16 → (lw_tbl[([204, 148, 186, 154, 323, 71, 140, 88, 124, 343, 267, 63, 405, 423, 429, 1596] : List Nat).getD c 0]? = some (Jvm.Cond.instantiable (mCN c) (mTN c)) ∧ goodWord (Jvm.Cond.instantiable (mCN c) (mTN c)) = true) ∧ (lw_tbl[([52, 49, 51, 50, 54, 45, 48, 46, 47, 55, 53, 44, 30, 31, 33, 34] : List Nat).getD c 0]? = some (Jvm.Cond.initialized (mCN c)) ∧ goodWord (Jvm.Cond.initialized (mCN c)) = true) := by decide +kernel
  obtain ⟨⟨h1, h2⟩, h3, h4⟩ := h c hc
  exact ⟨gTbl_of _ h1 h2, gTbl_of _ h3 h4⟩
def mNm_0 : List Jvm.MethodName := [⟨"CardCastle$Cards", "<init>", "(LCardCastle$Rules;)V"⟩, ⟨"CardCastle$Cards", "clear", "()V"⟩, ⟨"CardCastle$Cards", "isHeld", "(I)Z"⟩, ⟨"CardCastle$Cards", "copyFrom", "(LCardCastle$Cards;)V"⟩, ⟨"CardCastle$Cards", "putOnHeap", "(I)V"⟩, ⟨"CardCastle$Cards", "bend", "(I)V"⟩, ⟨"CardCastle$Cards", "handSize", "()I"⟩, ⟨"CardCastle$Cards", "handCard", "(I)I"⟩, ⟨"CardCastle$Cards", "isBuiltIn", "(I)Z"⟩, ⟨"CardCastle$Cards", "takeFromHeap", "(I)V"⟩, ⟨"CardCastle$Castle", "<init>", "(LCardCastle$Rules;LCardCastle$Scale;)V"⟩, ⟨"CardCastle$Castle", "clear", "()V"⟩, ⟨"CardCastle$Castle", "pairFits", "(II)Z"⟩, ⟨"CardCastle$Castle", "hasPair", "(II)Z"⟩, ⟨"CardCastle$Castle", "hasFlat", "(II)Z"⟩, ⟨"CardCastle$Castle", "putPair", "(IIII)V"⟩, ⟨"CardCastle$Castle", "flatFits", "(II)Z"⟩, ⟨"CardCastle$Castle", "putFlat", "(II)V"⟩, ⟨"CardCastle$Castle", "copyFrom", "(LCardCastle$Castle;)V"⟩, ⟨"CardCastle$Castle", "settle", "()I"⟩]
def mNm_1 : List Jvm.MethodName := [⟨"CardCastle$Castle", "firstOverloaded", "()I"⟩, ⟨"CardCastle$Castle", "weightOfFlat", "(I)I"⟩, ⟨"CardCastle$Castle", "weightOfPair", "(I)I"⟩, ⟨"CardCastle$Castle", "reserveAt", "(I)I"⟩, ⟨"CardCastle$Castle", "strengthAt", "(I)I"⟩, ⟨"CardCastle$Castle", "stiffnessAt", "(I)I"⟩, ⟨"CardCastle$Castle", "dropPair", "(IIII)V"⟩, ⟨"CardCastle$Castle", "dropCard", "(III)V"⟩, ⟨"CardCastle$Castle", "dropFlat", "(IIII)V"⟩, ⟨"CardCastle$Castle", "whereIs", "(I)I"⟩, ⟨"CardCastle$Castle", "isFlat", "(I)Z"⟩, ⟨"CardCastle$Castle", "weakestSpot", "()I"⟩, ⟨"CardCastle$Castle", "letPairFall", "(II)I"⟩, ⟨"CardCastle$Castle", "builtWeight", "()I"⟩, ⟨"CardCastle$Castle", "sumOfReserves", "()I"⟩, ⟨"CardCastle$Castle", "quake", "(II)I"⟩, ⟨"CardCastle$Castle", "wobbleBy", "(III)I"⟩, ⟨"CardCastle$Castle", "shakenDownBy", "(III)Z"⟩, ⟨"CardCastle$Castle", "pullOut", "(I)I"⟩, ⟨"CardCastle$Castle", "flatToHand", "(I)V"⟩]
def mNm_2 : List Jvm.MethodName := [⟨"CardCastle$Castle", "isBare", "(II)Z"⟩, ⟨"CardCastle$Castle", "pairToHand", "(I)V"⟩, ⟨"CardCastle$FallLog", "<init>", "()V"⟩, ⟨"CardCastle$FallLog", "clear", "()V"⟩, ⟨"CardCastle$FallLog", "copyFrom", "(LCardCastle$FallLog;)V"⟩, ⟨"CardCastle$FallLog", "note", "(IIIII)V"⟩, ⟨"CardCastle$FallLog", "notedFor", "(I)I"⟩, ⟨"CardCastle$FallLog", "told", "()I"⟩, ⟨"CardCastle$FallLog", "part", "(II)I"⟩, ⟨"CardCastle$Grid", "<init>", "()V"⟩, ⟨"CardCastle$Grid", "clear", "()V"⟩, ⟨"CardCastle$Grid", "pairAt", "(I)Z"⟩, ⟨"CardCastle$Grid", "flatAt", "(I)Z"⟩, ⟨"CardCastle$Grid", "copyFrom", "(LCardCastle$Grid;)V"⟩, ⟨"CardCastle$Grid", "pairs", "()I"⟩, ⟨"CardCastle$Grid", "flats", "()I"⟩, ⟨"CardCastle$Grid", "shakiestSpot", "()I"⟩, ⟨"CardCastle$Grid", "firstAbove", "(I)I"⟩, ⟨"CardCastle$Grid", "calmDown", "(I)I"⟩, ⟨"CardCastle$History", "<init>", "(LCardCastle$Rules;LCardCastle$Scale;)V"⟩]
def mNm_3 : List Jvm.MethodName := [⟨"CardCastle$History", "keep", "(LCardCastle$Castle;)V"⟩, ⟨"CardCastle$History", "bringBack", "(LCardCastle$Castle;)V"⟩, ⟨"CardCastle$Input", "<init>", "()V"⟩, ⟨"CardCastle$Input", "addFour", "(I)V"⟩, ⟨"CardCastle$Input", "byteAt", "(I)I"⟩, ⟨"CardCastle$Input", "nameAt", "(II)I"⟩, ⟨"CardCastle$Parser", "<init>", "(LCardCastle$Input;LCardCastle$Scale;)V"⟩, ⟨"CardCastle$Parser", "readText", "(I)Z"⟩, ⟨"CardCastle$Parser", "readTable", "()Z"⟩, ⟨"CardCastle$Parser", "fail", "(I)Z"⟩, ⟨"CardCastle$Parser", "readNumber", "(II)Z"⟩, ⟨"CardCastle$Parser", "readLine", "()Z"⟩, ⟨"CardCastle$Parser", "readCardLine", "()Z"⟩, ⟨"CardCastle$Parser", "readLeanLine", "()Z"⟩, ⟨"CardCastle$Parser", "readPlace", "(I)Z"⟩, ⟨"CardCastle$Parser", "readHeldCard", "(I)I"⟩, ⟨"CardCastle$Parser", "readLayLine", "()Z"⟩, ⟨"CardCastle$Rules", "<init>", "()V"⟩, ⟨"CardCastle$Rules", "clear", "()V"⟩, ⟨"CardCastle$Rules", "cardNamed", "(I)I"⟩]
def mNm_4 : List Jvm.MethodName := [⟨"CardCastle$Rules", "columnsAt", "(I)I"⟩, ⟨"CardCastle$Rules", "spotOf", "(II)I"⟩, ⟨"CardCastle$Rules", "copyFrom", "(LCardCastle$Rules;)V"⟩, ⟨"CardCastle$Rules", "places", "()I"⟩, ⟨"CardCastle$Scale", "<init>", "()V"⟩, ⟨"CardCastle$Scale", "weigh", "(LCardCastle$Castle;)V"⟩, ⟨"CardCastle$Scale", "weighPlace", "(LCardCastle$Castle;II)V"⟩, ⟨"CardCastle$Text", "<init>", "()V"⟩, ⟨"CardCastle$Text", "put", "(I)V"⟩, ⟨"CardCastle$Text", "putName", "(I)V"⟩, ⟨"java/util/Arrays", "checkLength", "(II)V"⟩, ⟨"CardCastle$Text", "putNumber", "(I)V"⟩, ⟨"CardCastle$Tokens", "<init>", "(LCardCastle$Input;)V"⟩, ⟨"CardCastle$Tokens", "begin", "(I)V"⟩, ⟨"CardCastle$Tokens", "step", "()V"⟩, ⟨"CardCastle$Tokens", "endOfRun", "(CC)I"⟩, ⟨"CardCastle$Tokens", "numberAt", "(I)I"⟩, ⟨"CardCastle$Tokens", "isWord", "(Ljava/lang/String;)Z"⟩, ⟨"CardCastle", "<init>", "()V"⟩, ⟨"CardCastle", "append", "(IIIII)I"⟩]
def mNm_5 : List Jvm.MethodName := [⟨"CardCastle", "parseError", "()I"⟩, ⟨"CardCastle", "errorPosition", "()I"⟩, ⟨"CardCastle", "parseError", "()I"⟩, ⟨"CardCastle", "undoable", "()I"⟩, ⟨"CardCastle", "load", "(I)I"⟩, ⟨"CardCastle", "needBuffered", "(I)V"⟩, ⟨"CardCastle", "needIndex", "(II)V"⟩, ⟨"CardCastle", "need", "(Z)V"⟩, ⟨"CardCastle", "rightShare", "(I)I"⟩, ⟨"CardCastle", "leftShare", "(I)I"⟩, ⟨"CardCastle", "strengthFor", "(II)I"⟩, ⟨"CardCastle", "levelOf", "(I)I"⟩, ⟨"CardCastle", "columnOf", "(I)I"⟩, ⟨"CardCastle", "find", "(I)I"⟩, ⟨"CardCastle", "needText", "()V"⟩, ⟨"CardCastle", "needState", "(Z)V"⟩, ⟨"CardCastle", "count", "(I)I"⟩, ⟨"CardCastle", "needRange", "(III)V"⟩, ⟨"CardCastle", "setting", "(I)I"⟩, ⟨"CardCastle", "card", "(II)I"⟩]
def mNm_6 : List Jvm.MethodName := [⟨"CardCastle", "needCard", "(I)V"⟩, ⟨"CardCastle", "pair", "(III)I"⟩, ⟨"CardCastle", "needPlace", "(II)V"⟩, ⟨"CardCastle", "flat", "(III)I"⟩, ⟨"CardCastle", "fall", "(II)I"⟩, ⟨"CardCastle", "inHand", "(I)I"⟩, ⟨"CardCastle", "onHeap", "(I)I"⟩, ⟨"CardCastle", "canLean", "(II)Z"⟩, ⟨"CardCastle", "canLay", "(II)Z"⟩, ⟨"CardCastle", "top", "()I"⟩, ⟨"CardCastle", "weakest", "()I"⟩, ⟨"CardCastle", "placeCode", "(I)I"⟩, ⟨"CardCastle", "shakiest", "()I"⟩, ⟨"CardCastle", "supported", "(II)I"⟩, ⟨"CardCastle", "above", "(II)I"⟩, ⟨"CardCastle", "onTable", "(I)I"⟩, ⟨"CardCastle", "weight", "()I"⟩, ⟨"CardCastle", "meanReserve", "()D"⟩, ⟨"CardCastle", "builtShare", "()F"⟩, ⟨"CardCastle", "strengthOf", "(III)I"⟩]
def mNm_7 : List Jvm.MethodName := [⟨"CardCastle", "parseError", "()I"⟩, ⟨"CardCastle", "fallsBy", "(II)I"⟩, ⟨"CardCastle", "needTremor", "(II)V"⟩, ⟨"CardCastle", "parseError", "()I"⟩, ⟨"CardCastle", "leastForce", "(I)I"⟩, ⟨"CardCastle", "parseError", "()I"⟩, ⟨"CardCastle", "parseError", "()I"⟩, ⟨"CardCastle", "parseError", "()I"⟩, ⟨"CardCastle", "parseError", "()I"⟩, ⟨"CardCastle", "parseError", "()I"⟩, ⟨"CardCastle", "parseError", "()I"⟩, ⟨"CardCastle", "parseError", "()I"⟩, ⟨"CardCastle", "writeLevel", "(I)I"⟩, ⟨"CardCastle", "writePair", "(II)I"⟩, ⟨"CardCastle", "writeFalls", "()I"⟩, ⟨"CardCastle", "causeLetter", "(I)C"⟩, ⟨"CardCastle", "textByte", "(I)I"⟩, ⟨"CardCastle", "lean", "(IIIII)I"⟩, ⟨"CardCastle", "lay", "(III)I"⟩, ⟨"CardCastle", "pull", "(I)I"⟩]
def mNm_8 : List Jvm.MethodName := [⟨"CardCastle", "takeDown", "(II)I"⟩, ⟨"CardCastle", "lift", "(II)I"⟩, ⟨"CardCastle", "pickUp", "(I)I"⟩, ⟨"CardCastle", "tremor", "(II)I"⟩, ⟨"CardCastle", "tick", "(I)I"⟩, ⟨"CardCastle", "turn", "(III)I"⟩, ⟨"CardCastle", "smooth", "(I)I"⟩, ⟨"CardCastle", "undo", "()I"⟩, ⟨"CardCastle", "save", "(I)I"⟩, ⟨"CardCastle", "restore", "(I)I"⟩, ⟨"CardCastleLaw$Draws", "<init>", "([I)V"⟩, ⟨"CardCastleLaw$Draws", "next", "(II)I"⟩, ⟨"CardCastleLaw$World", "<init>", "(LCardCastleLaw$Draws;)V"⟩, ⟨"CardCastleLaw$World", "empties", "()V"⟩, ⟨"CardCastleLaw$World", "builds", "(LCardCastleLaw$Draws;)V"⟩, ⟨"CardCastleLaw$World", "isPlace", "(II)Z"⟩, ⟨"CardCastleLaw$World", "hands", "()I"⟩, ⟨"CardCastleLaw$World", "mayLean", "(II)Z"⟩, ⟨"CardCastleLaw$World", "hasPair", "(II)Z"⟩, ⟨"CardCastleLaw$World", "hasFlat", "(II)Z"⟩]
def mNm_9 : List Jvm.MethodName := [⟨"CardCastleLaw$World", "hand", "(I)I"⟩, ⟨"CardCastleLaw$World", "leans", "(IIIII)V"⟩, ⟨"CardCastleLaw$World", "goes", "(IIII)V"⟩, ⟨"CardCastleLaw$World", "mayLay", "(II)Z"⟩, ⟨"CardCastleLaw$World", "lays", "(III)V"⟩, ⟨"CardCastleLaw$World", "settles", "()V"⟩, ⟨"CardCastleLaw$World", "oneFalls", "(Z)Z"⟩, ⟨"CardCastleLaw$World", "reserve", "(II)I"⟩, ⟨"CardCastleLaw$World", "strength", "(II)I"⟩, ⟨"CardCastleLaw$World", "load", "(II)I"⟩, ⟨"CardCastleLaw$World", "flatLoad", "(II)I"⟩, ⟨"CardCastleLaw$World", "fallsPair", "(IIII)V"⟩, ⟨"CardCastleLaw$World", "notes", "(IIII)V"⟩, ⟨"CardCastleLaw$World", "down", "(III)V"⟩, ⟨"CardCastleLaw$World", "fallsFlat", "(IIII)V"⟩, ⟨"CardCastleLaw$World", "tick", "(I)I"⟩, ⟨"CardCastleLaw$World", "tremor", "(II)I"⟩, ⟨"CardCastleLaw$World", "pull", "(I)I"⟩, ⟨"CardCastleLaw$World", "<init>", "(LCardCastleLaw$World;)V"⟩, ⟨"java/lang/StringBuilder", "<init>", "()V"⟩]
def mNm_10 : List Jvm.MethodName := [⟨"java/lang/StringBuilder", "<init>", "(Ljava/lang/String;)V"⟩, ⟨"java/lang/StringBuilder", "append", "(Ljava/lang/String;)Ljava/lang/StringBuilder;"⟩, ⟨"java/lang/StringBuilder", "append", "(C)Ljava/lang/StringBuilder;"⟩, ⟨"java/lang/StringBuilder", "append", "(I)Ljava/lang/StringBuilder;"⟩, ⟨"java/lang/StringBuilder", "toString", "()Ljava/lang/String;"⟩, ⟨"java/lang/StringBuilder", "append", "(Ljava/lang/String;)Ljava/lang/AbstractStringBuilder;"⟩, ⟨"java/lang/StringBuilder", "length", "()I"⟩, ⟨"java/lang/AbstractStringBuilder", "<init>", "(I)V"⟩, ⟨"java/lang/AbstractStringBuilder", "<init>", "(Ljava/lang/String;)V"⟩, ⟨"java/lang/AbstractStringBuilder", "append", "(Ljava/lang/String;)Ljava/lang/AbstractStringBuilder;"⟩, ⟨"java/lang/AbstractStringBuilder", "append", "(C)Ljava/lang/AbstractStringBuilder;"⟩, ⟨"java/lang/AbstractStringBuilder", "append", "(I)Ljava/lang/AbstractStringBuilder;"⟩, ⟨"java/lang/AbstractStringBuilder", "ensureCapacityInternal", "(I)V"⟩, ⟨"java/lang/AbstractStringBuilder", "newCapacity", "(I)I"⟩, ⟨"java/lang/AbstractStringBuilder", "isLatin1", "()Z"⟩, ⟨"java/lang/AbstractStringBuilder", "inflateIfNeededFor", "(Ljava/lang/String;)V"⟩, ⟨"java/lang/AbstractStringBuilder", "putStringAt", "(ILjava/lang/String;)V"⟩, ⟨"java/lang/AbstractStringBuilder", "getValue", "()[B"⟩, ⟨"java/lang/AbstractStringBuilder", "length", "()I"⟩, ⟨"java/lang/Integer", "getChars", "(II[B)I"⟩]
def mNm_11 : List Jvm.MethodName := [⟨"java/lang/Integer", "stringSize", "(I)I"⟩, ⟨"java/lang/String", "<init>", "(Ljava/lang/StringBuilder;)V"⟩, ⟨"java/lang/String", "<init>", "(Ljava/lang/AbstractStringBuilder;Ljava/lang/Void;)V"⟩, ⟨"java/lang/String", "length", "()I"⟩, ⟨"java/lang/String", "charAt", "(I)C"⟩, ⟨"java/lang/String", "getBytes", "([BIB)V"⟩, ⟨"java/lang/String", "coder", "()B"⟩, ⟨"java/lang/String", "isLatin1", "()Z"⟩, ⟨"java/lang/String", "checkIndex", "(II)V"⟩, ⟨"java/lang/StringLatin1", "charAt", "([BI)C"⟩, ⟨"java/lang/StringLatin1", "canEncode", "(C)Z"⟩, ⟨"java/util/Arrays", "copyOf", "([BI)[B"⟩, ⟨"java/util/Arrays", "copyOfRange", "([BII)[B"⟩, ⟨"java/util/Arrays", "copyOfRangeByte", "([BII)[B"⟩, ⟨"jdk/internal/util/ArraysSupport", "newLength", "(III)I"⟩, ⟨"jdk/internal/util/Preconditions", "checkIndex", "(IILjava/util/function/BiFunction;)I"⟩, ⟨"CardCastleLaw", "tell", "(LCardCastle;Ljava/lang/String;)I"⟩, ⟨"CardCastleLaw", "feeds", "(LCardCastle;Ljava/lang/String;)Z"⟩, ⟨"CardCastleLaw", "thrown", "(LCardCastle;I[I)I"⟩, ⟨"CardCastleLaw", "calls", "(LCardCastle;I[I)J"⟩]
def mNm_12 : List Jvm.MethodName := [⟨"CardCastleLaw", "isLike", "(LCardCastle;LCardCastleLaw$World;)Z"⟩, ⟨"CardCastleLaw", "act", "(LCardCastle;LCardCastleLaw$World;LCardCastleLaw$Draws;)Z"⟩, ⟨"CardCastleLaw", "looks", "(LCardCastle;LCardCastleLaw$World;)Z"⟩, ⟨"CardCastleLaw", "isText", "(LCardCastle;ILjava/lang/String;)Z"⟩, ⟨"CardCastleLaw", "falls", "(LCardCastle;LCardCastleLaw$World;)Z"⟩, ⟨"CardCastleLaw", "law", "([I)Z"⟩]
def mNm_L : List (List Jvm.MethodName) := [mNm_0, mNm_1, mNm_2, mNm_3, mNm_4, mNm_5, mNm_6, mNm_7, mNm_8, mNm_9, mNm_10, mNm_11, mNm_12]
def mNm (m : Nat) : Jvm.MethodName := (mNm_L.getD (m / 20) []).getD (m % 20) ⟨"", "", ""⟩
def mByt_0 : List ByteArray := [prog_2_method_1_code, prog_2_method_3_code, prog_2_method_4_code, prog_2_method_2_code, prog_2_method_9_code, prog_2_method_8_code, prog_2_method_6_code, prog_2_method_7_code, prog_2_method_5_code, prog_2_method_10_code, prog_3_method_1_code, prog_3_method_3_code, prog_3_method_6_code, prog_3_method_4_code, prog_3_method_5_code, prog_3_method_19_code, prog_3_method_7_code, prog_3_method_20_code, prog_3_method_2_code, prog_3_method_23_code]
def mByt_1 : List ByteArray := [prog_3_method_24_code, prog_3_method_15_code, prog_3_method_14_code, prog_3_method_13_code, prog_3_method_12_code, prog_3_method_11_code, prog_3_method_30_code, prog_3_method_32_code, prog_3_method_31_code, prog_3_method_9_code, prog_3_method_10_code, prog_3_method_17_code, prog_3_method_29_code, prog_3_method_16_code, prog_3_method_18_code, prog_3_method_25_code, prog_3_method_26_code, prog_3_method_27_code, prog_3_method_28_code, prog_3_method_22_code]
def mByt_2 : List ByteArray := [prog_3_method_8_code, prog_3_method_21_code, prog_4_method_1_code, prog_4_method_3_code, prog_4_method_2_code, prog_4_method_4_code, prog_4_method_6_code, prog_4_method_5_code, prog_4_method_7_code, prog_5_method_1_code, prog_5_method_3_code, prog_5_method_4_code, prog_5_method_5_code, prog_5_method_2_code, prog_5_method_6_code, prog_5_method_7_code, prog_5_method_8_code, prog_5_method_9_code, prog_5_method_10_code, prog_6_method_1_code]
def mByt_3 : List ByteArray := [prog_6_method_2_code, prog_6_method_3_code, prog_7_method_1_code, prog_7_method_2_code, prog_7_method_3_code, prog_7_method_4_code, prog_8_method_1_code, prog_8_method_2_code, prog_8_method_4_code, prog_8_method_3_code, prog_8_method_10_code, prog_8_method_5_code, prog_8_method_6_code, prog_8_method_7_code, prog_8_method_9_code, prog_8_method_11_code, prog_8_method_8_code, prog_9_method_1_code, prog_9_method_3_code, prog_9_method_7_code]
def mByt_4 : List ByteArray := [prog_9_method_4_code, prog_9_method_5_code, prog_9_method_2_code, prog_9_method_6_code, prog_10_method_1_code, prog_10_method_2_code, prog_10_method_3_code, prog_11_method_1_code, prog_11_method_2_code, prog_11_method_4_code, prog_33_method_131_code, prog_11_method_3_code, prog_12_method_1_code, prog_12_method_2_code, prog_12_method_3_code, prog_12_method_4_code, prog_12_method_5_code, prog_12_method_6_code, prog_1_method_1_code, prog_1_method_2_code]
def mByt_5 : List ByteArray := [prog_1_method_4_code, prog_1_method_5_code, prog_1_method_4_code, prog_1_method_52_code, prog_1_method_3_code, prog_1_method_59_code, prog_1_method_56_code, prog_1_method_57_code, prog_1_method_69_code, prog_1_method_68_code, prog_1_method_70_code, prog_1_method_65_code, prog_1_method_66_code, prog_1_method_7_code, prog_1_method_60_code, prog_1_method_55_code, prog_1_method_8_code, prog_1_method_58_code, prog_1_method_9_code, prog_1_method_10_code]
def mByt_6 : List ByteArray := [prog_1_method_61_code, prog_1_method_11_code, prog_1_method_62_code, prog_1_method_12_code, prog_1_method_13_code, prog_1_method_14_code, prog_1_method_15_code, prog_1_method_16_code, prog_1_method_17_code, prog_1_method_18_code, prog_1_method_19_code, prog_1_method_67_code, prog_1_method_20_code, prog_1_method_21_code, prog_1_method_22_code, prog_1_method_23_code, prog_1_method_24_code, prog_1_method_25_code, prog_1_method_26_code, prog_1_method_27_code]
def mByt_7 : List ByteArray := [prog_1_method_4_code, prog_1_method_29_code, prog_1_method_63_code, prog_1_method_4_code, prog_1_method_30_code, prog_1_method_4_code, prog_1_method_4_code, prog_1_method_4_code, prog_1_method_4_code, prog_1_method_4_code, prog_1_method_4_code, prog_1_method_4_code, prog_1_method_37_code, prog_1_method_38_code, prog_1_method_39_code, prog_1_method_71_code, prog_1_method_40_code, prog_1_method_41_code, prog_1_method_42_code, prog_1_method_43_code]
def mByt_8 : List ByteArray := [prog_1_method_44_code, prog_1_method_45_code, prog_1_method_46_code, prog_1_method_47_code, prog_1_method_48_code, prog_1_method_49_code, prog_1_method_50_code, prog_1_method_51_code, prog_1_method_53_code, prog_1_method_54_code, prog_14_method_1_code, prog_14_method_2_code, prog_15_method_1_code, prog_15_method_3_code, prog_15_method_14_code, prog_15_method_4_code, prog_15_method_10_code, prog_15_method_7_code, prog_15_method_5_code, prog_15_method_6_code]
def mByt_9 : List ByteArray := [prog_15_method_9_code, prog_15_method_12_code, prog_15_method_13_code, prog_15_method_8_code, prog_15_method_11_code, prog_15_method_24_code, prog_15_method_23_code, prog_15_method_18_code, prog_15_method_15_code, prog_15_method_17_code, prog_15_method_16_code, prog_15_method_21_code, prog_15_method_19_code, prog_15_method_20_code, prog_15_method_22_code, prog_15_method_27_code, prog_15_method_25_code, prog_15_method_26_code, prog_15_method_2_code, prog_28_method_1_code]
def mByt_10 : List ByteArray := [prog_28_method_3_code, prog_28_method_7_code, prog_28_method_14_code, prog_28_method_15_code, prog_28_method_42_code, prog_28_method_80_code, prog_28_method_93_code, prog_17_method_2_code, prog_17_method_3_code, prog_17_method_22_code, prog_17_method_31_code, prog_17_method_32_code, prog_17_method_9_code, prog_17_method_10_code, prog_17_method_68_code, prog_17_method_71_code, prog_17_method_73_code, prog_17_method_64_code, prog_17_method_6_code, prog_23_method_12_code]
def mByt_11 : List ByteArray := [prog_23_method_13_code, prog_27_method_53_code, prog_27_method_150_code, prog_27_method_54_code, prog_27_method_56_code, prog_27_method_147_code, prog_27_method_152_code, prog_27_method_154_code, prog_27_method_155_code, prog_29_method_2_code, prog_29_method_3_code, prog_33_method_121_code, prog_33_method_132_code, prog_33_method_133_code, prog_34_method_27_code, prog_35_method_11_code, method_3_code, method_2_code, method_5_code, method_4_code]
def mByt_12 : List ByteArray := [method_6_code, method_7_code, method_9_code, method_8_code, method_10_code, code]
def mByt_L : List (List ByteArray) := [mByt_0, mByt_1, mByt_2, mByt_3, mByt_4, mByt_5, mByt_6, mByt_7, mByt_8, mByt_9, mByt_10, mByt_11, mByt_12]
def mByt (m : Nat) : ByteArray := (mByt_L.getD (m / 20) []).getD (m % 20) .empty
def mRT_0 : List (Option FieldType) := [none, none, (some .boolean), none, none, none, (some .int), (some .int), (some .boolean), none, none, none, (some .boolean), (some .boolean), (some .boolean), none, (some .boolean), none, none, (some .int)]
def mRT_1 : List (Option FieldType) := [(some .int), (some .int), (some .int), (some .int), (some .int), (some .int), none, none, none, (some .int), (some .boolean), (some .int), (some .int), (some .int), (some .int), (some .int), (some .int), (some .boolean), (some .int), none]
def mRT_2 : List (Option FieldType) := [(some .boolean), none, none, none, none, none, (some .int), (some .int), (some .int), none, none, (some .boolean), (some .boolean), none, (some .int), (some .int), (some .int), (some .int), (some .int), none]
def mRT_3 : List (Option FieldType) := [none, none, none, none, (some .int), (some .int), none, (some .boolean), (some .boolean), (some .boolean), (some .boolean), (some .boolean), (some .boolean), (some .boolean), (some .boolean), (some .int), (some .boolean), none, none, (some .int)]
def mRT_4 : List (Option FieldType) := [(some .int), (some .int), none, (some .int), none, none, none, none, none, none, none, none, none, none, none, (some .int), (some .int), (some .boolean), none, (some .int)]
def mRT_5 : List (Option FieldType) := [(some .int), (some .int), (some .int), (some .int), (some .int), none, none, none, (some .int), (some .int), (some .int), (some .int), (some .int), (some .int), none, none, (some .int), none, (some .int), (some .int)]
def mRT_6 : List (Option FieldType) := [none, (some .int), none, (some .int), (some .int), (some .int), (some .int), (some .boolean), (some .boolean), (some .int), (some .int), (some .int), (some .int), (some .int), (some .int), (some .int), (some .int), (some .double), (some .float), (some .int)]
def mRT_7 : List (Option FieldType) := [(some .int), (some .int), none, (some .int), (some .int), (some .int), (some .int), (some .int), (some .int), (some .int), (some .int), (some .int), (some .int), (some .int), (some .int), (some .char), (some .int), (some .int), (some .int), (some .int)]
def mRT_8 : List (Option FieldType) := [(some .int), (some .int), (some .int), (some .int), (some .int), (some .int), (some .int), (some .int), (some .int), (some .int), none, (some .int), none, none, none, (some .boolean), (some .int), (some .boolean), (some .boolean), (some .boolean)]
def mRT_9 : List (Option FieldType) := [(some .int), none, none, (some .boolean), none, none, (some .boolean), (some .int), (some .int), (some .int), (some .int), none, none, none, none, (some .int), (some .int), (some .int), none, none]
def mRT_10 : List (Option FieldType) := [none, (some (.object "java/lang/StringBuilder")), (some (.object "java/lang/StringBuilder")), (some (.object "java/lang/StringBuilder")), (some (.object "java/lang/String")), (some (.object "java/lang/AbstractStringBuilder")), (some .int), none, none, (some (.object "java/lang/AbstractStringBuilder")), (some (.object "java/lang/AbstractStringBuilder")), (some (.object "java/lang/AbstractStringBuilder")), none, (some .int), (some .boolean), none, none, (some (.array (.byte))), (some .int), (some .int)]
def mRT_11 : List (Option FieldType) := [(some .int), none, none, (some .int), (some .char), none, (some .byte), (some .boolean), none, (some .char), (some .boolean), (some (.array (.byte))), (some (.array (.byte))), (some (.array (.byte))), (some .int), (some .int), (some .int), (some .boolean), (some .int), (some .long)]
def mRT_12 : List (Option FieldType) := [(some .boolean), (some .boolean), (some .boolean), (some .boolean), (some .boolean), (some .boolean)]
def mRT_L : List (List (Option FieldType)) := [mRT_0, mRT_1, mRT_2, mRT_3, mRT_4, mRT_5, mRT_6, mRT_7, mRT_8, mRT_9, mRT_10, mRT_11, mRT_12]
def mRT (m : Nat) : (Option FieldType) := (mRT_L.getD (m / 20) []).getD (m % 20) none
def mHH_0 : List (Option (List (Nat × Nat × Nat × Nat))) := [none, none, none, none, none, none, none, none, none, none, none, none, none, none, none, none, none, none, none, none]
def mHH_1 : List (Option (List (Nat × Nat × Nat × Nat))) := [none, none, none, none, none, none, none, none, none, none, none, none, none, none, none, none, none, none, none, none]
def mHH_2 : List (Option (List (Nat × Nat × Nat × Nat))) := [none, none, none, none, none, none, none, none, none, none, none, none, none, none, none, none, none, none, none, none]
def mHH_3 : List (Option (List (Nat × Nat × Nat × Nat))) := [none, none, none, none, none, none, none, none, none, none, none, none, none, none, none, none, none, none, none, none]
def mHH_4 : List (Option (List (Nat × Nat × Nat × Nat))) := [none, none, none, none, none, none, none, none, none, none, none, none, none, none, none, none, none, none, none, none]
def mHH_5 : List (Option (List (Nat × Nat × Nat × Nat))) := [none, none, none, none, none, none, none, none, none, none, none, none, none, none, none, none, none, none, none, none]
def mHH_6 : List (Option (List (Nat × Nat × Nat × Nat))) := [none, none, none, none, none, none, none, none, none, none, none, none, none, none, none, none, none, none, none, none]
def mHH_7 : List (Option (List (Nat × Nat × Nat × Nat))) := [none, none, none, none, none, none, none, none, none, none, none, none, none, none, none, none, none, none, none, none]
def mHH_8 : List (Option (List (Nat × Nat × Nat × Nat))) := [none, none, none, none, none, none, none, none, none, none, none, none, none, none, none, none, none, none, none, none]
def mHH_9 : List (Option (List (Nat × Nat × Nat × Nat))) := [none, none, none, none, none, none, none, none, none, none, none, none, none, none, none, none, none, none, none, none]
def mHH_10 : List (Option (List (Nat × Nat × Nat × Nat))) := [none, none, none, none, none, none, none, none, none, none, none, none, none, none, none, none, none, none, none, none]
def mHH_11 : List (Option (List (Nat × Nat × Nat × Nat))) := [none, none, none, none, none, none, none, none, none, none, none, none, none, none, none, none, none, none, (some [(13, 31, 32, 125), (13, 31, 36, 127), (13, 31, 40, 129)]), none]
def mHH_12 : List (Option (List (Nat × Nat × Nat × Nat))) := [none, none, none, none, none, none]
def mHH_L : List (List (Option (List (Nat × Nat × Nat × Nat)))) := [mHH_0, mHH_1, mHH_2, mHH_3, mHH_4, mHH_5, mHH_6, mHH_7, mHH_8, mHH_9, mHH_10, mHH_11, mHH_12]
def mHH (m : Nat) : (Option (List (Nat × Nat × Nat × Nat))) := (mHH_L.getD (m / 20) []).getD (m % 20) none
def mWord (y : Nat) : Jvm.Cond := match mHH y with
  | none => .code (mNm y) (mByt y) (mMaxL y) (mRT y)
  | some hh => .codeWith (mNm y) (mByt y) (mMaxL y) (mRT y) hh
def mWP_0 : List Nat := [207, 951, 1069, 1119, 1201, 1205, 1253, 1337, 1407, 1441, 151, 947, 1040, 1044, 1057, 1074, 1083, 1087, 1115, 1134]
def mWP_1 : List Nat := [1138, 1159, 1163, 1167, 1171, 1175, 1189, 1197, 1209, 1288, 1292, 1675, 1548, 1556, 1698, 1358, 1362, 1376, 1411, 1433]
def mWP_2 : List Nat := [1420, 1424, 189, 961, 1129, 1193, 1272, 1323, 1328, 157, 956, 1053, 1061, 1124, 1258, 1263, 1686, 1367, 1453, 326]
def mWP_3 : List Nat := [1390, 1470, 74, 854, 979, 987, 143, 936, 971, 1002, 1010, 1014, 1019, 1028, 1032, 1065, 1079, 91, 940, 1023]
def mWP_4 : List Nat := [1036, 1048, 1110, 1268, 127, 1142, 1147, 346, 1567, 1571, 1626, 1576, 270, 966, 975, 983, 991, 996, 66, 850]
def mWP_5 : List Nat := [395, 399, 395, 403, 858, 862, 865, 1090, 1152, 1155, 1178, 1182, 1185, 1483, 1227, 1230, 1223, 1249, 1276, 1280]
def mWP_6 : List Nat := [1284, 1298, 1302, 1312, 1319, 1333, 1341, 1499, 1504, 1667, 1671, 1678, 1682, 1544, 1552, 1663, 1690, 1694, 1702, 1345]
def mWP_7 : List Nat := [395, 1350, 1354, 395, 1372, 395, 395, 395, 395, 395, 395, 395, 1659, 1563, 1711, 1714, 1380, 1384, 1397, 1403]
def mWP_8 : List Nat := [1415, 1428, 1437, 1445, 1449, 1458, 1462, 1466, 1475, 1479, 408, 420, 426, 591, 647, 651, 655, 659, 663, 667]
def mWP_9 : List Nat := [671, 676, 680, 684, 689, 693, 697, 701, 705, 712, 716, 720, 724, 728, 732, 1517, 1522, 1529, 1583, 1536]
def mWP_10 : List Nat := [433, 467, 625, 599, 1594, 463, 1614, 1539, 436, 470, 628, 602, 478, 482, 513, 548, 544, 1608, 1616, 608]
def mWP_11 : List Nat := [605, 1599, 1602, 441, 832, 571, 445, 836, 640, 839, 631, 495, 1620, 1623, 485, 643, 824, 827, 1212, 1219]
def mWP_12 : List Nat := [1489, 1512, 1532, 1580, 1705, 0]
def mWP_L : List (List Nat) := [mWP_0, mWP_1, mWP_2, mWP_3, mWP_4, mWP_5, mWP_6, mWP_7, mWP_8, mWP_9, mWP_10, mWP_11, mWP_12]
def mWP (m : Nat) : Nat := (mWP_L.getD (m / 20) []).getD (m % 20) 0
def mKindP_0 : List Nat := [206, 949, 1067, 1117, 1199, 1203, 1251, 1335, 1405, 1439, 150, 945, 1038, 1042, 1055, 1072, 1081, 1085, 1113, 1132]
def mKindP_1 : List Nat := [1137, 1157, 1161, 1165, 1169, 1173, 1188, 1196, 1208, 1286, 1290, 1673, 1546, 1554, 1696, 1356, 1361, 1374, 1409, 1431]
def mKindP_2 : List Nat := [1418, 1422, 188, 959, 1127, 1191, 1270, 1321, 1326, 156, 954, 1051, 1059, 1122, 1256, 1261, 1684, 1365, 1451, 325]
def mKindP_3 : List Nat := [1388, 1468, 73, 852, 977, 985, 142, 934, 970, 1001, 1009, 1013, 1018, 1027, 1031, 1064, 1078, 90, 938, 1021]
def mKindP_4 : List Nat := [1034, 1046, 1108, 1266, 126, 1140, 1146, 345, 1565, 1569, 1625, 1574, 269, 964, 973, 982, 990, 994, 65, 848]
def mKindP_5 : List Nat := [393, 397, 393, 401, 856, 861, 864, 1089, 1151, 1154, 1177, 1181, 1184, 1481, 1226, 1229, 1221, 1248, 1274, 1278]
def mKindP_6 : List Nat := [1283, 1296, 1301, 1310, 1317, 1331, 1339, 1497, 1502, 1665, 1669, 1677, 1680, 1542, 1550, 1661, 1688, 1692, 1700, 1343]
def mKindP_7 : List Nat := [393, 1348, 1353, 393, 1370, 393, 393, 393, 393, 393, 393, 393, 1657, 1561, 1709, 1713, 1378, 1382, 1395, 1401]
def mKindP_8 : List Nat := [1413, 1426, 1435, 1443, 1447, 1456, 1460, 1464, 1473, 1477, 407, 418, 425, 590, 646, 649, 653, 657, 661, 665]
def mKindP_9 : List Nat := [669, 674, 679, 682, 687, 691, 696, 699, 703, 710, 714, 718, 723, 727, 730, 1515, 1520, 1527, 1582, 1535]
def mKindP_10 : List Nat := [432, 465, 623, 597, 1592, 462, 1613, 1538, 435, 459, 627, 601, 477, 481, 510, 547, 543, 1605, 1610, 607]
def mKindP_11 : List Nat := [604, 1598, 1601, 439, 830, 569, 443, 834, 639, 838, 630, 494, 1619, 1622, 484, 642, 823, 826, 1211, 1218]
def mKindP_12 : List Nat := [1488, 1511, 1531, 1579, 1704, 0]
def mKindP_L : List (List Nat) := [mKindP_0, mKindP_1, mKindP_2, mKindP_3, mKindP_4, mKindP_5, mKindP_6, mKindP_7, mKindP_8, mKindP_9, mKindP_10, mKindP_11, mKindP_12]
def mKindP (m : Nat) : Nat := (mKindP_L.getD (m / 20) []).getD (m % 20) 0
def mSelP_0 : List Nat := [9999, 950, 1068, 1118, 1200, 1204, 1252, 1336, 1406, 1440, 9999, 946, 1039, 1043, 1056, 1073, 1082, 1086, 1114, 1133]
def mSelP_1 : List Nat := [19, 1158, 1162, 1166, 1170, 1174, 21, 22, 23, 1287, 1291, 1674, 1547, 1555, 1697, 1357, 28, 1375, 1410, 1432]
def mSelP_2 : List Nat := [1419, 1423, 9999, 960, 1128, 1192, 1271, 1322, 1327, 9999, 955, 1052, 1060, 1123, 1257, 1262, 1685, 1366, 1452, 9999]
def mSelP_3 : List Nat := [1389, 1469, 9999, 853, 978, 986, 9999, 935, 8, 11, 12, 13, 14, 15, 16, 17, 18, 9999, 939, 1022]
def mSelP_4 : List Nat := [1035, 1047, 1109, 1267, 9999, 1141, 20, 9999, 1566, 1570, 9999, 1575, 9999, 965, 974, 9, 10, 995, 9999, 849]
def mSelP_5 : List Nat := [394, 398, 394, 402, 857, 6, 9999, 9999, 9999, 9999, 9999, 9999, 9999, 1482, 24, 9999, 1222, 9999, 1275, 1279]
def mSelP_6 : List Nat := [25, 1297, 26, 1311, 1318, 1332, 1340, 1498, 1503, 1666, 1670, 9999, 1681, 1543, 1551, 1662, 1689, 1693, 1701, 1344]
def mSelP_7 : List Nat := [394, 1349, 27, 394, 1371, 394, 394, 394, 394, 394, 394, 394, 1658, 1562, 1710, 9999, 1379, 1383, 1396, 1402]
def mSelP_8 : List Nat := [1414, 1427, 1436, 1444, 1448, 1457, 1461, 1465, 1474, 1478, 9999, 419, 9999, 0, 1, 650, 654, 658, 662, 666]
def mSelP_9 : List Nat := [670, 675, 2, 683, 688, 692, 3, 700, 704, 711, 715, 719, 4, 5, 731, 1516, 1521, 1528, 9999, 9999]
def mSelP_10 : List Nat := [9999, 466, 624, 598, 1593, 9999, 9999, 9999, 9999, 461, 9999, 9999, 1728, 1731, 512, 1730, 1732, 1607, 1612, 9999]
def mSelP_11 : List Nat := [9999, 9999, 9999, 440, 831, 570, 444, 835, 9999, 9999, 9999, 9999, 9999, 9999, 9999, 9999, 9999, 9999, 9999, 9999]
def mSelP_12 : List Nat := [9999, 9999, 9999, 9999, 9999, 9999]
def mSelP_L : List (List Nat) := [mSelP_0, mSelP_1, mSelP_2, mSelP_3, mSelP_4, mSelP_5, mSelP_6, mSelP_7, mSelP_8, mSelP_9, mSelP_10, mSelP_11, mSelP_12]
def mSelP (m : Nat) : Nat := (mSelP_L.getD (m / 20) []).getD (m % 20) 9999
def mIniP : List Nat := [52, 49, 51, 50, 54, 45, 48, 46, 47, 55, 53, 44, 30, 31, 33, 34, 29, 32, 43, 41, 38, 36, 40, 37]
/-- what a program decides of a method but its bytes -/
def mOkM (y : Nat) : Bool := decide ((mNm y).cls = mCN (mOwn y)) && plainName (mNm y).cls && decide ((mNm y).cls ≠ "java/lang/invoke/MethodHandle") && decide ((mNm y).cls ≠ "java/lang/invoke/VarHandle")
  && decide ((parseMethodDescriptor (mNm y).desc).map (fun d => d.parameters.length) = some (match mStat y with
    | true => mArgs y
    | false => mArgs y - 1))
  && decide (lw_tbl[mIniP.getD (mOwn y) 0]? = some (.initialized (mNm y).cls))
  && decide (lw_tbl[mKindP y]? = some (match mStat y with
    | true => .static (mNm y)
    | false => .instanceMethod (mNm y)))
  && (match Nat.beq (mSelP y) 9999 with
    | true => true
    | false => decide (lw_tbl[mSelP y]? = some (.selects (mCN (mRcv y)) (mNm y) (mNm (mSelY y)))) && decide (mRT (mSelY y) = mRT y) && Nat.beq (mArgs (mSelY y)) (mArgs y) && Nat.beq (mRet (mSelY y)) (mRet y))
  && (match mInit y with
    | true => decide ((mNm y).name = "<init>") && Nat.beq (mRet y) 0
    | false => true)
  && Nat.ble (mMaxL y) 20 && (match mStat y with
    | true => true
    | false => Nat.blt 0 (mArgs y))
  && (match mRet y with
    | 0 => decide (mRT y = none)
    | 1 => decide (mRT y = some .int)
    | 2 => decide (mRT y = some .boolean)
    | 3 => decide (mRT y = some .char)
    | 4 => decide (mRT y = some .float)
    | 5 => decide (mRT y = some .double)
    | 6 => decide (mRT y = some .long)
    | 8 => decide (mRT y = some .byte)
    | _ => match mRT y with
      | some (.object _) => true
      | some (.array _) => true
      | _ => false) && Nat.ble (mArgs y) (mMaxL y)
set_option maxRecDepth 100000 in
theorem mOkM_0 : ∀ y, y < 40 → mOkM (0 + y) = true := by decide +kernel
set_option maxRecDepth 100000 in
theorem mOkM_1 : ∀ y, y < 40 → mOkM (40 + y) = true := by decide +kernel
set_option maxRecDepth 100000 in
theorem mOkM_2 : ∀ y, y < 40 → mOkM (80 + y) = true := by decide +kernel
set_option maxRecDepth 100000 in
theorem mOkM_3 : ∀ y, y < 40 → mOkM (120 + y) = true := by decide +kernel
set_option maxRecDepth 100000 in
theorem mOkM_4 : ∀ y, y < 40 → mOkM (160 + y) = true := by decide +kernel
set_option maxRecDepth 100000 in
theorem mOkM_5 : ∀ y, y < 40 → mOkM (200 + y) = true := by decide +kernel
set_option maxRecDepth 100000 in
theorem mOkM_6 : ∀ y, y < 5 → mOkM (240 + y) = true := by decide +kernel
theorem mOkM_all {y : Nat} (h : y < 245) : mOkM y = true := by
  rcases Nat.lt_or_ge y 40 with q | q
  · have := mOkM_0 (y - 0) (by omega)
    rwa [show 0 + (y - 0) = y by omega] at this
  rcases Nat.lt_or_ge y 80 with q | q
  · have := mOkM_1 (y - 40) (by omega)
    rwa [show 40 + (y - 40) = y by omega] at this
  rcases Nat.lt_or_ge y 120 with q | q
  · have := mOkM_2 (y - 80) (by omega)
    rwa [show 80 + (y - 80) = y by omega] at this
  rcases Nat.lt_or_ge y 160 with q | q
  · have := mOkM_3 (y - 120) (by omega)
    rwa [show 120 + (y - 120) = y by omega] at this
  rcases Nat.lt_or_ge y 200 with q | q
  · have := mOkM_4 (y - 160) (by omega)
    rwa [show 160 + (y - 160) = y by omega] at this
  rcases Nat.lt_or_ge y 240 with q | q
  · have := mOkM_5 (y - 200) (by omega)
    rwa [show 200 + (y - 200) = y by omega] at this
  rcases Nat.lt_or_ge y 245 with q | q
  · have := mOkM_6 (y - 240) (by omega)
    rwa [show 240 + (y - 240) = y by omega] at this
  omega
