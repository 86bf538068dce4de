/-! NAMES AND WORDS, by program: what the tables say of each class, method and link of the small machine. -/
def gTbl : List Jvm.Cond := lw_tbl.filter goodWord
theorem gTbl_of {w : Jvm.Cond} (i : Nat) (h : lw_tbl[i]? = some w) (hg : goodWord w = true) : w ∈ gTbl := List.mem_filter.mpr ⟨List.mem_of_getElem? h, hg⟩
def mTL : List (List (String × String × String × Bool)) := [
  [("CardCastle$Cards", "rules", "LCardCastle$Rules;", true), ("CardCastle$Cards", "stiffness", "[I", true), ("CardCastle$Cards", "bends", "[I", true), ("CardCastle$Cards", "spots", "[I", true), ("CardCastle$Cards", "heap", "[I", true), ("CardCastle$Cards", "heaped", "I", false)],
  [("CardCastle$Castle", "rules", "LCardCastle$Rules;", true), ("CardCastle$Castle", "scale", "LCardCastle$Scale;", true), ("CardCastle$Castle", "cards", "LCardCastle$Cards;", true), ("CardCastle$Castle", "grid", "LCardCastle$Grid;", true), ("CardCastle$Castle", "log", "LCardCastle$FallLog;", true), ("CardCastle$Castle", "time", "I", false), ("CardCastle$Castle", "tremors", "I", false)],
  [("CardCastle$FallLog", "parts", "[I", true), ("CardCastle$FallLog", "causes", "[I", true), ("CardCastle$FallLog", "noted", "I", false)],
  [("CardCastle$Grid", "first", "[I", true), ("CardCastle$Grid", "second", "[I", true), ("CardCastle$Grid", "angle", "[I", true), ("CardCastle$Grid", "wobble", "[I", true), ("CardCastle$Grid", "flat", "[I", true)],
  [("CardCastle$History", "castles", "[LCardCastle$Castle;", true), ("CardCastle$History", "kept", "I", false), ("CardCastle$History", "next", "I", false)],
  [("CardCastle$Input", "bytes", "[B", true), ("CardCastle$Input", "length", "I", false)],
  [("CardCastle$Parser", "rules", "LCardCastle$Rules;", true), ("CardCastle$Parser", "castle", "LCardCastle$Castle;", true), ("CardCastle$Parser", "tokens", "LCardCastle$Tokens;", true), ("CardCastle$Parser", "error", "I", false), ("CardCastle$Parser", "errorAt", "I", false), ("CardCastle$Parser", "level", "I", false), ("CardCastle$Parser", "column", "I", false)],
  [("CardCastle$Rules", "settings", "[I", true), ("CardCastle$Rules", "names", "[I", true), ("CardCastle$Rules", "stiffness", "[I", true), ("CardCastle$Rules", "weights", "[I", true), ("CardCastle$Rules", "cards", "I", false)],
  [("CardCastle$Scale", "pairLoads", "[I", true), ("CardCastle$Scale", "flatLoads", "[I", true)],
  [("CardCastle$Text", "signs", "[B", true), ("CardCastle$Text", "length", "I", false)],
  [("CardCastle$Tokens", "input", "LCardCastle$Input;", true), ("CardCastle$Tokens", "end", "I", false), ("CardCastle$Tokens", "next", "I", false), ("CardCastle$Tokens", "start", "I", false), ("CardCastle$Tokens", "kind", "I", false), ("CardCastle$Tokens", "value", "I", false)],
  [("CardCastle", "input", "LCardCastle$Input;", true), ("CardCastle", "rules", "LCardCastle$Rules;", true), ("CardCastle", "scale", "LCardCastle$Scale;", true), ("CardCastle", "parser", "LCardCastle$Parser;", true), ("CardCastle", "castle", "LCardCastle$Castle;", true), ("CardCastle", "trial", "LCardCastle$Castle;", true), ("CardCastle", "history", "LCardCastle$History;", true), ("CardCastle", "saved", "[LCardCastle$Castle;", true), ("CardCastle", "isSaved", "[Z", true), ("CardCastle", "text", "LCardCastle$Text;", true), ("CardCastle", "loaded", "Z", false)],
  [("CardCastleModel", "thrown", "I", false), ("CardCastleModel", "isLoaded", "Z", false), ("CardCastleModel", "wide", "I", false), ("CardCastleModel", "levels", "I", false), ("CardCastleModel", "limit", "I", false), ("CardCastleModel", "damp", "I", false), ("CardCastleModel", "calm", "I", false), ("CardCastleModel", "bend", "I", false), ("CardCastleModel", "cards", "I", false), ("CardCastleModel", "names", "[I", true), ("CardCastleModel", "weights", "[I", true), ("CardCastleModel", "s", "[I", true), ("CardCastleModel", "aside", "[I", true), ("CardCastleModel", "stores", "[I", true), ("CardCastleModel", "changes", "I", false), ("CardCastleModel", "isKept", "[Z", true), ("CardCastleModel", "buffer", "[I", true), ("CardCastleModel", "buffered", "I", false), ("CardCastleModel", "parseError", "I", false), ("CardCastleModel", "errorPosition", "I", false), ("CardCastleModel", "length", "I", false), ("CardCastleModel", "next", "I", false), ("CardCastleModel", "from", "I", false), ("CardCastleModel", "sort", "I", false), ("CardCastleModel", "number", "I", false), ("CardCastleModel", "wrong", "I", false), ("CardCastleModel", "wrongAt", "I", false), ("CardCastleModel", "heldNames", "[I", true), ("CardCastleModel", "heldWeights", "[I", true), ("CardCastleModel", "heldRow", "[I", true), ("CardCastleModel", "held", "[I", true), ("CardCastleModel", "pairLoads", "[I", true), ("CardCastleModel", "flatLoads", "[I", true), ("CardCastleModel", "waits", "[I", true), ("CardCastleModel", "waiting", "I", false), ("CardCastleModel", "text", "[I", true), ("CardCastleModel", "textLong", "I", false)]]
def mT (c : Nat) : u_T := fun k => (mTL.getD c []).getD k ("", "", "", false)
def mTN (c : Nat) : Nat := (mTL.getD c []).length
def mTyL : List (List FieldType) := [
  [.object "CardCastle$Rules", .array (.int), .array (.int), .array (.int), .array (.int), .int],
  [.object "CardCastle$Rules", .object "CardCastle$Scale", .object "CardCastle$Cards", .object "CardCastle$Grid", .object "CardCastle$FallLog", .int, .int],
  [.array (.int), .array (.int), .int],
  [.array (.int), .array (.int), .array (.int), .array (.int), .array (.int)],
  [.array (.object "CardCastle$Castle"), .int, .int],
  [.array (.byte), .int],
  [.object "CardCastle$Rules", .object "CardCastle$Castle", .object "CardCastle$Tokens", .int, .int, .int, .int],
  [.array (.int), .array (.int), .array (.int), .array (.int), .int],
  [.array (.int), .array (.int)],
  [.array (.byte), .int],
  [.object "CardCastle$Input", .int, .int, .int, .int, .int],
  [.object "CardCastle$Input", .object "CardCastle$Rules", .object "CardCastle$Scale", .object "CardCastle$Parser", .object "CardCastle$Castle", .object "CardCastle$Castle", .object "CardCastle$History", .array (.object "CardCastle$Castle"), .array (.boolean), .object "CardCastle$Text", .boolean],
  [.int, .boolean, .int, .int, .int, .int, .int, .int, .int, .array (.int), .array (.int), .array (.int), .array (.int), .array (.int), .int, .array (.boolean), .array (.int), .int, .int, .int, .int, .int, .int, .int, .int, .int, .int, .array (.int), .array (.int), .array (.int), .array (.int), .array (.int), .array (.int), .array (.int), .int, .array (.int), .int]]
def mTy (c k : Nat) : FieldType := (mTyL.getD c []).getD k .int
def mCN (c : Nat) : String := mCls.getD c ""
abbrev mcl : List vw_C := [(mCN 0, mT 0, mTN 0), (mCN 1, mT 1, mTN 1), (mCN 2, mT 2, mTN 2), (mCN 3, mT 3, mTN 3), (mCN 4, mT 4, mTN 4), (mCN 5, mT 5, mTN 5), (mCN 6, mT 6, mTN 6), (mCN 7, mT 7, mTN 7), (mCN 8, mT 8, mTN 8), (mCN 9, mT 9, mTN 9), (mCN 10, mT 10, mTN 10), (mCN 11, mT 11, mTN 11), (mCN 12, mT 12, mTN 12)]
theorem mcl_at {c : Nat} (h : c < 13) : mcl[c]? = some (mCN c, mT c, mTN c) := by
  match c, h with
  | 0, _ => rfl
  | 1, _ => rfl
  | 2, _ => rfl
  | 3, _ => rfl
  | 4, _ => rfl
  | 5, _ => rfl
  | 6, _ => rfl
  | 7, _ => rfl
  | 8, _ => rfl
  | 9, _ => rfl
  | 10, _ => rfl
  | 11, _ => rfl
  | 12, _ => rfl
set_option maxRecDepth 100000 in
theorem mTy_ok {c k : Nat} (hc : c < 13) (hk : k < mTN c) : parseFieldDescriptor (mT c k).2.2.1 = some (mTy c k) := by
  have h : ∀ c, c < 13 → ∀ k, k < mTN c → parseFieldDescriptor (mT c k).2.2.1 = some (mTy c k) := by decide +kernel
  exact h c hc k hk
set_option maxRecDepth 100000 in
theorem mT_ne {c : Nat} (hc : c < 13) : ∀ a, a < mTN c → ∀ b, b < mTN c → a ≠ b → (mT c a).2.1 ≠ (mT c b).2.1 := by
  have h : ∀ c, c < 13 → ∀ a, a < mTN c → ∀ b, b < mTN c → a ≠ b → (mT c a).2.1 ≠ (mT c b).2.1 := by decide +kernel
  exact h c hc
def mLayP : List (List Nat) := [[287, 289, 291, 293, 295, 297], [315, 317, 319, 321, 323, 325, 327], [260, 262, 264], [238, 240, 242, 244, 246], [399, 401, 403], [145, 147], [369, 371, 373, 375, 377, 379, 381], [175, 177, 179, 181, 183], [198, 200], [416, 418], [345, 347, 349, 351, 353, 355], [433, 435, 437, 439, 441, 443, 445, 447, 449, 451, 453], [1483, 1485, 1487, 1489, 1491, 1493, 1495, 1497, 1499, 1501, 1503, 1505, 1507, 1509, 1511, 1513, 1515, 1517, 1519, 1521, 1523, 1525, 1527, 1529, 1531, 1533, 1535, 1537, 1539, 1541, 1543, 1545, 1547, 1549, 1551, 1553, 1555]]
set_option maxRecDepth 100000 in
theorem mLay_ok {c : Nat} (hc : c < 13) : ∀ w ∈ u_ws (mCN c) (mT c) (mTN c), w ∈ gTbl := by
  have h : ∀ c, c < 13 → ∀ k, k < mTN c → lw_tbl[(mLayP.getD c []).getD k 0]? = some (u_lay (mCN c) (mT c) k) ∧ goodWord (u_lay (mCN c) (mT c) k) = true := by decide +kernel
  intro w hw
  obtain ⟨k, hk, rfl⟩ := List.mem_map.mp hw
  obtain ⟨h1, h2⟩ := h c hc k (List.mem_range.mp hk)
  exact gTbl_of _ h1 h2
set_option maxRecDepth 100000 in
theorem mInst_ok {c : Nat} (hc : c < 13) : Jvm.Cond.instantiable (mCN c) (mTN c) ∈ gTbl ∧ Jvm.Cond.initialized (mCN c) ∈ gTbl := by
  have h : ∀ c, c < 13 → (lw_tbl[([268, 212, 250, 218, 387, 135, 204, 152, 188, 407, 331, 127, 1441] : List Nat).getD c 0]? = some (Jvm.Cond.instantiable (mCN c) (mTN c)) ∧ goodWord (Jvm.Cond.instantiable (mCN c) (mTN c)) = true) ∧ (lw_tbl[([108, 105, 107, 106, 110, 101, 104, 102, 103, 111, 109, 100, 112] : List Nat).getD c 0]? = some (Jvm.Cond.initialized (mCN c)) ∧ goodWord (Jvm.Cond.initialized (mCN c)) = true) := by decide +kernel
  obtain ⟨⟨h1, h2⟩, h3, h4⟩ := h c hc
  exact ⟨gTbl_of _ h1 h2, gTbl_of _ h3 h4⟩
def mNm_0 : List Jvm.MethodName := [⟨"CardCastle$Cards", "<init>", "(LCardCastle$Rules;)V"⟩, ⟨"CardCastle$Cards", "clear", "()V"⟩, ⟨"CardCastle$Cards", "isHeld", "(I)Z"⟩, ⟨"CardCastle$Cards", "copyFrom", "(LCardCastle$Cards;)V"⟩, ⟨"CardCastle$Cards", "putOnHeap", "(I)V"⟩, ⟨"CardCastle$Cards", "bend", "(I)V"⟩, ⟨"CardCastle$Cards", "handSize", "()I"⟩, ⟨"CardCastle$Cards", "handCard", "(I)I"⟩, ⟨"CardCastle$Cards", "isBuiltIn", "(I)Z"⟩, ⟨"CardCastle$Cards", "takeFromHeap", "(I)V"⟩, ⟨"CardCastle$Castle", "<init>", "(LCardCastle$Rules;LCardCastle$Scale;)V"⟩, ⟨"CardCastle$Castle", "clear", "()V"⟩, ⟨"CardCastle$Castle", "pairFits", "(II)Z"⟩, ⟨"CardCastle$Castle", "hasPair", "(II)Z"⟩, ⟨"CardCastle$Castle", "hasFlat", "(II)Z"⟩, ⟨"CardCastle$Castle", "putPair", "(IIII)V"⟩, ⟨"CardCastle$Castle", "flatFits", "(II)Z"⟩, ⟨"CardCastle$Castle", "putFlat", "(II)V"⟩, ⟨"CardCastle$Castle", "copyFrom", "(LCardCastle$Castle;)V"⟩, ⟨"CardCastle$Castle", "settle", "()I"⟩]
def mNm_1 : List Jvm.MethodName := [⟨"CardCastle$Castle", "firstOverloaded", "()I"⟩, ⟨"CardCastle$Castle", "weightOfFlat", "(I)I"⟩, ⟨"CardCastle$Castle", "weightOfPair", "(I)I"⟩, ⟨"CardCastle$Castle", "reserveAt", "(I)I"⟩, ⟨"CardCastle$Castle", "strengthAt", "(I)I"⟩, ⟨"CardCastle$Castle", "stiffnessAt", "(I)I"⟩, ⟨"CardCastle$Castle", "dropPair", "(IIII)V"⟩, ⟨"CardCastle$Castle", "dropCard", "(III)V"⟩, ⟨"CardCastle$Castle", "dropFlat", "(IIII)V"⟩, ⟨"CardCastle$Castle", "whereIs", "(I)I"⟩, ⟨"CardCastle$Castle", "isFlat", "(I)Z"⟩, ⟨"CardCastle$Castle", "weakestSpot", "()I"⟩, ⟨"CardCastle$Castle", "letPairFall", "(II)I"⟩, ⟨"CardCastle$Castle", "builtWeight", "()I"⟩, ⟨"CardCastle$Castle", "sumOfReserves", "()I"⟩, ⟨"CardCastle$Castle", "quake", "(II)I"⟩, ⟨"CardCastle$Castle", "wobbleBy", "(III)I"⟩, ⟨"CardCastle$Castle", "shakenDownBy", "(III)Z"⟩, ⟨"CardCastle$Castle", "pullOut", "(I)I"⟩, ⟨"CardCastle$Castle", "flatToHand", "(I)V"⟩]
def mNm_2 : List Jvm.MethodName := [⟨"CardCastle$Castle", "isBare", "(II)Z"⟩, ⟨"CardCastle$Castle", "pairToHand", "(I)V"⟩, ⟨"CardCastle$FallLog", "<init>", "()V"⟩, ⟨"CardCastle$FallLog", "clear", "()V"⟩, ⟨"CardCastle$FallLog", "copyFrom", "(LCardCastle$FallLog;)V"⟩, ⟨"CardCastle$FallLog", "note", "(IIIII)V"⟩, ⟨"CardCastle$FallLog", "notedFor", "(I)I"⟩, ⟨"CardCastle$FallLog", "told", "()I"⟩, ⟨"CardCastle$FallLog", "part", "(II)I"⟩, ⟨"CardCastle$Grid", "<init>", "()V"⟩, ⟨"CardCastle$Grid", "clear", "()V"⟩, ⟨"CardCastle$Grid", "pairAt", "(I)Z"⟩, ⟨"CardCastle$Grid", "flatAt", "(I)Z"⟩, ⟨"CardCastle$Grid", "copyFrom", "(LCardCastle$Grid;)V"⟩, ⟨"CardCastle$Grid", "pairs", "()I"⟩, ⟨"CardCastle$Grid", "flats", "()I"⟩, ⟨"CardCastle$Grid", "shakiestSpot", "()I"⟩, ⟨"CardCastle$Grid", "firstAbove", "(I)I"⟩, ⟨"CardCastle$Grid", "calmDown", "(I)I"⟩, ⟨"CardCastle$History", "<init>", "(LCardCastle$Rules;LCardCastle$Scale;)V"⟩]
def mNm_3 : List Jvm.MethodName := [⟨"CardCastle$History", "keep", "(LCardCastle$Castle;)V"⟩, ⟨"CardCastle$History", "bringBack", "(LCardCastle$Castle;)V"⟩, ⟨"CardCastle$Input", "<init>", "()V"⟩, ⟨"CardCastle$Input", "addFour", "(I)V"⟩, ⟨"CardCastle$Input", "byteAt", "(I)I"⟩, ⟨"CardCastle$Input", "nameAt", "(II)I"⟩, ⟨"CardCastle$Parser", "<init>", "(LCardCastle$Input;LCardCastle$Scale;)V"⟩, ⟨"CardCastle$Parser", "readText", "(I)Z"⟩, ⟨"CardCastle$Parser", "readTable", "()Z"⟩, ⟨"CardCastle$Parser", "fail", "(I)Z"⟩, ⟨"CardCastle$Parser", "readNumber", "(II)Z"⟩, ⟨"CardCastle$Parser", "readLine", "()Z"⟩, ⟨"CardCastle$Parser", "readCardLine", "()Z"⟩, ⟨"CardCastle$Parser", "readLeanLine", "()Z"⟩, ⟨"CardCastle$Parser", "readPlace", "(I)Z"⟩, ⟨"CardCastle$Parser", "readHeldCard", "(I)I"⟩, ⟨"CardCastle$Parser", "readLayLine", "()Z"⟩, ⟨"CardCastle$Rules", "<init>", "()V"⟩, ⟨"CardCastle$Rules", "clear", "()V"⟩, ⟨"CardCastle$Rules", "cardNamed", "(I)I"⟩]
def mNm_4 : List Jvm.MethodName := [⟨"CardCastle$Rules", "columnsAt", "(I)I"⟩, ⟨"CardCastle$Rules", "spotOf", "(II)I"⟩, ⟨"CardCastle$Rules", "copyFrom", "(LCardCastle$Rules;)V"⟩, ⟨"CardCastle$Rules", "places", "()I"⟩, ⟨"CardCastle$Scale", "<init>", "()V"⟩, ⟨"CardCastle$Scale", "weigh", "(LCardCastle$Castle;)V"⟩, ⟨"CardCastle$Scale", "weighPlace", "(LCardCastle$Castle;II)V"⟩, ⟨"CardCastle$Text", "<init>", "()V"⟩, ⟨"CardCastle$Text", "put", "(I)V"⟩, ⟨"CardCastle$Text", "putName", "(I)V"⟩, ⟨"CardCastle$Text", "putDigits", "(III)V"⟩, ⟨"CardCastle$Text", "putNumber", "(I)V"⟩, ⟨"CardCastle$Tokens", "<init>", "(LCardCastle$Input;)V"⟩, ⟨"CardCastle$Tokens", "begin", "(I)V"⟩, ⟨"CardCastle$Tokens", "step", "()V"⟩, ⟨"CardCastle$Tokens", "endOfRun", "(CC)I"⟩, ⟨"CardCastle$Tokens", "numberAt", "(I)I"⟩, ⟨"CardCastle$Tokens", "isWord", "(Ljava/lang/String;)Z"⟩, ⟨"CardCastle", "<init>", "()V"⟩, ⟨"CardCastle", "append", "(IIIII)I"⟩]
def mNm_5 : List Jvm.MethodName := [⟨"CardCastle", "parseError", "()I"⟩, ⟨"CardCastle", "errorPosition", "()I"⟩, ⟨"CardCastle", "buffered", "()I"⟩, ⟨"CardCastle", "undoable", "()I"⟩, ⟨"CardCastle", "load", "(I)I"⟩, ⟨"CardCastle", "needBuffered", "(I)V"⟩, ⟨"CardCastle", "needIndex", "(II)V"⟩, ⟨"CardCastle", "need", "(Z)V"⟩, ⟨"CardCastle", "rightShare", "(I)I"⟩, ⟨"CardCastle", "leftShare", "(I)I"⟩, ⟨"CardCastle", "strengthFor", "(II)I"⟩, ⟨"CardCastle", "levelOf", "(I)I"⟩, ⟨"CardCastle", "columnOf", "(I)I"⟩, ⟨"CardCastle", "find", "(I)I"⟩, ⟨"CardCastle", "needText", "()V"⟩, ⟨"CardCastle", "needState", "(Z)V"⟩, ⟨"CardCastle", "count", "(I)I"⟩, ⟨"CardCastle", "needRange", "(III)V"⟩, ⟨"CardCastle", "setting", "(I)I"⟩, ⟨"CardCastle", "card", "(II)I"⟩]
def mNm_6 : List Jvm.MethodName := [⟨"CardCastle", "needCard", "(I)V"⟩, ⟨"CardCastle", "pair", "(III)I"⟩, ⟨"CardCastle", "needPlace", "(II)V"⟩, ⟨"CardCastle", "flat", "(III)I"⟩, ⟨"CardCastle", "fall", "(II)I"⟩, ⟨"CardCastle", "inHand", "(I)I"⟩, ⟨"CardCastle", "onHeap", "(I)I"⟩, ⟨"CardCastle", "canLean", "(II)Z"⟩, ⟨"CardCastle", "canLay", "(II)Z"⟩, ⟨"CardCastle", "top", "()I"⟩, ⟨"CardCastle", "weakest", "()I"⟩, ⟨"CardCastle", "placeCode", "(I)I"⟩, ⟨"CardCastle", "shakiest", "()I"⟩, ⟨"CardCastle", "supported", "(II)I"⟩, ⟨"CardCastle", "above", "(II)I"⟩, ⟨"CardCastle", "onTable", "(I)I"⟩, ⟨"CardCastle", "weight", "()I"⟩, ⟨"CardCastle", "meanReserve", "()D"⟩, ⟨"CardCastle", "builtShare", "()F"⟩, ⟨"CardCastle", "strengthOf", "(III)I"⟩]
def mNm_7 : List Jvm.MethodName := [⟨"CardCastle", "stiffest", "()I"⟩, ⟨"CardCastle", "fallsBy", "(II)I"⟩, ⟨"CardCastle", "needTremor", "(II)V"⟩, ⟨"CardCastle", "buffered", "()I"⟩, ⟨"CardCastle", "leastForce", "(I)I"⟩, ⟨"CardCastle", "worstColumn", "(I)I"⟩, ⟨"CardCastle", "calmIn", "()I"⟩, ⟨"CardCastle", "tremorsTo", "(II)I"⟩, ⟨"CardCastle", "fallsIfPulled", "(I)I"⟩, ⟨"CardCastle", "safest", "(I)I"⟩, ⟨"CardCastle", "leastReserveWith", "(II)I"⟩, ⟨"CardCastle", "bestAngle", "(II)I"⟩, ⟨"CardCastle", "writeLevel", "(I)I"⟩, ⟨"CardCastle", "writePair", "(II)I"⟩, ⟨"CardCastle", "writeFalls", "()I"⟩, ⟨"CardCastle", "causeLetter", "(I)C"⟩, ⟨"CardCastle", "textByte", "(I)I"⟩, ⟨"CardCastle", "lean", "(IIIII)I"⟩, ⟨"CardCastle", "lay", "(III)I"⟩, ⟨"CardCastle", "pull", "(I)I"⟩]
def mNm_8 : List Jvm.MethodName := [⟨"CardCastle", "takeDown", "(II)I"⟩, ⟨"CardCastle", "lift", "(II)I"⟩, ⟨"CardCastle", "pickUp", "(I)I"⟩, ⟨"CardCastle", "tremor", "(II)I"⟩, ⟨"CardCastle", "tick", "(I)I"⟩, ⟨"CardCastle", "turn", "(III)I"⟩, ⟨"CardCastle", "smooth", "(I)I"⟩, ⟨"CardCastle", "undo", "()I"⟩, ⟨"CardCastle", "save", "(I)I"⟩, ⟨"CardCastle", "restore", "(I)I"⟩, ⟨"CardCastleModel", "<init>", "()V"⟩, ⟨"CardCastleModel", "thrown", "()I"⟩, ⟨"CardCastleModel", "append", "(IIIII)I"⟩, ⟨"CardCastleModel", "buffered", "()I"⟩, ⟨"CardCastleModel", "parseError", "()I"⟩, ⟨"CardCastleModel", "errorPosition", "()I"⟩, ⟨"CardCastleModel", "load", "(I)I"⟩, ⟨"CardCastleModel", "in", "(III)Z"⟩, ⟨"CardCastleModel", "refuse", "(ZI)Z"⟩, ⟨"CardCastleModel", "holds", "()V"⟩]
def mNm_9 : List Jvm.MethodName := [⟨"CardCastleModel", "reads", "(I)V"⟩, ⟨"CardCastleModel", "clears", "()V"⟩, ⟨"CardCastleModel", "token", "()V"⟩, ⟨"CardCastleModel", "seen", "(I)I"⟩, ⟨"CardCastleModel", "isLetter", "(I)Z"⟩, ⟨"CardCastleModel", "isDigit", "(I)Z"⟩, ⟨"CardCastleModel", "isWord", "(Ljava/lang/String;)Z"⟩, ⟨"CardCastleModel", "failsIf", "(ZI)V"⟩, ⟨"CardCastleModel", "fails", "(I)V"⟩, ⟨"CardCastleModel", "goesOn", "()V"⟩, ⟨"CardCastleModel", "takes", "(II)I"⟩, ⟨"CardCastleModel", "looks", "(II)I"⟩, ⟨"CardCastleModel", "line", "()V"⟩, ⟨"CardCastleModel", "cardLine", "()V"⟩, ⟨"CardCastleModel", "named", "(II)I"⟩, ⟨"CardCastleModel", "puts", "(III)V"⟩, ⟨"CardCastleModel", "leanLine", "()V"⟩, ⟨"CardCastleModel", "mayLean", "(II)Z"⟩, ⟨"CardCastleModel", "hasPair", "(II)Z"⟩, ⟨"CardCastleModel", "isPlace", "(II)Z"⟩]
def mNm_10 : List Jvm.MethodName := [⟨"CardCastleModel", "placeOf", "(II)I"⟩, ⟨"CardCastleModel", "ofPair", "(II)I"⟩, ⟨"CardCastleModel", "hasFlat", "(II)Z"⟩, ⟨"CardCastleModel", "cardHere", "(I)I"⟩, ⟨"CardCastleModel", "of", "(II)I"⟩, ⟨"CardCastleModel", "leans", "(IIII)V"⟩, ⟨"CardCastleModel", "putsPair", "(III)V"⟩, ⟨"CardCastleModel", "goesTo", "(III)V"⟩, ⟨"CardCastleModel", "layLine", "()V"⟩, ⟨"CardCastleModel", "mayLay", "(II)Z"⟩, ⟨"CardCastleModel", "lays", "(II)V"⟩, ⟨"CardCastleModel", "laysBack", "()V"⟩, ⟨"CardCastleModel", "settles", "()V"⟩, ⟨"CardCastleModel", "laysLoads", "()V"⟩, ⟨"CardCastleModel", "fromAbove", "(II)I"⟩, ⟨"CardCastleModel", "leftHalf", "(I)I"⟩, ⟨"CardCastleModel", "pairWeight", "(I)I"⟩, ⟨"CardCastleModel", "firstBad", "(Z)I"⟩, ⟨"CardCastleModel", "reserveAt", "(I)I"⟩, ⟨"CardCastleModel", "strengthAt", "(I)I"⟩]
def mNm_11 : List Jvm.MethodName := [⟨"CardCastleModel", "stiffnessAt", "(I)I"⟩, ⟨"CardCastleModel", "strengthBy", "(II)I"⟩, ⟨"CardCastleModel", "falls", "(IZII)V"⟩, ⟨"CardCastleModel", "notes", "(IZI)V"⟩, ⟨"CardCastleModel", "flag", "(Z)I"⟩, ⟨"CardCastleModel", "takesOut", "(IZI)V"⟩, ⟨"CardCastleModel", "drops", "(III)V"⟩, ⟨"CardCastleModel", "waitsFor", "(IIZ)V"⟩, ⟨"CardCastleModel", "isThere", "(I)Z"⟩, ⟨"CardCastleModel", "find", "(I)I"⟩, ⟨"CardCastleModel", "notLoaded", "()Z"⟩, ⟨"CardCastleModel", "count", "(I)I"⟩, ⟨"CardCastleModel", "handed", "()I"⟩, ⟨"CardCastleModel", "pairs", "()I"⟩, ⟨"CardCastleModel", "flats", "()I"⟩, ⟨"CardCastleModel", "places", "()I"⟩, ⟨"CardCastleModel", "setting", "(I)I"⟩, ⟨"CardCastleModel", "card", "(II)I"⟩, ⟨"CardCastleModel", "noCard", "(I)Z"⟩, ⟨"CardCastleModel", "isCard", "(I)Z"⟩]
def mNm_12 : List Jvm.MethodName := [⟨"CardCastleModel", "pair", "(III)I"⟩, ⟨"CardCastleModel", "noPlace", "(II)Z"⟩, ⟨"CardCastleModel", "flat", "(III)I"⟩, ⟨"CardCastleModel", "fall", "(II)I"⟩, ⟨"CardCastleModel", "toldFalls", "()I"⟩, ⟨"CardCastleModel", "ofFall", "(II)I"⟩, ⟨"CardCastleModel", "inHand", "(I)I"⟩, ⟨"CardCastleModel", "onHeap", "(I)I"⟩, ⟨"CardCastleModel", "canLean", "(II)Z"⟩, ⟨"CardCastleModel", "canLay", "(II)Z"⟩, ⟨"CardCastleModel", "top", "()I"⟩, ⟨"CardCastleModel", "weakest", "()I"⟩, ⟨"CardCastleModel", "told", "(I)I"⟩, ⟨"CardCastleModel", "shakiest", "()I"⟩, ⟨"CardCastleModel", "supported", "(II)I"⟩, ⟨"CardCastleModel", "putsAside", "()V"⟩, ⟨"CardCastleModel", "fetchesBack", "()V"⟩, ⟨"CardCastleModel", "above", "(II)I"⟩, ⟨"CardCastleModel", "builtWeight", "()I"⟩, ⟨"CardCastleModel", "onTable", "(I)I"⟩]
def mNm_13 : List Jvm.MethodName := [⟨"CardCastleModel", "weight", "()I"⟩, ⟨"CardCastleModel", "meanReserve", "()D"⟩, ⟨"CardCastleModel", "builtShare", "()F"⟩, ⟨"CardCastleModel", "strengthOf", "(III)I"⟩, ⟨"CardCastleModel", "isAngle", "(I)Z"⟩, ⟨"CardCastleModel", "stiffest", "()I"⟩, ⟨"CardCastleModel", "fallsBy", "(II)I"⟩, ⟨"CardCastleModel", "isTremor", "(II)Z"⟩, ⟨"CardCastleModel", "fallsThen", "(II)I"⟩, ⟨"CardCastleModel", "trembles", "(II)I"⟩, ⟨"CardCastleModel", "shakes", "(IIII)V"⟩, ⟨"CardCastleModel", "leastForce", "(I)I"⟩, ⟨"CardCastleModel", "worstColumn", "(I)I"⟩, ⟨"CardCastleModel", "calmIn", "()I"⟩, ⟨"CardCastleModel", "tremorsTo", "(II)I"⟩, ⟨"CardCastleModel", "fallsIfPulled", "(I)I"⟩, ⟨"CardCastleModel", "pulls", "(I)I"⟩, ⟨"CardCastleModel", "safest", "(I)I"⟩, ⟨"CardCastleModel", "reserveIf", "(II)I"⟩, ⟨"CardCastleModel", "leastReserve", "()I"⟩]
def mNm_14 : List Jvm.MethodName := [⟨"CardCastleModel", "bestAngle", "(II)I"⟩, ⟨"CardCastleModel", "writeLevel", "(I)I"⟩, ⟨"CardCastleModel", "says", "(I)V"⟩, ⟨"CardCastleModel", "writePair", "(II)I"⟩, ⟨"CardCastleModel", "saysName", "(I)V"⟩, ⟨"CardCastleModel", "saysNumber", "(I)V"⟩, ⟨"CardCastleModel", "writeFalls", "()I"⟩, ⟨"CardCastleModel", "letterOf", "(I)I"⟩, ⟨"CardCastleModel", "textByte", "(I)I"⟩, ⟨"CardCastleModel", "lean", "(IIIII)I"⟩, ⟨"CardCastleModel", "isHanded", "(I)Z"⟩, ⟨"CardCastleModel", "keepsAll", "()V"⟩, ⟨"CardCastleModel", "keeps", "(I)V"⟩, ⟨"CardCastleModel", "lay", "(III)I"⟩, ⟨"CardCastleModel", "pull", "(I)I"⟩, ⟨"CardCastleModel", "takeDown", "(II)I"⟩, ⟨"CardCastleModel", "lift", "(II)I"⟩, ⟨"CardCastleModel", "pickUp", "(I)I"⟩, ⟨"CardCastleModel", "tremor", "(II)I"⟩, ⟨"CardCastleModel", "tick", "(I)I"⟩]
def mNm_15 : List Jvm.MethodName := [⟨"CardCastleModel", "calms", "(I)V"⟩, ⟨"CardCastleModel", "wobbling", "()I"⟩, ⟨"CardCastleModel", "turn", "(III)I"⟩, ⟨"CardCastleModel", "smooth", "(I)I"⟩, ⟨"CardCastleModel", "undo", "()I"⟩, ⟨"CardCastleModel", "fetches", "(I)V"⟩, ⟨"CardCastleModel", "undoable", "()I"⟩, ⟨"CardCastleModel", "save", "(I)I"⟩, ⟨"CardCastleModel", "restore", "(I)I"⟩, ⟨"CardCastleLaw", "load", "(LCardCastle;I[J)I"⟩, ⟨"CardCastleLaw", "find", "(LCardCastle;I[J)I"⟩, ⟨"CardCastleLaw", "count", "(LCardCastle;I[J)I"⟩, ⟨"CardCastleLaw", "setting", "(LCardCastle;I[J)I"⟩, ⟨"CardCastleLaw", "card", "(LCardCastle;II[J)I"⟩, ⟨"CardCastleLaw", "pair", "(LCardCastle;III[J)I"⟩, ⟨"CardCastleLaw", "flat", "(LCardCastle;III[J)I"⟩, ⟨"CardCastleLaw", "fall", "(LCardCastle;II[J)I"⟩, ⟨"CardCastleLaw", "inHand", "(LCardCastle;I[J)I"⟩, ⟨"CardCastleLaw", "onHeap", "(LCardCastle;I[J)I"⟩, ⟨"CardCastleLaw", "canLean", "(LCardCastle;II[J)I"⟩]
def mNm_16 : List Jvm.MethodName := [⟨"CardCastleLaw", "canLay", "(LCardCastle;II[J)I"⟩, ⟨"CardCastleLaw", "top", "(LCardCastle;[J)I"⟩, ⟨"CardCastleLaw", "weakest", "(LCardCastle;[J)I"⟩, ⟨"CardCastleLaw", "shakiest", "(LCardCastle;[J)I"⟩, ⟨"CardCastleLaw", "supported", "(LCardCastle;II[J)I"⟩, ⟨"CardCastleLaw", "above", "(LCardCastle;II[J)I"⟩, ⟨"CardCastleLaw", "onTable", "(LCardCastle;I[J)I"⟩, ⟨"CardCastleLaw", "weight", "(LCardCastle;[J)I"⟩, ⟨"CardCastleLaw", "meanReserve", "(LCardCastle;[D)I"⟩, ⟨"CardCastleLaw", "builtShare", "(LCardCastle;[D)I"⟩, ⟨"CardCastleLaw", "strengthOf", "(LCardCastle;III[J)I"⟩, ⟨"CardCastleLaw", "stiffest", "(LCardCastle;[J)I"⟩, ⟨"CardCastleLaw", "fallsBy", "(LCardCastle;II[J)I"⟩, ⟨"CardCastleLaw", "leastForce", "(LCardCastle;I[J)I"⟩, ⟨"CardCastleLaw", "worstColumn", "(LCardCastle;I[J)I"⟩, ⟨"CardCastleLaw", "calmIn", "(LCardCastle;[J)I"⟩, ⟨"CardCastleLaw", "tremorsTo", "(LCardCastle;II[J)I"⟩, ⟨"CardCastleLaw", "fallsIfPulled", "(LCardCastle;I[J)I"⟩, ⟨"CardCastleLaw", "safest", "(LCardCastle;I[J)I"⟩, ⟨"CardCastleLaw", "bestAngle", "(LCardCastle;II[J)I"⟩]
def mNm_17 : List Jvm.MethodName := [⟨"CardCastleLaw", "writeLevel", "(LCardCastle;I[J)I"⟩, ⟨"CardCastleLaw", "writePair", "(LCardCastle;II[J)I"⟩, ⟨"CardCastleLaw", "writeFalls", "(LCardCastle;[J)I"⟩, ⟨"CardCastleLaw", "textByte", "(LCardCastle;I[J)I"⟩, ⟨"CardCastleLaw", "lean", "(LCardCastle;IIIII[J)I"⟩, ⟨"CardCastleLaw", "lay", "(LCardCastle;III[J)I"⟩, ⟨"CardCastleLaw", "pull", "(LCardCastle;I[J)I"⟩, ⟨"CardCastleLaw", "takeDown", "(LCardCastle;II[J)I"⟩, ⟨"CardCastleLaw", "lift", "(LCardCastle;II[J)I"⟩, ⟨"CardCastleLaw", "pickUp", "(LCardCastle;I[J)I"⟩, ⟨"CardCastleLaw", "tremor", "(LCardCastle;II[J)I"⟩, ⟨"CardCastleLaw", "tick", "(LCardCastle;I[J)I"⟩, ⟨"CardCastleLaw", "turn", "(LCardCastle;III[J)I"⟩, ⟨"CardCastleLaw", "smooth", "(LCardCastle;I[J)I"⟩, ⟨"CardCastleLaw", "undo", "(LCardCastle;[J)I"⟩, ⟨"CardCastleLaw", "save", "(LCardCastle;I[J)I"⟩, ⟨"CardCastleLaw", "restore", "(LCardCastle;I[J)I"⟩, ⟨"CardCastleLaw", "law", "([I)Z"⟩]
def mNm_L : List (List Jvm.MethodName) := [mNm_0, mNm_1, mNm_2, mNm_3, mNm_4, mNm_5, mNm_6, mNm_7, mNm_8, mNm_9, mNm_10, mNm_11, mNm_12, mNm_13, mNm_14, mNm_15, mNm_16, mNm_17]
def mNm (m : Nat) : Jvm.MethodName := (mNm_L.getD (m / 20) []).getD (m % 20) ⟨"", "", ""⟩
def mByt_0 : List ByteArray := [prog_2_method_1_code, prog_2_method_3_code, prog_2_method_4_code, prog_2_method_2_code, prog_2_method_9_code, prog_2_method_8_code, prog_2_method_6_code, prog_2_method_7_code, prog_2_method_5_code, prog_2_method_10_code, prog_3_method_1_code, prog_3_method_3_code, prog_3_method_6_code, prog_3_method_4_code, prog_3_method_5_code, prog_3_method_19_code, prog_3_method_7_code, prog_3_method_20_code, prog_3_method_2_code, prog_3_method_23_code]
def mByt_1 : List ByteArray := [prog_3_method_24_code, prog_3_method_15_code, prog_3_method_14_code, prog_3_method_13_code, prog_3_method_12_code, prog_3_method_11_code, prog_3_method_30_code, prog_3_method_32_code, prog_3_method_31_code, prog_3_method_9_code, prog_3_method_10_code, prog_3_method_17_code, prog_3_method_29_code, prog_3_method_16_code, prog_3_method_18_code, prog_3_method_25_code, prog_3_method_26_code, prog_3_method_27_code, prog_3_method_28_code, prog_3_method_22_code]
def mByt_2 : List ByteArray := [prog_3_method_8_code, prog_3_method_21_code, prog_4_method_1_code, prog_4_method_3_code, prog_4_method_2_code, prog_4_method_4_code, prog_4_method_6_code, prog_4_method_5_code, prog_4_method_7_code, prog_5_method_1_code, prog_5_method_3_code, prog_5_method_4_code, prog_5_method_5_code, prog_5_method_2_code, prog_5_method_6_code, prog_5_method_7_code, prog_5_method_8_code, prog_5_method_9_code, prog_5_method_10_code, prog_6_method_1_code]
def mByt_3 : List ByteArray := [prog_6_method_2_code, prog_6_method_3_code, prog_7_method_1_code, prog_7_method_2_code, prog_7_method_3_code, prog_7_method_4_code, prog_8_method_1_code, prog_8_method_2_code, prog_8_method_4_code, prog_8_method_3_code, prog_8_method_10_code, prog_8_method_5_code, prog_8_method_6_code, prog_8_method_7_code, prog_8_method_9_code, prog_8_method_11_code, prog_8_method_8_code, prog_9_method_1_code, prog_9_method_3_code, prog_9_method_7_code]
def mByt_4 : List ByteArray := [prog_9_method_4_code, prog_9_method_5_code, prog_9_method_2_code, prog_9_method_6_code, prog_10_method_1_code, prog_10_method_2_code, prog_10_method_3_code, prog_11_method_1_code, prog_11_method_2_code, prog_11_method_4_code, prog_11_method_5_code, prog_11_method_3_code, prog_12_method_1_code, prog_12_method_2_code, prog_12_method_3_code, prog_12_method_4_code, prog_12_method_5_code, prog_12_method_6_code, prog_1_method_1_code, prog_1_method_2_code]
def mByt_5 : List ByteArray := [prog_1_method_4_code, prog_1_method_5_code, prog_1_method_6_code, prog_1_method_52_code, prog_1_method_3_code, prog_1_method_59_code, prog_1_method_56_code, prog_1_method_57_code, prog_1_method_69_code, prog_1_method_68_code, prog_1_method_70_code, prog_1_method_65_code, prog_1_method_66_code, prog_1_method_7_code, prog_1_method_60_code, prog_1_method_55_code, prog_1_method_8_code, prog_1_method_58_code, prog_1_method_9_code, prog_1_method_10_code]
def mByt_6 : List ByteArray := [prog_1_method_61_code, prog_1_method_11_code, prog_1_method_62_code, prog_1_method_12_code, prog_1_method_13_code, prog_1_method_14_code, prog_1_method_15_code, prog_1_method_16_code, prog_1_method_17_code, prog_1_method_18_code, prog_1_method_19_code, prog_1_method_67_code, prog_1_method_20_code, prog_1_method_21_code, prog_1_method_22_code, prog_1_method_23_code, prog_1_method_24_code, prog_1_method_25_code, prog_1_method_26_code, prog_1_method_27_code]
def mByt_7 : List ByteArray := [prog_1_method_28_code, prog_1_method_29_code, prog_1_method_63_code, prog_1_method_6_code, prog_1_method_30_code, prog_1_method_31_code, prog_1_method_32_code, prog_1_method_33_code, prog_1_method_34_code, prog_1_method_35_code, prog_1_method_64_code, prog_1_method_36_code, prog_1_method_37_code, prog_1_method_38_code, prog_1_method_39_code, prog_1_method_71_code, prog_1_method_40_code, prog_1_method_41_code, prog_1_method_42_code, prog_1_method_43_code]
def mByt_8 : List ByteArray := [prog_1_method_44_code, prog_1_method_45_code, prog_1_method_46_code, prog_1_method_47_code, prog_1_method_48_code, prog_1_method_49_code, prog_1_method_50_code, prog_1_method_51_code, prog_1_method_53_code, prog_1_method_54_code, prog_14_method_1_code, prog_14_method_2_code, prog_14_method_7_code, prog_14_method_8_code, prog_14_method_9_code, prog_14_method_10_code, prog_14_method_31_code, prog_14_method_3_code, prog_14_method_5_code, prog_14_method_21_code]
def mByt_9 : List ByteArray := [prog_14_method_30_code, prog_14_method_23_code, prog_14_method_14_code, prog_14_method_11_code, prog_14_method_12_code, prog_14_method_13_code, prog_14_method_18_code, prog_14_method_16_code, prog_14_method_15_code, prog_14_method_17_code, prog_14_method_20_code, prog_14_method_19_code, prog_14_method_29_code, prog_14_method_25_code, prog_14_method_24_code, prog_14_method_34_code, prog_14_method_27_code, prog_14_method_41_code, prog_14_method_39_code, prog_14_method_36_code]
def mByt_10 : List ByteArray := [prog_14_method_35_code, prog_14_method_37_code, prog_14_method_40_code, prog_14_method_26_code, prog_14_method_33_code, prog_14_method_44_code, prog_14_method_38_code, prog_14_method_43_code, prog_14_method_28_code, prog_14_method_42_code, prog_14_method_45_code, prog_14_method_22_code, prog_14_method_61_code, prog_14_method_52_code, prog_14_method_51_code, prog_14_method_50_code, prog_14_method_49_code, prog_14_method_60_code, prog_14_method_53_code, prog_14_method_48_code]
def mByt_11 : List ByteArray := [prog_14_method_47_code, prog_14_method_46_code, prog_14_method_59_code, prog_14_method_54_code, prog_14_method_4_code, prog_14_method_57_code, prog_14_method_55_code, prog_14_method_56_code, prog_14_method_58_code, prog_14_method_32_code, prog_14_method_6_code, prog_14_method_70_code, prog_14_method_68_code, prog_14_method_65_code, prog_14_method_66_code, prog_14_method_69_code, prog_14_method_71_code, prog_14_method_75_code, prog_14_method_73_code, prog_14_method_72_code]
def mByt_12 : List ByteArray := [prog_14_method_76_code, prog_14_method_74_code, prog_14_method_77_code, prog_14_method_80_code, prog_14_method_78_code, prog_14_method_79_code, prog_14_method_81_code, prog_14_method_82_code, prog_14_method_83_code, prog_14_method_84_code, prog_14_method_85_code, prog_14_method_87_code, prog_14_method_86_code, prog_14_method_88_code, prog_14_method_91_code, prog_14_method_89_code, prog_14_method_90_code, prog_14_method_93_code, prog_14_method_92_code, prog_14_method_94_code]
def mByt_13 : List ByteArray := [prog_14_method_95_code, prog_14_method_96_code, prog_14_method_97_code, prog_14_method_99_code, prog_14_method_98_code, prog_14_method_100_code, prog_14_method_103_code, prog_14_method_101_code, prog_14_method_102_code, prog_14_method_63_code, prog_14_method_62_code, prog_14_method_104_code, prog_14_method_105_code, prog_14_method_106_code, prog_14_method_107_code, prog_14_method_109_code, prog_14_method_108_code, prog_14_method_112_code, prog_14_method_111_code, prog_14_method_110_code]
def mByt_14 : List ByteArray := [prog_14_method_113_code, prog_14_method_117_code, prog_14_method_114_code, prog_14_method_118_code, prog_14_method_116_code, prog_14_method_115_code, prog_14_method_120_code, prog_14_method_119_code, prog_14_method_121_code, prog_14_method_126_code, prog_14_method_125_code, prog_14_method_124_code, prog_14_method_122_code, prog_14_method_127_code, prog_14_method_128_code, prog_14_method_129_code, prog_14_method_130_code, prog_14_method_131_code, prog_14_method_132_code, prog_14_method_133_code]
def mByt_15 : List ByteArray := [prog_14_method_64_code, prog_14_method_67_code, prog_14_method_134_code, prog_14_method_135_code, prog_14_method_136_code, prog_14_method_123_code, prog_14_method_137_code, prog_14_method_138_code, prog_14_method_139_code, method_3_code, method_4_code, method_5_code, method_6_code, method_7_code, method_8_code, method_9_code, method_10_code, method_11_code, method_12_code, method_13_code]
def mByt_16 : List ByteArray := [method_14_code, method_15_code, method_16_code, method_17_code, method_18_code, method_19_code, method_20_code, method_21_code, method_22_code, method_23_code, method_24_code, method_25_code, method_26_code, method_27_code, method_28_code, method_29_code, method_30_code, method_31_code, method_32_code, method_33_code]
def mByt_17 : List ByteArray := [method_34_code, method_35_code, method_36_code, method_37_code, method_38_code, method_39_code, method_40_code, method_41_code, method_42_code, method_43_code, method_44_code, method_45_code, method_46_code, method_47_code, method_48_code, method_49_code, method_50_code, code]
def mByt_L : List (List ByteArray) := [mByt_0, mByt_1, mByt_2, mByt_3, mByt_4, mByt_5, mByt_6, mByt_7, mByt_8, mByt_9, mByt_10, mByt_11, mByt_12, mByt_13, mByt_14, mByt_15, mByt_16, mByt_17]
def mByt (m : Nat) : ByteArray := (mByt_L.getD (m / 20) []).getD (m % 20) .empty
def mRT_0 : List (Option FieldType) := [none, none, (some .boolean), none, none, none, (some .int), (some .int), (some .boolean), none, none, none, (some .boolean), (some .boolean), (some .boolean), none, (some .boolean), none, none, (some .int)]
def mRT_1 : List (Option FieldType) := [(some .int), (some .int), (some .int), (some .int), (some .int), (some .int), none, none, none, (some .int), (some .boolean), (some .int), (some .int), (some .int), (some .int), (some .int), (some .int), (some .boolean), (some .int), none]
def mRT_2 : List (Option FieldType) := [(some .boolean), none, none, none, none, none, (some .int), (some .int), (some .int), none, none, (some .boolean), (some .boolean), none, (some .int), (some .int), (some .int), (some .int), (some .int), none]
def mRT_3 : List (Option FieldType) := [none, none, none, none, (some .int), (some .int), none, (some .boolean), (some .boolean), (some .boolean), (some .boolean), (some .boolean), (some .boolean), (some .boolean), (some .boolean), (some .int), (some .boolean), none, none, (some .int)]
def mRT_4 : List (Option FieldType) := [(some .int), (some .int), none, (some .int), none, none, none, none, none, none, none, none, none, none, none, (some .int), (some .int), (some .boolean), none, (some .int)]
def mRT_5 : List (Option FieldType) := [(some .int), (some .int), (some .int), (some .int), (some .int), none, none, none, (some .int), (some .int), (some .int), (some .int), (some .int), (some .int), none, none, (some .int), none, (some .int), (some .int)]
def mRT_6 : List (Option FieldType) := [none, (some .int), none, (some .int), (some .int), (some .int), (some .int), (some .boolean), (some .boolean), (some .int), (some .int), (some .int), (some .int), (some .int), (some .int), (some .int), (some .int), (some .double), (some .float), (some .int)]
def mRT_7 : List (Option FieldType) := [(some .int), (some .int), none, (some .int), (some .int), (some .int), (some .int), (some .int), (some .int), (some .int), (some .int), (some .int), (some .int), (some .int), (some .int), (some .char), (some .int), (some .int), (some .int), (some .int)]
def mRT_8 : List (Option FieldType) := [(some .int), (some .int), (some .int), (some .int), (some .int), (some .int), (some .int), (some .int), (some .int), (some .int), none, (some .int), (some .int), (some .int), (some .int), (some .int), (some .int), (some .boolean), (some .boolean), none]
def mRT_9 : List (Option FieldType) := [none, none, none, (some .int), (some .boolean), (some .boolean), (some .boolean), none, none, none, (some .int), (some .int), none, none, (some .int), none, none, (some .boolean), (some .boolean), (some .boolean)]
def mRT_10 : List (Option FieldType) := [(some .int), (some .int), (some .boolean), (some .int), (some .int), none, none, none, none, (some .boolean), none, none, none, none, (some .int), (some .int), (some .int), (some .int), (some .int), (some .int)]
def mRT_11 : List (Option FieldType) := [(some .int), (some .int), none, none, (some .int), none, none, none, (some .boolean), (some .int), (some .boolean), (some .int), (some .int), (some .int), (some .int), (some .int), (some .int), (some .int), (some .boolean), (some .boolean)]
def mRT_12 : List (Option FieldType) := [(some .int), (some .boolean), (some .int), (some .int), (some .int), (some .int), (some .int), (some .int), (some .boolean), (some .boolean), (some .int), (some .int), (some .int), (some .int), (some .int), none, none, (some .int), (some .int), (some .int)]
def mRT_13 : List (Option FieldType) := [(some .int), (some .double), (some .float), (some .int), (some .boolean), (some .int), (some .int), (some .boolean), (some .int), (some .int), none, (some .int), (some .int), (some .int), (some .int), (some .int), (some .int), (some .int), (some .int), (some .int)]
def mRT_14 : List (Option FieldType) := [(some .int), (some .int), none, (some .int), none, none, (some .int), (some .int), (some .int), (some .int), (some .boolean), none, none, (some .int), (some .int), (some .int), (some .int), (some .int), (some .int), (some .int)]
def mRT_15 : List (Option FieldType) := [none, (some .int), (some .int), (some .int), (some .int), none, (some .int), (some .int), (some .int), (some .int), (some .int), (some .int), (some .int), (some .int), (some .int), (some .int), (some .int), (some .int), (some .int), (some .int)]
def mRT_16 : List (Option FieldType) := [(some .int), (some .int), (some .int), (some .int), (some .int), (some .int), (some .int), (some .int), (some .int), (some .int), (some .int), (some .int), (some .int), (some .int), (some .int), (some .int), (some .int), (some .int), (some .int), (some .int)]
def mRT_17 : List (Option FieldType) := [(some .int), (some .int), (some .int), (some .int), (some .int), (some .int), (some .int), (some .int), (some .int), (some .int), (some .int), (some .int), (some .int), (some .int), (some .int), (some .int), (some .int), (some .boolean)]
def mRT_L : List (List (Option FieldType)) := [mRT_0, mRT_1, mRT_2, mRT_3, mRT_4, mRT_5, mRT_6, mRT_7, mRT_8, mRT_9, mRT_10, mRT_11, mRT_12, mRT_13, mRT_14, mRT_15, mRT_16, mRT_17]
def mRT (m : Nat) : (Option FieldType) := (mRT_L.getD (m / 20) []).getD (m % 20) none
def mHH_0 : List (Option (List (Nat × Nat × Nat × Nat))) := [none, none, none, none, none, none, none, none, none, none, none, none, none, none, none, none, none, none, none, none]
def mHH_1 : List (Option (List (Nat × Nat × Nat × Nat))) := [none, none, none, none, none, none, none, none, none, none, none, none, none, none, none, none, none, none, none, none]
def mHH_2 : List (Option (List (Nat × Nat × Nat × Nat))) := [none, none, none, none, none, none, none, none, none, none, none, none, none, none, none, none, none, none, none, none]
def mHH_3 : List (Option (List (Nat × Nat × Nat × Nat))) := [none, none, none, none, none, none, none, none, none, none, none, none, none, none, none, none, none, none, none, none]
def mHH_4 : List (Option (List (Nat × Nat × Nat × Nat))) := [none, none, none, none, none, none, none, none, none, none, none, none, none, none, none, none, none, none, none, none]
def mHH_5 : List (Option (List (Nat × Nat × Nat × Nat))) := [none, none, none, none, none, none, none, none, none, none, none, none, none, none, none, none, none, none, none, none]
def mHH_6 : List (Option (List (Nat × Nat × Nat × Nat))) := [none, none, none, none, none, none, none, none, none, none, none, none, none, none, none, none, none, none, none, none]
def mHH_7 : List (Option (List (Nat × Nat × Nat × Nat))) := [none, none, none, none, none, none, none, none, none, none, none, none, none, none, none, none, none, none, none, none]
def mHH_8 : List (Option (List (Nat × Nat × Nat × Nat))) := [none, none, none, none, none, none, none, none, none, none, none, none, none, none, none, none, none, none, none, none]
def mHH_9 : List (Option (List (Nat × Nat × Nat × Nat))) := [none, none, none, none, none, none, none, none, none, none, none, none, none, none, none, none, none, none, none, none]
def mHH_10 : List (Option (List (Nat × Nat × Nat × Nat))) := [none, none, none, none, none, none, none, none, none, none, none, none, none, none, none, none, none, none, none, none]
def mHH_11 : List (Option (List (Nat × Nat × Nat × Nat))) := [none, none, none, none, none, none, none, none, none, none, none, none, none, none, none, none, none, none, none, none]
def mHH_12 : List (Option (List (Nat × Nat × Nat × Nat))) := [none, none, none, none, none, none, none, none, none, none, none, none, none, none, none, none, none, none, none, none]
def mHH_13 : List (Option (List (Nat × Nat × Nat × Nat))) := [none, none, none, none, none, none, none, none, none, none, none, none, none, none, none, none, none, none, none, none]
def mHH_14 : List (Option (List (Nat × Nat × Nat × Nat))) := [none, none, none, none, none, none, none, none, none, none, none, none, none, none, none, none, none, none, none, none]
def mHH_15 : List (Option (List (Nat × Nat × Nat × Nat))) := [none, none, none, none, none, none, none, none, none, (some [(0, 9, 12, 13), (0, 9, 15, 15)]), (some [(0, 9, 12, 20), (0, 9, 15, 13)]), (some [(0, 9, 12, 20), (0, 9, 15, 15)]), (some [(0, 9, 12, 20), (0, 9, 15, 15)]), (some [(0, 10, 13, 20), (0, 10, 17, 13), (0, 10, 21, 15)]), (some [(0, 12, 15, 20), (0, 12, 19, 13), (0, 12, 23, 15)]), (some [(0, 12, 15, 20), (0, 12, 19, 13), (0, 12, 23, 15)]), (some [(0, 10, 13, 20), (0, 10, 17, 13), (0, 10, 21, 15)]), (some [(0, 9, 12, 20), (0, 9, 15, 13)]), (some [(0, 9, 12, 20), (0, 9, 15, 13)]), (some [(0, 17, 20, 20), (0, 17, 24, 13)])]
def mHH_16 : List (Option (List (Nat × Nat × Nat × Nat))) := [(some [(0, 17, 20, 20), (0, 17, 24, 13)]), (some [(0, 8, 11, 20)]), (some [(0, 8, 11, 20)]), (some [(0, 8, 11, 20)]), (some [(0, 10, 13, 20), (0, 10, 17, 13)]), (some [(0, 10, 13, 20), (0, 10, 17, 13)]), (some [(0, 9, 12, 20), (0, 9, 15, 13)]), (some [(0, 8, 11, 20)]), (some [(0, 7, 10, 20)]), (some [(0, 8, 11, 20)]), (some [(0, 12, 15, 20), (0, 12, 19, 13), (0, 12, 23, 15)]), (some [(0, 8, 11, 20)]), (some [(0, 10, 13, 20), (0, 10, 17, 15)]), (some [(0, 9, 12, 20), (0, 9, 15, 15)]), (some [(0, 9, 12, 20), (0, 9, 15, 15)]), (some [(0, 8, 11, 20)]), (some [(0, 10, 13, 20), (0, 10, 17, 15)]), (some [(0, 9, 12, 20), (0, 9, 15, 13)]), (some [(0, 9, 12, 20), (0, 9, 15, 13)]), (some [(0, 10, 13, 20), (0, 10, 17, 13)])]
def mHH_17 : List (Option (List (Nat × Nat × Nat × Nat))) := [(some [(0, 9, 12, 20), (0, 9, 15, 13)]), (some [(0, 10, 13, 20), (0, 10, 17, 13)]), (some [(0, 8, 11, 20)]), (some [(0, 9, 12, 13)]), (some [(0, 16, 19, 20), (0, 16, 23, 13), (0, 16, 27, 15)]), (some [(0, 12, 15, 20), (0, 12, 19, 13), (0, 12, 23, 15)]), (some [(0, 9, 12, 20), (0, 9, 15, 13), (0, 9, 18, 15)]), (some [(0, 10, 13, 20), (0, 10, 17, 13), (0, 10, 21, 15)]), (some [(0, 10, 13, 20), (0, 10, 17, 13), (0, 10, 21, 15)]), (some [(0, 9, 12, 20), (0, 9, 15, 13), (0, 9, 18, 15)]), (some [(0, 10, 13, 20), (0, 10, 17, 15)]), (some [(0, 9, 12, 20), (0, 9, 15, 15)]), (some [(0, 12, 15, 20), (0, 12, 19, 13), (0, 12, 23, 15)]), (some [(0, 9, 12, 20), (0, 9, 15, 13), (0, 9, 18, 15)]), (some [(0, 8, 11, 20)]), (some [(0, 9, 12, 20), (0, 9, 15, 13)]), (some [(0, 9, 12, 13), (0, 9, 15, 20)]), none]
def mHH_L : List (List (Option (List (Nat × Nat × Nat × Nat)))) := [mHH_0, mHH_1, mHH_2, mHH_3, mHH_4, mHH_5, mHH_6, mHH_7, mHH_8, mHH_9, mHH_10, mHH_11, mHH_12, mHH_13, mHH_14, mHH_15, mHH_16, mHH_17]
def mHH (m : Nat) : (Option (List (Nat × Nat × Nat × Nat))) := (mHH_L.getD (m / 20) []).getD (m % 20) none
def mWord (y : Nat) : Jvm.Cond := match mHH y with
  | none => .code (mNm y) (mByt y) (mMaxL y) (mRT y)
  | some hh => .codeWith (mNm y) (mByt y) (mMaxL y) (mRT y) hh
def mWP_0 : List Nat := [271, 581, 747, 799, 883, 887, 938, 1040, 1343, 1378, 215, 577, 718, 722, 735, 752, 761, 765, 795, 814]
def mWP_1 : List Nat := [818, 839, 843, 847, 851, 855, 871, 879, 891, 979, 983, 1081, 1106, 1117, 1145, 1183, 1187, 1204, 1236, 1252]
def mWP_2 : List Nat := [1355, 1359, 253, 591, 809, 875, 957, 1023, 1028, 221, 586, 731, 739, 804, 943, 948, 1095, 1192, 1396, 390]
def mWP_3 : List Nat := [1322, 1424, 138, 463, 611, 619, 207, 566, 603, 680, 688, 692, 697, 706, 710, 743, 757, 155, 570, 701]
def mWP_4 : List Nat := [714, 726, 788, 953, 191, 822, 827, 410, 1271, 1282, 1286, 1291, 334, 596, 607, 615, 623, 628, 130, 459]
def mWP_5 : List Nat := [467, 471, 475, 479, 488, 492, 495, 768, 832, 835, 858, 864, 867, 899, 903, 906, 931, 934, 964, 971]
def mWP_6 : List Nat := [975, 992, 996, 1009, 1019, 1036, 1047, 1054, 1062, 1070, 1077, 1084, 1091, 1102, 1113, 1127, 1134, 1141, 1152, 1159]
def mWP_7 : List Nat := [1167, 1175, 1179, 475, 1200, 1211, 1218, 1225, 1232, 1243, 1247, 1259, 1267, 1278, 1298, 1301, 1311, 1318, 1332, 1339]
def mWP_8 : List Nat := [1350, 1366, 1374, 1385, 1392, 1406, 1413, 1420, 1432, 1439, 1444, 1561, 1565, 1569, 1573, 1577, 1581, 1584, 1588, 1592]
def mWP_9 : List Nat := [1596, 1600, 1604, 1608, 1611, 1614, 1619, 1625, 1629, 1633, 1637, 1641, 1645, 1650, 1654, 1658, 1663, 1667, 1671, 1675]
def mWP_10 : List Nat := [1678, 1682, 1686, 1690, 1694, 1698, 1702, 1706, 1711, 1715, 1719, 1723, 1727, 1731, 1735, 1738, 1742, 1746, 1750, 1754]
def mWP_11 : List Nat := [1758, 1761, 1766, 1770, 1773, 1777, 1781, 1785, 1789, 1793, 1797, 1801, 1805, 1809, 1813, 1817, 1822, 1826, 1830, 1834]
def mWP_12 : List Nat := [1838, 1842, 1846, 1850, 1854, 1859, 1863, 1867, 1871, 1875, 1879, 1883, 1886, 1890, 1894, 1898, 1902, 1906, 1910, 1914]
def mWP_13 : List Nat := [1918, 1922, 1926, 1930, 1933, 1937, 1941, 1945, 1949, 1953, 1957, 1961, 1965, 1969, 1973, 1977, 1981, 1985, 1989, 1993]
def mWP_14 : List Nat := [1998, 2002, 2006, 2010, 2014, 2018, 2022, 2025, 2029, 2033, 2037, 2041, 2045, 2049, 2053, 2057, 2061, 2065, 2069, 2073]
def mWP_15 : List Nat := [2077, 2081, 2085, 2089, 2093, 2097, 2101, 2105, 2109, 482, 894, 927, 960, 967, 988, 1005, 1015, 1032, 1043, 1050]
def mWP_16 : List Nat := [1058, 1066, 1073, 1087, 1098, 1109, 1123, 1130, 1137, 1148, 1155, 1163, 1171, 1196, 1207, 1214, 1221, 1228, 1239, 1255]
def mWP_17 : List Nat := [1263, 1274, 1294, 1307, 1314, 1328, 1335, 1346, 1362, 1370, 1381, 1388, 1402, 1409, 1416, 1428, 1435, 0]
def mWP_L : List (List Nat) := [mWP_0, mWP_1, mWP_2, mWP_3, mWP_4, mWP_5, mWP_6, mWP_7, mWP_8, mWP_9, mWP_10, mWP_11, mWP_12, mWP_13, mWP_14, mWP_15, mWP_16, mWP_17]
def mWP (m : Nat) : Nat := (mWP_L.getD (m / 20) []).getD (m % 20) 0
def mKindP_0 : List Nat := [270, 579, 745, 797, 881, 885, 936, 1038, 1341, 1376, 214, 575, 716, 720, 733, 750, 759, 763, 793, 812]
def mKindP_1 : List Nat := [817, 837, 841, 845, 849, 853, 870, 878, 890, 977, 981, 1079, 1104, 1115, 1143, 1181, 1186, 1202, 1234, 1250]
def mKindP_2 : List Nat := [1353, 1357, 252, 589, 807, 873, 955, 1021, 1026, 220, 584, 729, 737, 802, 941, 946, 1093, 1190, 1394, 389]
def mKindP_3 : List Nat := [1320, 1422, 137, 461, 609, 617, 206, 564, 602, 679, 687, 691, 696, 705, 709, 742, 756, 154, 568, 699]
def mKindP_4 : List Nat := [712, 724, 786, 951, 190, 820, 826, 409, 1269, 1280, 1285, 1289, 333, 594, 605, 614, 622, 626, 129, 457]
def mKindP_5 : List Nat := [465, 469, 473, 477, 486, 491, 494, 767, 831, 834, 857, 863, 866, 897, 902, 905, 929, 933, 962, 969]
def mKindP_6 : List Nat := [974, 990, 995, 1007, 1017, 1034, 1045, 1052, 1060, 1068, 1075, 1083, 1089, 1100, 1111, 1125, 1132, 1139, 1150, 1157]
def mKindP_7 : List Nat := [1165, 1173, 1178, 473, 1198, 1209, 1216, 1223, 1230, 1241, 1246, 1257, 1265, 1276, 1296, 1300, 1309, 1316, 1330, 1337]
def mKindP_8 : List Nat := [1348, 1364, 1372, 1383, 1390, 1404, 1411, 1418, 1430, 1437, 1443, 1559, 1563, 1567, 1571, 1575, 1579, 1583, 1587, 1591]
def mKindP_9 : List Nat := [1595, 1599, 1603, 1607, 1610, 1613, 1618, 1624, 1628, 1632, 1636, 1640, 1644, 1649, 1653, 1657, 1662, 1666, 1670, 1674]
def mKindP_10 : List Nat := [1677, 1681, 1685, 1689, 1693, 1697, 1701, 1705, 1710, 1714, 1718, 1722, 1726, 1730, 1734, 1737, 1741, 1745, 1749, 1753]
def mKindP_11 : List Nat := [1757, 1760, 1765, 1769, 1772, 1776, 1780, 1784, 1788, 1791, 1796, 1799, 1804, 1808, 1812, 1816, 1820, 1824, 1829, 1833]
def mKindP_12 : List Nat := [1836, 1841, 1844, 1848, 1853, 1858, 1861, 1865, 1869, 1873, 1877, 1881, 1885, 1888, 1892, 1897, 1901, 1904, 1909, 1912]
def mKindP_13 : List Nat := [1916, 1920, 1924, 1928, 1932, 1935, 1939, 1944, 1948, 1952, 1956, 1959, 1963, 1967, 1971, 1975, 1980, 1983, 1988, 1992]
def mKindP_14 : List Nat := [1996, 2000, 2005, 2008, 2013, 2017, 2020, 2024, 2027, 2031, 2036, 2040, 2044, 2047, 2051, 2055, 2059, 2063, 2067, 2071]
def mKindP_15 : List Nat := [2076, 2080, 2083, 2087, 2091, 2096, 2099, 2103, 2107, 481, 893, 926, 959, 966, 987, 1004, 1014, 1031, 1042, 1049]
def mKindP_16 : List Nat := [1057, 1065, 1072, 1086, 1097, 1108, 1122, 1129, 1136, 1147, 1154, 1162, 1170, 1195, 1206, 1213, 1220, 1227, 1238, 1254]
def mKindP_17 : List Nat := [1262, 1273, 1293, 1306, 1313, 1327, 1334, 1345, 1361, 1369, 1380, 1387, 1401, 1408, 1415, 1427, 1434, 0]
def mKindP_L : List (List Nat) := [mKindP_0, mKindP_1, mKindP_2, mKindP_3, mKindP_4, mKindP_5, mKindP_6, mKindP_7, mKindP_8, mKindP_9, mKindP_10, mKindP_11, mKindP_12, mKindP_13, mKindP_14, mKindP_15, mKindP_16, mKindP_17]
def mKindP (m : Nat) : Nat := (mKindP_L.getD (m / 20) []).getD (m % 20) 0
def mSelP_0 : List Nat := [9999, 580, 746, 798, 882, 886, 937, 1039, 1342, 1377, 9999, 576, 717, 721, 734, 751, 760, 764, 794, 813]
def mSelP_1 : List Nat := [13, 838, 842, 846, 850, 854, 15, 16, 17, 978, 982, 1080, 1105, 1116, 1144, 1182, 22, 1203, 1235, 1251]
def mSelP_2 : List Nat := [1354, 1358, 9999, 590, 808, 874, 956, 1022, 1027, 9999, 585, 730, 738, 803, 942, 947, 1094, 1191, 1395, 9999]
def mSelP_3 : List Nat := [1321, 1423, 9999, 462, 610, 618, 9999, 565, 2, 5, 6, 7, 8, 9, 10, 11, 12, 9999, 569, 700]
def mSelP_4 : List Nat := [713, 725, 787, 952, 9999, 821, 14, 9999, 1270, 1281, 24, 1290, 9999, 595, 606, 3, 4, 627, 9999, 458]
def mSelP_5 : List Nat := [466, 470, 474, 478, 487, 0, 9999, 9999, 9999, 9999, 9999, 9999, 9999, 898, 18, 9999, 930, 9999, 963, 970]
def mSelP_6 : List Nat := [19, 991, 20, 1008, 1018, 1035, 1046, 1053, 1061, 1069, 1076, 9999, 1090, 1101, 1112, 1126, 1133, 1140, 1151, 1158]
def mSelP_7 : List Nat := [1166, 1174, 21, 474, 1199, 1210, 1217, 1224, 1231, 1242, 23, 1258, 1266, 1277, 1297, 9999, 1310, 1317, 1331, 1338]
def mSelP_8 : List Nat := [1349, 1365, 1373, 1384, 1391, 1405, 1412, 1419, 1431, 1438, 9999, 1560, 1564, 1568, 1572, 1576, 1580, 9999, 25, 26]
def mSelP_9 : List Nat := [27, 28, 29, 30, 9999, 9999, 31, 32, 33, 34, 35, 36, 37, 38, 39, 40, 41, 42, 43, 44]
def mSelP_10 : List Nat := [9999, 45, 46, 47, 48, 49, 50, 51, 52, 53, 54, 55, 56, 57, 58, 9999, 59, 60, 61, 62]
def mSelP_11 : List Nat := [63, 9999, 64, 65, 9999, 66, 67, 68, 69, 1792, 70, 1800, 71, 72, 73, 74, 1821, 1825, 75, 76]
def mSelP_12 : List Nat := [1837, 77, 1845, 1849, 78, 79, 1862, 1866, 1870, 1874, 1878, 1882, 9999, 1889, 1893, 80, 81, 1905, 82, 1913]
def mSelP_13 : List Nat := [1917, 1921, 1925, 1929, 9999, 1936, 1940, 83, 84, 85, 86, 1960, 1964, 1968, 1972, 1976, 87, 1984, 88, 89]
def mSelP_14 : List Nat := [1997, 2001, 90, 2009, 91, 92, 2021, 9999, 2028, 2032, 93, 94, 95, 2048, 2052, 2056, 2060, 2064, 2068, 2072]
def mSelP_15 : List Nat := [96, 97, 2084, 2088, 2092, 98, 2100, 2104, 2108, 9999, 9999, 9999, 9999, 9999, 9999, 9999, 9999, 9999, 9999, 9999]
def mSelP_16 : List Nat := [9999, 9999, 9999, 9999, 9999, 9999, 9999, 9999, 9999, 9999, 9999, 9999, 9999, 9999, 9999, 9999, 9999, 9999, 9999, 9999]
def mSelP_17 : List Nat := [9999, 9999, 9999, 9999, 9999, 9999, 9999, 9999, 9999, 9999, 9999, 9999, 9999, 9999, 9999, 9999, 9999, 9999]
def mSelP_L : List (List Nat) := [mSelP_0, mSelP_1, mSelP_2, mSelP_3, mSelP_4, mSelP_5, mSelP_6, mSelP_7, mSelP_8, mSelP_9, mSelP_10, mSelP_11, mSelP_12, mSelP_13, mSelP_14, mSelP_15, mSelP_16, mSelP_17]
def mSelP (m : Nat) : Nat := (mSelP_L.getD (m / 20) []).getD (m % 20) 9999
def mIniP : List Nat := [108, 105, 107, 106, 110, 101, 104, 102, 103, 111, 109, 100, 112, 99, 117, 118]
/-- what a program decides of a method but its bytes -/
def mOkM (y : Nat) : Bool := decide ((mNm y).cls = mCN (mOwn y)) && plainName (mNm y).cls && decide ((mNm y).cls ≠ "java/lang/invoke/MethodHandle") && decide ((mNm y).cls ≠ "java/lang/invoke/VarHandle")
  && decide ((parseMethodDescriptor (mNm y).desc).map (fun d => d.parameters.length) = some (match mStat y with
    | true => mArgs y
    | false => mArgs y - 1))
  && decide (lw_tbl[mIniP.getD (mOwn y) 0]? = some (.initialized (mNm y).cls))
  && decide (lw_tbl[mKindP y]? = some (match mStat y with
    | true => .static (mNm y)
    | false => .instanceMethod (mNm y)))
  && (match Nat.beq (mSelP y) 9999 with
    | true => true
    | false => decide (lw_tbl[mSelP y]? = some (.selects (mNm y).cls (mNm y) (mNm y))))
  && (match mInit y with
    | true => decide ((mNm y).name = "<init>") && Nat.beq (mRet y) 0
    | false => true)
  && Nat.ble (mMaxL y) 20 && (match mStat y with
    | true => true
    | false => Nat.blt 0 (mArgs y))
  && decide (mRT y = match mRet y with
    | 0 => none
    | 1 => some .int
    | 2 => some .boolean
    | 3 => some .char
    | 4 => some .float
    | _ => some .double) && Nat.ble (mArgs y) (mMaxL y)
set_option maxRecDepth 100000 in
theorem mOkM_0 : ∀ y, y < 40 → mOkM (0 + y) = true := by decide +kernel
set_option maxRecDepth 100000 in
theorem mOkM_1 : ∀ y, y < 40 → mOkM (40 + y) = true := by decide +kernel
set_option maxRecDepth 100000 in
theorem mOkM_2 : ∀ y, y < 40 → mOkM (80 + y) = true := by decide +kernel
set_option maxRecDepth 100000 in
theorem mOkM_3 : ∀ y, y < 40 → mOkM (120 + y) = true := by decide +kernel
set_option maxRecDepth 100000 in
theorem mOkM_4 : ∀ y, y < 40 → mOkM (160 + y) = true := by decide +kernel
set_option maxRecDepth 100000 in
theorem mOkM_5 : ∀ y, y < 40 → mOkM (200 + y) = true := by decide +kernel
set_option maxRecDepth 100000 in
theorem mOkM_6 : ∀ y, y < 40 → mOkM (240 + y) = true := by decide +kernel
set_option maxRecDepth 100000 in
theorem mOkM_7 : ∀ y, y < 40 → mOkM (280 + y) = true := by decide +kernel
set_option maxRecDepth 100000 in
theorem mOkM_8 : ∀ y, y < 37 → mOkM (320 + y) = true := by decide +kernel
theorem mOkM_all {y : Nat} (h : y < 357) : mOkM y = true := by
  rcases Nat.lt_or_ge y 40 with q | q
  · have := mOkM_0 (y - 0) (by omega)
    rwa [show 0 + (y - 0) = y by omega] at this
  rcases Nat.lt_or_ge y 80 with q | q
  · have := mOkM_1 (y - 40) (by omega)
    rwa [show 40 + (y - 40) = y by omega] at this
  rcases Nat.lt_or_ge y 120 with q | q
  · have := mOkM_2 (y - 80) (by omega)
    rwa [show 80 + (y - 80) = y by omega] at this
  rcases Nat.lt_or_ge y 160 with q | q
  · have := mOkM_3 (y - 120) (by omega)
    rwa [show 120 + (y - 120) = y by omega] at this
  rcases Nat.lt_or_ge y 200 with q | q
  · have := mOkM_4 (y - 160) (by omega)
    rwa [show 160 + (y - 160) = y by omega] at this
  rcases Nat.lt_or_ge y 240 with q | q
  · have := mOkM_5 (y - 200) (by omega)
    rwa [show 200 + (y - 200) = y by omega] at this
  rcases Nat.lt_or_ge y 280 with q | q
  · have := mOkM_6 (y - 240) (by omega)
    rwa [show 240 + (y - 240) = y by omega] at this
  rcases Nat.lt_or_ge y 320 with q | q
  · have := mOkM_7 (y - 280) (by omega)
    rwa [show 280 + (y - 280) = y by omega] at this
  rcases Nat.lt_or_ge y 357 with q | q
  · have := mOkM_8 (y - 320) (by omega)
    rwa [show 320 + (y - 320) = y by omega] at this
  omega
set_option maxRecDepth 100000 in
theorem mWord_0 : ∀ y, y < 40 → lw_tbl[mWP (0 + y)]? = some (mWord (0 + y)) := by decide +kernel
set_option maxRecDepth 100000 in
theorem mWord_1 : ∀ y, y < 40 → lw_tbl[mWP (40 + y)]? = some (mWord (40 + y)) := by decide +kernel
set_option maxRecDepth 100000 in
theorem mWord_2 : ∀ y, y < 40 → lw_tbl[mWP (80 + y)]? = some (mWord (80 + y)) := by decide +kernel
set_option maxRecDepth 100000 in
theorem mWord_3 : ∀ y, y < 40 → lw_tbl[mWP (120 + y)]? = some (mWord (120 + y)) := by decide +kernel
set_option maxRecDepth 100000 in
theorem mWord_4 : ∀ y, y < 40 → lw_tbl[mWP (160 + y)]? = some (mWord (160 + y)) := by decide +kernel
set_option maxRecDepth 100000 in
theorem mWord_5 : ∀ y, y < 40 → lw_tbl[mWP (200 + y)]? = some (mWord (200 + y)) := by decide +kernel
set_option maxRecDepth 100000 in
theorem mWord_6 : ∀ y, y < 40 → lw_tbl[mWP (240 + y)]? = some (mWord (240 + y)) := by decide +kernel
set_option maxRecDepth 100000 in
theorem mWord_7 : ∀ y, y < 40 → lw_tbl[mWP (280 + y)]? = some (mWord (280 + y)) := by decide +kernel
set_option maxRecDepth 100000 in
theorem mWord_8 : ∀ y, y < 37 → lw_tbl[mWP (320 + y)]? = some (mWord (320 + y)) := by decide +kernel
theorem mWord_in {y : Nat} (h : y < 357) : mWord y ∈ gTbl := by
  have hg : goodWord (mWord y) = true := by
    unfold mWord
    cases mHH y <;> rfl
  refine gTbl_of (mWP y) ?_ hg
  rcases Nat.lt_or_ge y 40 with q | q
  · have := mWord_0 (y - 0) (by omega)
    rwa [show 0 + (y - 0) = y by omega] at this
  rcases Nat.lt_or_ge y 80 with q | q
  · have := mWord_1 (y - 40) (by omega)
    rwa [show 40 + (y - 40) = y by omega] at this
  rcases Nat.lt_or_ge y 120 with q | q
  · have := mWord_2 (y - 80) (by omega)
    rwa [show 80 + (y - 80) = y by omega] at this
  rcases Nat.lt_or_ge y 160 with q | q
  · have := mWord_3 (y - 120) (by omega)
    rwa [show 120 + (y - 120) = y by omega] at this
  rcases Nat.lt_or_ge y 200 with q | q
  · have := mWord_4 (y - 160) (by omega)
    rwa [show 160 + (y - 160) = y by omega] at this
  rcases Nat.lt_or_ge y 240 with q | q
  · have := mWord_5 (y - 200) (by omega)
    rwa [show 200 + (y - 200) = y by omega] at this
  rcases Nat.lt_or_ge y 280 with q | q
  · have := mWord_6 (y - 240) (by omega)
    rwa [show 240 + (y - 240) = y by omega] at this
  rcases Nat.lt_or_ge y 320 with q | q
  · have := mWord_7 (y - 280) (by omega)
    rwa [show 280 + (y - 280) = y by omega] at this
  rcases Nat.lt_or_ge y 357 with q | q
  · have := mWord_8 (y - 320) (by omega)
    rwa [show 320 + (y - 320) = y by omega] at this
  omega
