/-! NAMES AND WORDS, by program: what the tables say of each class, method and link of the small machine. -/
def gTbl : List Jvm.Cond := lw_tbl.filter goodWord
theorem gTbl_of {w : Jvm.Cond} (i : Nat) (h : lw_tbl[i]? = some w) (hg : goodWord w = true) : w ∈ gTbl := List.mem_filter.mpr ⟨List.mem_of_getElem? h, hg⟩
def mTL : List (List (String × String × String × Bool)) := [
  [("CardCastle$Cards", "rules", "LCardCastle$Rules;", true), ("CardCastle$Cards", "stiffness", "[I", true), ("CardCastle$Cards", "bends", "[I", true), ("CardCastle$Cards", "spots", "[I", true), ("CardCastle$Cards", "heap", "[I", true), ("CardCastle$Cards", "heaped", "I", false)],
  [("CardCastle$Castle", "rules", "LCardCastle$Rules;", true), ("CardCastle$Castle", "scale", "LCardCastle$Scale;", true), ("CardCastle$Castle", "cards", "LCardCastle$Cards;", true), ("CardCastle$Castle", "grid", "LCardCastle$Grid;", true), ("CardCastle$Castle", "log", "LCardCastle$FallLog;", true), ("CardCastle$Castle", "time", "I", false), ("CardCastle$Castle", "tremors", "I", false)],
  [("CardCastle$FallLog", "parts", "[I", true), ("CardCastle$FallLog", "causes", "[I", true), ("CardCastle$FallLog", "noted", "I", false)],
  [("CardCastle$Grid", "first", "[I", true), ("CardCastle$Grid", "second", "[I", true), ("CardCastle$Grid", "angle", "[I", true), ("CardCastle$Grid", "wobble", "[I", true), ("CardCastle$Grid", "flat", "[I", true)],
  [("CardCastle$History", "castles", "[LCardCastle$Castle;", true), ("CardCastle$History", "kept", "I", false), ("CardCastle$History", "next", "I", false)],
  [("CardCastle$Input", "bytes", "[B", true), ("CardCastle$Input", "length", "I", false)],
  [("CardCastle$Parser", "rules", "LCardCastle$Rules;", true), ("CardCastle$Parser", "castle", "LCardCastle$Castle;", true), ("CardCastle$Parser", "tokens", "LCardCastle$Tokens;", true), ("CardCastle$Parser", "error", "I", false), ("CardCastle$Parser", "errorAt", "I", false), ("CardCastle$Parser", "level", "I", false), ("CardCastle$Parser", "column", "I", false)],
  [("CardCastle$Rules", "settings", "[I", true), ("CardCastle$Rules", "names", "[I", true), ("CardCastle$Rules", "stiffness", "[I", true), ("CardCastle$Rules", "weights", "[I", true), ("CardCastle$Rules", "cards", "I", false)],
  [("CardCastle$Scale", "pairLoads", "[I", true), ("CardCastle$Scale", "flatLoads", "[I", true)],
  [("CardCastle$Text", "signs", "[B", true), ("CardCastle$Text", "length", "I", false)],
  [("CardCastle$Tokens", "input", "LCardCastle$Input;", true), ("CardCastle$Tokens", "end", "I", false), ("CardCastle$Tokens", "next", "I", false), ("CardCastle$Tokens", "start", "I", false), ("CardCastle$Tokens", "kind", "I", false), ("CardCastle$Tokens", "value", "I", false)],
  [("CardCastle", "input", "LCardCastle$Input;", true), ("CardCastle", "rules", "LCardCastle$Rules;", true), ("CardCastle", "scale", "LCardCastle$Scale;", true), ("CardCastle", "parser", "LCardCastle$Parser;", true), ("CardCastle", "castle", "LCardCastle$Castle;", true), ("CardCastle", "trial", "LCardCastle$Castle;", true), ("CardCastle", "history", "LCardCastle$History;", true), ("CardCastle", "saved", "[LCardCastle$Castle;", true), ("CardCastle", "isSaved", "[Z", true), ("CardCastle", "text", "LCardCastle$Text;", true), ("CardCastle", "loaded", "Z", false)],
  [("CardCastleModel", "thrown", "I", false), ("CardCastleModel", "isLoaded", "Z", false), ("CardCastleModel", "wide", "I", false), ("CardCastleModel", "levels", "I", false), ("CardCastleModel", "limit", "I", false), ("CardCastleModel", "damp", "I", false), ("CardCastleModel", "calm", "I", false), ("CardCastleModel", "bend", "I", false), ("CardCastleModel", "cards", "I", false), ("CardCastleModel", "names", "[I", true), ("CardCastleModel", "weights", "[I", true), ("CardCastleModel", "s", "[I", true), ("CardCastleModel", "aside", "[I", true), ("CardCastleModel", "stores", "[I", true), ("CardCastleModel", "changes", "I", false), ("CardCastleModel", "isKept", "[Z", true), ("CardCastleModel", "buffer", "[I", true), ("CardCastleModel", "buffered", "I", false), ("CardCastleModel", "parseError", "I", false), ("CardCastleModel", "errorPosition", "I", false), ("CardCastleModel", "length", "I", false), ("CardCastleModel", "next", "I", false), ("CardCastleModel", "from", "I", false), ("CardCastleModel", "sort", "I", false), ("CardCastleModel", "number", "I", false), ("CardCastleModel", "wrong", "I", false), ("CardCastleModel", "wrongAt", "I", false), ("CardCastleModel", "heldNames", "[I", true), ("CardCastleModel", "heldWeights", "[I", true), ("CardCastleModel", "heldRow", "[I", true), ("CardCastleModel", "held", "[I", true), ("CardCastleModel", "pairLoads", "[I", true), ("CardCastleModel", "flatLoads", "[I", true), ("CardCastleModel", "waits", "[I", true), ("CardCastleModel", "waiting", "I", false), ("CardCastleModel", "text", "[I", true), ("CardCastleModel", "textLong", "I", false)]]
def mT (c : Nat) : u_T := fun k => (mTL.getD c []).getD k ("", "", "", false)
def mTN (c : Nat) : Nat := (mTL.getD c []).length
def mTyL : List (List FieldType) := [
  [.object "CardCastle$Rules", .array (.int), .array (.int), .array (.int), .array (.int), .int],
  [.object "CardCastle$Rules", .object "CardCastle$Scale", .object "CardCastle$Cards", .object "CardCastle$Grid", .object "CardCastle$FallLog", .int, .int],
  [.array (.int), .array (.int), .int],
  [.array (.int), .array (.int), .array (.int), .array (.int), .array (.int)],
  [.array (.object "CardCastle$Castle"), .int, .int],
  [.array (.byte), .int],
  [.object "CardCastle$Rules", .object "CardCastle$Castle", .object "CardCastle$Tokens", .int, .int, .int, .int],
  [.array (.int), .array (.int), .array (.int), .array (.int), .int],
  [.array (.int), .array (.int)],
  [.array (.byte), .int],
  [.object "CardCastle$Input", .int, .int, .int, .int, .int],
  [.object "CardCastle$Input", .object "CardCastle$Rules", .object "CardCastle$Scale", .object "CardCastle$Parser", .object "CardCastle$Castle", .object "CardCastle$Castle", .object "CardCastle$History", .array (.object "CardCastle$Castle"), .array (.boolean), .object "CardCastle$Text", .boolean],
  [.int, .boolean, .int, .int, .int, .int, .int, .int, .int, .array (.int), .array (.int), .array (.int), .array (.int), .array (.int), .int, .array (.boolean), .array (.int), .int, .int, .int, .int, .int, .int, .int, .int, .int, .int, .array (.int), .array (.int), .array (.int), .array (.int), .array (.int), .array (.int), .array (.int), .int, .array (.int), .int]]
def mTy (c k : Nat) : FieldType := (mTyL.getD c []).getD k .int
def mCN (c : Nat) : String := mCls.getD c ""
abbrev mcl : List vw_C := [(mCN 0, mT 0, mTN 0), (mCN 1, mT 1, mTN 1), (mCN 2, mT 2, mTN 2), (mCN 3, mT 3, mTN 3), (mCN 4, mT 4, mTN 4), (mCN 5, mT 5, mTN 5), (mCN 6, mT 6, mTN 6), (mCN 7, mT 7, mTN 7), (mCN 8, mT 8, mTN 8), (mCN 9, mT 9, mTN 9), (mCN 10, mT 10, mTN 10), (mCN 11, mT 11, mTN 11), (mCN 12, mT 12, mTN 12)]
theorem mcl_at {c : Nat} (h : c < 13) : mcl[c]? = some (mCN c, mT c, mTN c) := by
  match c, h with
  | 0, _ => rfl
  | 1, _ => rfl
  | 2, _ => rfl
  | 3, _ => rfl
  | 4, _ => rfl
  | 5, _ => rfl
  | 6, _ => rfl
  | 7, _ => rfl
  | 8, _ => rfl
  | 9, _ => rfl
  | 10, _ => rfl
  | 11, _ => rfl
  | 12, _ => rfl
set_option maxRecDepth 100000 in
theorem mTy_ok {c k : Nat} (hc : c < 13) (hk : k < mTN c) : parseFieldDescriptor (mT c k).2.2.1 = some (mTy c k) := by
  have h : ∀ c, c < 13 → ∀ k, k < mTN c → parseFieldDescriptor (mT c k).2.2.1 = some (mTy c k) := by decide +kernel
  exact h c hc k hk
set_option maxRecDepth 100000 in
theorem mT_ne {c : Nat} (hc : c < 13) : ∀ a, a < mTN c → ∀ b, b < mTN c → a ≠ b → (mT c a).2.1 ≠ (mT c b).2.1 := by
  have h : ∀ c, c < 13 → ∀ a, a < mTN c → ∀ b, b < mTN c → a ≠ b → (mT c a).2.1 ≠ (mT c b).2.1 := by decide +kernel
  exact h c hc
def mLayP : List (List Nat) := [[286, 288, 290, 292, 294, 296], [314, 316, 318, 320, 322, 324, 326], [259, 261, 263], [237, 239, 241, 243, 245], [398, 400, 402], [144, 146], [368, 370, 372, 374, 376, 378, 380], [174, 176, 178, 180, 182], [197, 199], [415, 417], [344, 346, 348, 350, 352, 354], [432, 434, 436, 438, 440, 442, 444, 446, 448, 450, 452], [1478, 1480, 1482, 1484, 1486, 1488, 1490, 1492, 1494, 1496, 1498, 1500, 1502, 1504, 1506, 1508, 1510, 1512, 1514, 1516, 1518, 1520, 1522, 1524, 1526, 1528, 1530, 1532, 1534, 1536, 1538, 1540, 1542, 1544, 1546, 1548, 1550]]
set_option maxRecDepth 100000 in
theorem mLay_ok {c : Nat} (hc : c < 13) : ∀ w ∈ u_ws (mCN c) (mT c) (mTN c), w ∈ gTbl := by
  have h : ∀ c, c < 13 → ∀ k, k < mTN c → lw_tbl[(mLayP.getD c []).getD k 0]? = some (u_lay (mCN c) (mT c) k) ∧ goodWord (u_lay (mCN c) (mT c) k) = true := by decide +kernel
  intro w hw
  obtain ⟨k, hk, rfl⟩ := List.mem_map.mp hw
  obtain ⟨h1, h2⟩ := h c hc k (List.mem_range.mp hk)
  exact gTbl_of _ h1 h2
set_option maxRecDepth 100000 in
theorem mInst_ok {c : Nat} (hc : c < 13) : Jvm.Cond.instantiable (mCN c) (mTN c) ∈ gTbl ∧ Jvm.Cond.initialized (mCN c) ∈ gTbl := by
  have h : ∀ c, c < 13 → (lw_tbl[([267, 211, 249, 217, 386, 134, 203, 151, 187, 406, 330, 126, 1436] : List Nat).getD c 0]? = some (Jvm.Cond.instantiable (mCN c) (mTN c)) ∧ goodWord (Jvm.Cond.instantiable (mCN c) (mTN c)) = true) ∧ (lw_tbl[([107, 104, 106, 105, 109, 100, 103, 101, 102, 110, 108, 99, 111] : List Nat).getD c 0]? = some (Jvm.Cond.initialized (mCN c)) ∧ goodWord (Jvm.Cond.initialized (mCN c)) = true) := by decide +kernel
  obtain ⟨⟨h1, h2⟩, h3, h4⟩ := h c hc
  exact ⟨gTbl_of _ h1 h2, gTbl_of _ h3 h4⟩
def mNm_0 : List Jvm.MethodName := [⟨"CardCastle$Cards", "<init>", "(LCardCastle$Rules;)V"⟩, ⟨"CardCastle$Cards", "clear", "()V"⟩, ⟨"CardCastle$Cards", "isHeld", "(I)Z"⟩, ⟨"CardCastle$Cards", "copyFrom", "(LCardCastle$Cards;)V"⟩, ⟨"CardCastle$Cards", "putOnHeap", "(I)V"⟩, ⟨"CardCastle$Cards", "bend", "(I)V"⟩, ⟨"CardCastle$Cards", "handSize", "()I"⟩, ⟨"CardCastle$Cards", "handCard", "(I)I"⟩, ⟨"CardCastle$Cards", "isBuiltIn", "(I)Z"⟩, ⟨"CardCastle$Cards", "takeFromHeap", "(I)V"⟩, ⟨"CardCastle$Castle", "<init>", "(LCardCastle$Rules;LCardCastle$Scale;)V"⟩, ⟨"CardCastle$Castle", "clear", "()V"⟩, ⟨"CardCastle$Castle", "pairFits", "(II)Z"⟩, ⟨"CardCastle$Castle", "hasPair", "(II)Z"⟩, ⟨"CardCastle$Castle", "hasFlat", "(II)Z"⟩, ⟨"CardCastle$Castle", "putPair", "(IIII)V"⟩, ⟨"CardCastle$Castle", "flatFits", "(II)Z"⟩, ⟨"CardCastle$Castle", "putFlat", "(II)V"⟩, ⟨"CardCastle$Castle", "copyFrom", "(LCardCastle$Castle;)V"⟩, ⟨"CardCastle$Castle", "settle", "()I"⟩]
def mNm_1 : List Jvm.MethodName := [⟨"CardCastle$Castle", "firstOverloaded", "()I"⟩, ⟨"CardCastle$Castle", "weightOfFlat", "(I)I"⟩, ⟨"CardCastle$Castle", "weightOfPair", "(I)I"⟩, ⟨"CardCastle$Castle", "reserveAt", "(I)I"⟩, ⟨"CardCastle$Castle", "strengthAt", "(I)I"⟩, ⟨"CardCastle$Castle", "stiffnessAt", "(I)I"⟩, ⟨"CardCastle$Castle", "dropPair", "(IIII)V"⟩, ⟨"CardCastle$Castle", "dropCard", "(III)V"⟩, ⟨"CardCastle$Castle", "dropFlat", "(IIII)V"⟩, ⟨"CardCastle$Castle", "whereIs", "(I)I"⟩, ⟨"CardCastle$Castle", "isFlat", "(I)Z"⟩, ⟨"CardCastle$Castle", "weakestSpot", "()I"⟩, ⟨"CardCastle$Castle", "letPairFall", "(II)I"⟩, ⟨"CardCastle$Castle", "builtWeight", "()I"⟩, ⟨"CardCastle$Castle", "sumOfReserves", "()I"⟩, ⟨"CardCastle$Castle", "quake", "(II)I"⟩, ⟨"CardCastle$Castle", "wobbleBy", "(III)I"⟩, ⟨"CardCastle$Castle", "shakenDownBy", "(III)Z"⟩, ⟨"CardCastle$Castle", "pullOut", "(I)I"⟩, ⟨"CardCastle$Castle", "flatToHand", "(I)V"⟩]
def mNm_2 : List Jvm.MethodName := [⟨"CardCastle$Castle", "isBare", "(II)Z"⟩, ⟨"CardCastle$Castle", "pairToHand", "(I)V"⟩, ⟨"CardCastle$FallLog", "<init>", "()V"⟩, ⟨"CardCastle$FallLog", "clear", "()V"⟩, ⟨"CardCastle$FallLog", "copyFrom", "(LCardCastle$FallLog;)V"⟩, ⟨"CardCastle$FallLog", "note", "(IIIII)V"⟩, ⟨"CardCastle$FallLog", "notedFor", "(I)I"⟩, ⟨"CardCastle$FallLog", "told", "()I"⟩, ⟨"CardCastle$FallLog", "part", "(II)I"⟩, ⟨"CardCastle$Grid", "<init>", "()V"⟩, ⟨"CardCastle$Grid", "clear", "()V"⟩, ⟨"CardCastle$Grid", "pairAt", "(I)Z"⟩, ⟨"CardCastle$Grid", "flatAt", "(I)Z"⟩, ⟨"CardCastle$Grid", "copyFrom", "(LCardCastle$Grid;)V"⟩, ⟨"CardCastle$Grid", "pairs", "()I"⟩, ⟨"CardCastle$Grid", "flats", "()I"⟩, ⟨"CardCastle$Grid", "shakiestSpot", "()I"⟩, ⟨"CardCastle$Grid", "firstAbove", "(I)I"⟩, ⟨"CardCastle$Grid", "calmDown", "(I)I"⟩, ⟨"CardCastle$History", "<init>", "(LCardCastle$Rules;LCardCastle$Scale;)V"⟩]
def mNm_3 : List Jvm.MethodName := [⟨"CardCastle$History", "keep", "(LCardCastle$Castle;)V"⟩, ⟨"CardCastle$History", "bringBack", "(LCardCastle$Castle;)V"⟩, ⟨"CardCastle$Input", "<init>", "()V"⟩, ⟨"CardCastle$Input", "addFour", "(I)V"⟩, ⟨"CardCastle$Input", "byteAt", "(I)I"⟩, ⟨"CardCastle$Input", "nameAt", "(II)I"⟩, ⟨"CardCastle$Parser", "<init>", "(LCardCastle$Input;LCardCastle$Scale;)V"⟩, ⟨"CardCastle$Parser", "readText", "(I)Z"⟩, ⟨"CardCastle$Parser", "readTable", "()Z"⟩, ⟨"CardCastle$Parser", "fail", "(I)Z"⟩, ⟨"CardCastle$Parser", "readNumber", "(II)Z"⟩, ⟨"CardCastle$Parser", "readLine", "()Z"⟩, ⟨"CardCastle$Parser", "readCardLine", "()Z"⟩, ⟨"CardCastle$Parser", "readLeanLine", "()Z"⟩, ⟨"CardCastle$Parser", "readPlace", "(I)Z"⟩, ⟨"CardCastle$Parser", "readHeldCard", "(I)I"⟩, ⟨"CardCastle$Parser", "readLayLine", "()Z"⟩, ⟨"CardCastle$Rules", "<init>", "()V"⟩, ⟨"CardCastle$Rules", "clear", "()V"⟩, ⟨"CardCastle$Rules", "cardNamed", "(I)I"⟩]
def mNm_4 : List Jvm.MethodName := [⟨"CardCastle$Rules", "columnsAt", "(I)I"⟩, ⟨"CardCastle$Rules", "spotOf", "(II)I"⟩, ⟨"CardCastle$Rules", "copyFrom", "(LCardCastle$Rules;)V"⟩, ⟨"CardCastle$Rules", "places", "()I"⟩, ⟨"CardCastle$Scale", "<init>", "()V"⟩, ⟨"CardCastle$Scale", "weigh", "(LCardCastle$Castle;)V"⟩, ⟨"CardCastle$Scale", "weighPlace", "(LCardCastle$Castle;II)V"⟩, ⟨"CardCastle$Text", "<init>", "()V"⟩, ⟨"CardCastle$Text", "put", "(I)V"⟩, ⟨"CardCastle$Text", "putName", "(I)V"⟩, ⟨"CardCastle$Text", "putName", "(I)V"⟩, ⟨"CardCastle$Text", "putNumber", "(I)V"⟩, ⟨"CardCastle$Tokens", "<init>", "(LCardCastle$Input;)V"⟩, ⟨"CardCastle$Tokens", "begin", "(I)V"⟩, ⟨"CardCastle$Tokens", "step", "()V"⟩, ⟨"CardCastle$Tokens", "endOfRun", "(CC)I"⟩, ⟨"CardCastle$Tokens", "numberAt", "(I)I"⟩, ⟨"CardCastle$Tokens", "isWord", "(Ljava/lang/String;)Z"⟩, ⟨"CardCastle", "<init>", "()V"⟩, ⟨"CardCastle", "append", "(IIIII)I"⟩]
def mNm_5 : List Jvm.MethodName := [⟨"CardCastle", "parseError", "()I"⟩, ⟨"CardCastle", "errorPosition", "()I"⟩, ⟨"CardCastle", "buffered", "()I"⟩, ⟨"CardCastle", "undoable", "()I"⟩, ⟨"CardCastle", "load", "(I)I"⟩, ⟨"CardCastle", "needBuffered", "(I)V"⟩, ⟨"CardCastle", "needIndex", "(II)V"⟩, ⟨"CardCastle", "need", "(Z)V"⟩, ⟨"CardCastle", "rightShare", "(I)I"⟩, ⟨"CardCastle", "leftShare", "(I)I"⟩, ⟨"CardCastle", "strengthFor", "(II)I"⟩, ⟨"CardCastle", "levelOf", "(I)I"⟩, ⟨"CardCastle", "columnOf", "(I)I"⟩, ⟨"CardCastle", "find", "(I)I"⟩, ⟨"CardCastle", "needText", "()V"⟩, ⟨"CardCastle", "needState", "(Z)V"⟩, ⟨"CardCastle", "count", "(I)I"⟩, ⟨"CardCastle", "needRange", "(III)V"⟩, ⟨"CardCastle", "setting", "(I)I"⟩, ⟨"CardCastle", "card", "(II)I"⟩]
def mNm_6 : List Jvm.MethodName := [⟨"CardCastle", "needCard", "(I)V"⟩, ⟨"CardCastle", "pair", "(III)I"⟩, ⟨"CardCastle", "needPlace", "(II)V"⟩, ⟨"CardCastle", "flat", "(III)I"⟩, ⟨"CardCastle", "fall", "(II)I"⟩, ⟨"CardCastle", "inHand", "(I)I"⟩, ⟨"CardCastle", "onHeap", "(I)I"⟩, ⟨"CardCastle", "canLean", "(II)Z"⟩, ⟨"CardCastle", "canLay", "(II)Z"⟩, ⟨"CardCastle", "top", "()I"⟩, ⟨"CardCastle", "weakest", "()I"⟩, ⟨"CardCastle", "placeCode", "(I)I"⟩, ⟨"CardCastle", "shakiest", "()I"⟩, ⟨"CardCastle", "supported", "(II)I"⟩, ⟨"CardCastle", "above", "(II)I"⟩, ⟨"CardCastle", "onTable", "(I)I"⟩, ⟨"CardCastle", "weight", "()I"⟩, ⟨"CardCastle", "meanReserve", "()D"⟩, ⟨"CardCastle", "builtShare", "()F"⟩, ⟨"CardCastle", "strengthOf", "(III)I"⟩]
def mNm_7 : List Jvm.MethodName := [⟨"CardCastle", "stiffest", "()I"⟩, ⟨"CardCastle", "fallsBy", "(II)I"⟩, ⟨"CardCastle", "needTremor", "(II)V"⟩, ⟨"CardCastle", "buffered", "()I"⟩, ⟨"CardCastle", "leastForce", "(I)I"⟩, ⟨"CardCastle", "worstColumn", "(I)I"⟩, ⟨"CardCastle", "calmIn", "()I"⟩, ⟨"CardCastle", "tremorsTo", "(II)I"⟩, ⟨"CardCastle", "fallsIfPulled", "(I)I"⟩, ⟨"CardCastle", "safest", "(I)I"⟩, ⟨"CardCastle", "leastReserveWith", "(II)I"⟩, ⟨"CardCastle", "bestAngle", "(II)I"⟩, ⟨"CardCastle", "writeLevel", "(I)I"⟩, ⟨"CardCastle", "writePair", "(II)I"⟩, ⟨"CardCastle", "writeFalls", "()I"⟩, ⟨"CardCastle", "causeLetter", "(I)C"⟩, ⟨"CardCastle", "textByte", "(I)I"⟩, ⟨"CardCastle", "lean", "(IIIII)I"⟩, ⟨"CardCastle", "lay", "(III)I"⟩, ⟨"CardCastle", "pull", "(I)I"⟩]
def mNm_8 : List Jvm.MethodName := [⟨"CardCastle", "takeDown", "(II)I"⟩, ⟨"CardCastle", "lift", "(II)I"⟩, ⟨"CardCastle", "pickUp", "(I)I"⟩, ⟨"CardCastle", "tremor", "(II)I"⟩, ⟨"CardCastle", "tick", "(I)I"⟩, ⟨"CardCastle", "turn", "(III)I"⟩, ⟨"CardCastle", "smooth", "(I)I"⟩, ⟨"CardCastle", "undo", "()I"⟩, ⟨"CardCastle", "save", "(I)I"⟩, ⟨"CardCastle", "restore", "(I)I"⟩, ⟨"CardCastleModel", "<init>", "()V"⟩, ⟨"CardCastleModel", "thrown", "()I"⟩, ⟨"CardCastleModel", "append", "(IIIII)I"⟩, ⟨"CardCastleModel", "buffered", "()I"⟩, ⟨"CardCastleModel", "parseError", "()I"⟩, ⟨"CardCastleModel", "errorPosition", "()I"⟩, ⟨"CardCastleModel", "load", "(I)I"⟩, ⟨"CardCastleModel", "in", "(III)Z"⟩, ⟨"CardCastleModel", "refuse", "(ZI)Z"⟩, ⟨"CardCastleModel", "holds", "()V"⟩]
def mNm_9 : List Jvm.MethodName := [⟨"CardCastleModel", "reads", "(I)V"⟩, ⟨"CardCastleModel", "clears", "()V"⟩, ⟨"CardCastleModel", "token", "()V"⟩, ⟨"CardCastleModel", "seen", "(I)I"⟩, ⟨"CardCastleModel", "isLetter", "(I)Z"⟩, ⟨"CardCastleModel", "isDigit", "(I)Z"⟩, ⟨"CardCastleModel", "isWord", "(Ljava/lang/String;)Z"⟩, ⟨"CardCastleModel", "failsIf", "(ZI)V"⟩, ⟨"CardCastleModel", "fails", "(I)V"⟩, ⟨"CardCastleModel", "goesOn", "()V"⟩, ⟨"CardCastleModel", "takes", "(II)I"⟩, ⟨"CardCastleModel", "looks", "(II)I"⟩, ⟨"CardCastleModel", "line", "()V"⟩, ⟨"CardCastleModel", "cardLine", "()V"⟩, ⟨"CardCastleModel", "named", "(II)I"⟩, ⟨"CardCastleModel", "puts", "(III)V"⟩, ⟨"CardCastleModel", "leanLine", "()V"⟩, ⟨"CardCastleModel", "mayLean", "(II)Z"⟩, ⟨"CardCastleModel", "hasPair", "(II)Z"⟩, ⟨"CardCastleModel", "isPlace", "(II)Z"⟩]
def mNm_10 : List Jvm.MethodName := [⟨"CardCastleModel", "placeOf", "(II)I"⟩, ⟨"CardCastleModel", "ofPair", "(II)I"⟩, ⟨"CardCastleModel", "hasFlat", "(II)Z"⟩, ⟨"CardCastleModel", "cardHere", "(I)I"⟩, ⟨"CardCastleModel", "of", "(II)I"⟩, ⟨"CardCastleModel", "leans", "(IIII)V"⟩, ⟨"CardCastleModel", "putsPair", "(III)V"⟩, ⟨"CardCastleModel", "goesTo", "(III)V"⟩, ⟨"CardCastleModel", "layLine", "()V"⟩, ⟨"CardCastleModel", "mayLay", "(II)Z"⟩, ⟨"CardCastleModel", "lays", "(II)V"⟩, ⟨"CardCastleModel", "laysBack", "()V"⟩, ⟨"CardCastleModel", "settles", "()V"⟩, ⟨"CardCastleModel", "laysLoads", "()V"⟩, ⟨"CardCastleModel", "fromAbove", "(II)I"⟩, ⟨"CardCastleModel", "leftHalf", "(I)I"⟩, ⟨"CardCastleModel", "pairWeight", "(I)I"⟩, ⟨"CardCastleModel", "firstBad", "(Z)I"⟩, ⟨"CardCastleModel", "reserveAt", "(I)I"⟩, ⟨"CardCastleModel", "strengthAt", "(I)I"⟩]
def mNm_11 : List Jvm.MethodName := [⟨"CardCastleModel", "stiffnessAt", "(I)I"⟩, ⟨"CardCastleModel", "strengthBy", "(II)I"⟩, ⟨"CardCastleModel", "falls", "(IZII)V"⟩, ⟨"CardCastleModel", "notes", "(IZI)V"⟩, ⟨"CardCastleModel", "flag", "(Z)I"⟩, ⟨"CardCastleModel", "takesOut", "(IZI)V"⟩, ⟨"CardCastleModel", "drops", "(III)V"⟩, ⟨"CardCastleModel", "waitsFor", "(IIZ)V"⟩, ⟨"CardCastleModel", "isThere", "(I)Z"⟩, ⟨"CardCastleModel", "find", "(I)I"⟩, ⟨"CardCastleModel", "notLoaded", "()Z"⟩, ⟨"CardCastleModel", "count", "(I)I"⟩, ⟨"CardCastleModel", "handed", "()I"⟩, ⟨"CardCastleModel", "pairs", "()I"⟩, ⟨"CardCastleModel", "flats", "()I"⟩, ⟨"CardCastleModel", "places", "()I"⟩, ⟨"CardCastleModel", "setting", "(I)I"⟩, ⟨"CardCastleModel", "card", "(II)I"⟩, ⟨"CardCastleModel", "noCard", "(I)Z"⟩, ⟨"CardCastleModel", "isCard", "(I)Z"⟩]
def mNm_12 : List Jvm.MethodName := [⟨"CardCastleModel", "pair", "(III)I"⟩, ⟨"CardCastleModel", "noPlace", "(II)Z"⟩, ⟨"CardCastleModel", "flat", "(III)I"⟩, ⟨"CardCastleModel", "fall", "(II)I"⟩, ⟨"CardCastleModel", "toldFalls", "()I"⟩, ⟨"CardCastleModel", "ofFall", "(II)I"⟩, ⟨"CardCastleModel", "inHand", "(I)I"⟩, ⟨"CardCastleModel", "onHeap", "(I)I"⟩, ⟨"CardCastleModel", "canLean", "(II)Z"⟩, ⟨"CardCastleModel", "canLay", "(II)Z"⟩, ⟨"CardCastleModel", "top", "()I"⟩, ⟨"CardCastleModel", "weakest", "()I"⟩, ⟨"CardCastleModel", "told", "(I)I"⟩, ⟨"CardCastleModel", "shakiest", "()I"⟩, ⟨"CardCastleModel", "supported", "(II)I"⟩, ⟨"CardCastleModel", "putsAside", "()V"⟩, ⟨"CardCastleModel", "fetchesBack", "()V"⟩, ⟨"CardCastleModel", "above", "(II)I"⟩, ⟨"CardCastleModel", "builtWeight", "()I"⟩, ⟨"CardCastleModel", "onTable", "(I)I"⟩]
def mNm_13 : List Jvm.MethodName := [⟨"CardCastleModel", "weight", "()I"⟩, ⟨"CardCastleModel", "meanReserve", "()D"⟩, ⟨"CardCastleModel", "builtShare", "()F"⟩, ⟨"CardCastleModel", "strengthOf", "(III)I"⟩, ⟨"CardCastleModel", "isAngle", "(I)Z"⟩, ⟨"CardCastleModel", "stiffest", "()I"⟩, ⟨"CardCastleModel", "fallsBy", "(II)I"⟩, ⟨"CardCastleModel", "isTremor", "(II)Z"⟩, ⟨"CardCastleModel", "fallsThen", "(II)I"⟩, ⟨"CardCastleModel", "trembles", "(II)I"⟩, ⟨"CardCastleModel", "shakes", "(IIII)V"⟩, ⟨"CardCastleModel", "leastForce", "(I)I"⟩, ⟨"CardCastleModel", "worstColumn", "(I)I"⟩, ⟨"CardCastleModel", "calmIn", "()I"⟩, ⟨"CardCastleModel", "tremorsTo", "(II)I"⟩, ⟨"CardCastleModel", "fallsIfPulled", "(I)I"⟩, ⟨"CardCastleModel", "pulls", "(I)I"⟩, ⟨"CardCastleModel", "safest", "(I)I"⟩, ⟨"CardCastleModel", "reserveIf", "(II)I"⟩, ⟨"CardCastleModel", "leastReserve", "()I"⟩]
def mNm_14 : List Jvm.MethodName := [⟨"CardCastleModel", "bestAngle", "(II)I"⟩, ⟨"CardCastleModel", "writeLevel", "(I)I"⟩, ⟨"CardCastleModel", "says", "(I)V"⟩, ⟨"CardCastleModel", "writePair", "(II)I"⟩, ⟨"CardCastleModel", "saysName", "(I)V"⟩, ⟨"CardCastleModel", "saysNumber", "(I)V"⟩, ⟨"CardCastleModel", "writeFalls", "()I"⟩, ⟨"CardCastleModel", "letterOf", "(I)I"⟩, ⟨"CardCastleModel", "textByte", "(I)I"⟩, ⟨"CardCastleModel", "lean", "(IIIII)I"⟩, ⟨"CardCastleModel", "isHanded", "(I)Z"⟩, ⟨"CardCastleModel", "keepsAll", "()V"⟩, ⟨"CardCastleModel", "keeps", "(I)V"⟩, ⟨"CardCastleModel", "lay", "(III)I"⟩, ⟨"CardCastleModel", "pull", "(I)I"⟩, ⟨"CardCastleModel", "takeDown", "(II)I"⟩, ⟨"CardCastleModel", "lift", "(II)I"⟩, ⟨"CardCastleModel", "pickUp", "(I)I"⟩, ⟨"CardCastleModel", "tremor", "(II)I"⟩, ⟨"CardCastleModel", "tick", "(I)I"⟩]
def mNm_15 : List Jvm.MethodName := [⟨"CardCastleModel", "calms", "(I)V"⟩, ⟨"CardCastleModel", "wobbling", "()I"⟩, ⟨"CardCastleModel", "turn", "(III)I"⟩, ⟨"CardCastleModel", "smooth", "(I)I"⟩, ⟨"CardCastleModel", "undo", "()I"⟩, ⟨"CardCastleModel", "fetches", "(I)V"⟩, ⟨"CardCastleModel", "undoable", "()I"⟩, ⟨"CardCastleModel", "save", "(I)I"⟩, ⟨"CardCastleModel", "restore", "(I)I"⟩, ⟨"CardCastleLaw", "load", "(LCardCastle;I[J)I"⟩, ⟨"CardCastleLaw", "find", "(LCardCastle;I[J)I"⟩, ⟨"CardCastleLaw", "count", "(LCardCastle;I[J)I"⟩, ⟨"CardCastleLaw", "setting", "(LCardCastle;I[J)I"⟩, ⟨"CardCastleLaw", "card", "(LCardCastle;II[J)I"⟩, ⟨"CardCastleLaw", "pair", "(LCardCastle;III[J)I"⟩, ⟨"CardCastleLaw", "flat", "(LCardCastle;III[J)I"⟩, ⟨"CardCastleLaw", "fall", "(LCardCastle;II[J)I"⟩, ⟨"CardCastleLaw", "inHand", "(LCardCastle;I[J)I"⟩, ⟨"CardCastleLaw", "onHeap", "(LCardCastle;I[J)I"⟩, ⟨"CardCastleLaw", "canLean", "(LCardCastle;II[J)I"⟩]
def mNm_16 : List Jvm.MethodName := [⟨"CardCastleLaw", "canLay", "(LCardCastle;II[J)I"⟩, ⟨"CardCastleLaw", "top", "(LCardCastle;[J)I"⟩, ⟨"CardCastleLaw", "weakest", "(LCardCastle;[J)I"⟩, ⟨"CardCastleLaw", "shakiest", "(LCardCastle;[J)I"⟩, ⟨"CardCastleLaw", "supported", "(LCardCastle;II[J)I"⟩, ⟨"CardCastleLaw", "above", "(LCardCastle;II[J)I"⟩, ⟨"CardCastleLaw", "onTable", "(LCardCastle;I[J)I"⟩, ⟨"CardCastleLaw", "weight", "(LCardCastle;[J)I"⟩, ⟨"CardCastleLaw", "meanReserve", "(LCardCastle;[D)I"⟩, ⟨"CardCastleLaw", "builtShare", "(LCardCastle;[D)I"⟩, ⟨"CardCastleLaw", "strengthOf", "(LCardCastle;III[J)I"⟩, ⟨"CardCastleLaw", "stiffest", "(LCardCastle;[J)I"⟩, ⟨"CardCastleLaw", "fallsBy", "(LCardCastle;II[J)I"⟩, ⟨"CardCastleLaw", "leastForce", "(LCardCastle;I[J)I"⟩, ⟨"CardCastleLaw", "worstColumn", "(LCardCastle;I[J)I"⟩, ⟨"CardCastleLaw", "calmIn", "(LCardCastle;[J)I"⟩, ⟨"CardCastleLaw", "tremorsTo", "(LCardCastle;II[J)I"⟩, ⟨"CardCastleLaw", "fallsIfPulled", "(LCardCastle;I[J)I"⟩, ⟨"CardCastleLaw", "safest", "(LCardCastle;I[J)I"⟩, ⟨"CardCastleLaw", "bestAngle", "(LCardCastle;II[J)I"⟩]
def mNm_17 : List Jvm.MethodName := [⟨"CardCastleLaw", "writeLevel", "(LCardCastle;I[J)I"⟩, ⟨"CardCastleLaw", "writePair", "(LCardCastle;II[J)I"⟩, ⟨"CardCastleLaw", "writeFalls", "(LCardCastle;[J)I"⟩, ⟨"CardCastleLaw", "textByte", "(LCardCastle;I[J)I"⟩, ⟨"CardCastleLaw", "lean", "(LCardCastle;IIIII[J)I"⟩, ⟨"CardCastleLaw", "lay", "(LCardCastle;III[J)I"⟩, ⟨"CardCastleLaw", "pull", "(LCardCastle;I[J)I"⟩, ⟨"CardCastleLaw", "takeDown", "(LCardCastle;II[J)I"⟩, ⟨"CardCastleLaw", "lift", "(LCardCastle;II[J)I"⟩, ⟨"CardCastleLaw", "pickUp", "(LCardCastle;I[J)I"⟩, ⟨"CardCastleLaw", "tremor", "(LCardCastle;II[J)I"⟩, ⟨"CardCastleLaw", "tick", "(LCardCastle;I[J)I"⟩, ⟨"CardCastleLaw", "turn", "(LCardCastle;III[J)I"⟩, ⟨"CardCastleLaw", "smooth", "(LCardCastle;I[J)I"⟩, ⟨"CardCastleLaw", "undo", "(LCardCastle;[J)I"⟩, ⟨"CardCastleLaw", "save", "(LCardCastle;I[J)I"⟩, ⟨"CardCastleLaw", "restore", "(LCardCastle;I[J)I"⟩, ⟨"CardCastleLaw", "law", "([I)Z"⟩]
def mNm_L : List (List Jvm.MethodName) := [mNm_0, mNm_1, mNm_2, mNm_3, mNm_4, mNm_5, mNm_6, mNm_7, mNm_8, mNm_9, mNm_10, mNm_11, mNm_12, mNm_13, mNm_14, mNm_15, mNm_16, mNm_17]
def mNm (m : Nat) : Jvm.MethodName := (mNm_L.getD (m / 20) []).getD (m % 20) ⟨"", "", ""⟩
def mByt_0 : List ByteArray := [prog_2_method_1_code, prog_2_method_3_code, prog_2_method_4_code, prog_2_method_2_code, prog_2_method_9_code, prog_2_method_8_code, prog_2_method_6_code, prog_2_method_7_code, prog_2_method_5_code, prog_2_method_10_code, prog_3_method_1_code, prog_3_method_3_code, prog_3_method_6_code, prog_3_method_4_code, prog_3_method_5_code, prog_3_method_19_code, prog_3_method_7_code, prog_3_method_20_code, prog_3_method_2_code, prog_3_method_23_code]
def mByt_1 : List ByteArray := [prog_3_method_24_code, prog_3_method_15_code, prog_3_method_14_code, prog_3_method_13_code, prog_3_method_12_code, prog_3_method_11_code, prog_3_method_30_code, prog_3_method_32_code, prog_3_method_31_code, prog_3_method_9_code, prog_3_method_10_code, prog_3_method_17_code, prog_3_method_29_code, prog_3_method_16_code, prog_3_method_18_code, prog_3_method_25_code, prog_3_method_26_code, prog_3_method_27_code, prog_3_method_28_code, prog_3_method_22_code]
def mByt_2 : List ByteArray := [prog_3_method_8_code, prog_3_method_21_code, prog_4_method_1_code, prog_4_method_3_code, prog_4_method_2_code, prog_4_method_4_code, prog_4_method_6_code, prog_4_method_5_code, prog_4_method_7_code, prog_5_method_1_code, prog_5_method_3_code, prog_5_method_4_code, prog_5_method_5_code, prog_5_method_2_code, prog_5_method_6_code, prog_5_method_7_code, prog_5_method_8_code, prog_5_method_9_code, prog_5_method_10_code, prog_6_method_1_code]
def mByt_3 : List ByteArray := [prog_6_method_2_code, prog_6_method_3_code, prog_7_method_1_code, prog_7_method_2_code, prog_7_method_3_code, prog_7_method_4_code, prog_8_method_1_code, prog_8_method_2_code, prog_8_method_4_code, prog_8_method_3_code, prog_8_method_10_code, prog_8_method_5_code, prog_8_method_6_code, prog_8_method_7_code, prog_8_method_9_code, prog_8_method_11_code, prog_8_method_8_code, prog_9_method_1_code, prog_9_method_3_code, prog_9_method_7_code]
def mByt_4 : List ByteArray := [prog_9_method_4_code, prog_9_method_5_code, prog_9_method_2_code, prog_9_method_6_code, prog_10_method_1_code, prog_10_method_2_code, prog_10_method_3_code, prog_11_method_1_code, prog_11_method_2_code, prog_11_method_4_code, prog_11_method_4_code, prog_11_method_3_code, prog_12_method_1_code, prog_12_method_2_code, prog_12_method_3_code, prog_12_method_4_code, prog_12_method_5_code, prog_12_method_6_code, prog_1_method_1_code, prog_1_method_2_code]
def mByt_5 : List ByteArray := [prog_1_method_4_code, prog_1_method_5_code, prog_1_method_6_code, prog_1_method_52_code, prog_1_method_3_code, prog_1_method_59_code, prog_1_method_56_code, prog_1_method_57_code, prog_1_method_69_code, prog_1_method_68_code, prog_1_method_70_code, prog_1_method_65_code, prog_1_method_66_code, prog_1_method_7_code, prog_1_method_60_code, prog_1_method_55_code, prog_1_method_8_code, prog_1_method_58_code, prog_1_method_9_code, prog_1_method_10_code]
def mByt_6 : List ByteArray := [prog_1_method_61_code, prog_1_method_11_code, prog_1_method_62_code, prog_1_method_12_code, prog_1_method_13_code, prog_1_method_14_code, prog_1_method_15_code, prog_1_method_16_code, prog_1_method_17_code, prog_1_method_18_code, prog_1_method_19_code, prog_1_method_67_code, prog_1_method_20_code, prog_1_method_21_code, prog_1_method_22_code, prog_1_method_23_code, prog_1_method_24_code, prog_1_method_25_code, prog_1_method_26_code, prog_1_method_27_code]
def mByt_7 : List ByteArray := [prog_1_method_28_code, prog_1_method_29_code, prog_1_method_63_code, prog_1_method_6_code, prog_1_method_30_code, prog_1_method_31_code, prog_1_method_32_code, prog_1_method_33_code, prog_1_method_34_code, prog_1_method_35_code, prog_1_method_64_code, prog_1_method_36_code, prog_1_method_37_code, prog_1_method_38_code, prog_1_method_39_code, prog_1_method_71_code, prog_1_method_40_code, prog_1_method_41_code, prog_1_method_42_code, prog_1_method_43_code]
def mByt_8 : List ByteArray := [prog_1_method_44_code, prog_1_method_45_code, prog_1_method_46_code, prog_1_method_47_code, prog_1_method_48_code, prog_1_method_49_code, prog_1_method_50_code, prog_1_method_51_code, prog_1_method_53_code, prog_1_method_54_code, prog_14_method_1_code, prog_14_method_2_code, prog_14_method_7_code, prog_14_method_8_code, prog_14_method_9_code, prog_14_method_10_code, prog_14_method_31_code, prog_14_method_3_code, prog_14_method_5_code, prog_14_method_21_code]
def mByt_9 : List ByteArray := [prog_14_method_30_code, prog_14_method_23_code, prog_14_method_14_code, prog_14_method_11_code, prog_14_method_12_code, prog_14_method_13_code, prog_14_method_18_code, prog_14_method_16_code, prog_14_method_15_code, prog_14_method_17_code, prog_14_method_20_code, prog_14_method_19_code, prog_14_method_29_code, prog_14_method_25_code, prog_14_method_24_code, prog_14_method_34_code, prog_14_method_27_code, prog_14_method_41_code, prog_14_method_39_code, prog_14_method_36_code]
def mByt_10 : List ByteArray := [prog_14_method_35_code, prog_14_method_37_code, prog_14_method_40_code, prog_14_method_26_code, prog_14_method_33_code, prog_14_method_44_code, prog_14_method_38_code, prog_14_method_43_code, prog_14_method_28_code, prog_14_method_42_code, prog_14_method_45_code, prog_14_method_22_code, prog_14_method_61_code, prog_14_method_52_code, prog_14_method_51_code, prog_14_method_50_code, prog_14_method_49_code, prog_14_method_60_code, prog_14_method_53_code, prog_14_method_48_code]
def mByt_11 : List ByteArray := [prog_14_method_47_code, prog_14_method_46_code, prog_14_method_59_code, prog_14_method_54_code, prog_14_method_4_code, prog_14_method_57_code, prog_14_method_55_code, prog_14_method_56_code, prog_14_method_58_code, prog_14_method_32_code, prog_14_method_6_code, prog_14_method_70_code, prog_14_method_68_code, prog_14_method_65_code, prog_14_method_66_code, prog_14_method_69_code, prog_14_method_71_code, prog_14_method_75_code, prog_14_method_73_code, prog_14_method_72_code]
def mByt_12 : List ByteArray := [prog_14_method_76_code, prog_14_method_74_code, prog_14_method_77_code, prog_14_method_80_code, prog_14_method_78_code, prog_14_method_79_code, prog_14_method_81_code, prog_14_method_82_code, prog_14_method_83_code, prog_14_method_84_code, prog_14_method_85_code, prog_14_method_87_code, prog_14_method_86_code, prog_14_method_88_code, prog_14_method_91_code, prog_14_method_89_code, prog_14_method_90_code, prog_14_method_93_code, prog_14_method_92_code, prog_14_method_94_code]
def mByt_13 : List ByteArray := [prog_14_method_95_code, prog_14_method_96_code, prog_14_method_97_code, prog_14_method_99_code, prog_14_method_98_code, prog_14_method_100_code, prog_14_method_103_code, prog_14_method_101_code, prog_14_method_102_code, prog_14_method_63_code, prog_14_method_62_code, prog_14_method_104_code, prog_14_method_105_code, prog_14_method_106_code, prog_14_method_107_code, prog_14_method_109_code, prog_14_method_108_code, prog_14_method_112_code, prog_14_method_111_code, prog_14_method_110_code]
def mByt_14 : List ByteArray := [prog_14_method_113_code, prog_14_method_117_code, prog_14_method_114_code, prog_14_method_118_code, prog_14_method_116_code, prog_14_method_115_code, prog_14_method_120_code, prog_14_method_119_code, prog_14_method_121_code, prog_14_method_126_code, prog_14_method_125_code, prog_14_method_124_code, prog_14_method_122_code, prog_14_method_127_code, prog_14_method_128_code, prog_14_method_129_code, prog_14_method_130_code, prog_14_method_131_code, prog_14_method_132_code, prog_14_method_133_code]
def mByt_15 : List ByteArray := [prog_14_method_64_code, prog_14_method_67_code, prog_14_method_134_code, prog_14_method_135_code, prog_14_method_136_code, prog_14_method_123_code, prog_14_method_137_code, prog_14_method_138_code, prog_14_method_139_code, method_3_code, method_4_code, method_5_code, method_6_code, method_7_code, method_8_code, method_9_code, method_10_code, method_11_code, method_12_code, method_13_code]
def mByt_16 : List ByteArray := [method_14_code, method_15_code, method_16_code, method_17_code, method_18_code, method_19_code, method_20_code, method_21_code, method_22_code, method_23_code, method_24_code, method_25_code, method_26_code, method_27_code, method_28_code, method_29_code, method_30_code, method_31_code, method_32_code, method_33_code]
def mByt_17 : List ByteArray := [method_34_code, method_35_code, method_36_code, method_37_code, method_38_code, method_39_code, method_40_code, method_41_code, method_42_code, method_43_code, method_44_code, method_45_code, method_46_code, method_47_code, method_48_code, method_49_code, method_50_code, code]
def mByt_L : List (List ByteArray) := [mByt_0, mByt_1, mByt_2, mByt_3, mByt_4, mByt_5, mByt_6, mByt_7, mByt_8, mByt_9, mByt_10, mByt_11, mByt_12, mByt_13, mByt_14, mByt_15, mByt_16, mByt_17]
def mByt (m : Nat) : ByteArray := (mByt_L.getD (m / 20) []).getD (m % 20) .empty
def mRT_0 : List (Option FieldType) := [none, none, (some .boolean), none, none, none, (some .int), (some .int), (some .boolean), none, none, none, (some .boolean), (some .boolean), (some .boolean), none, (some .boolean), none, none, (some .int)]
def mRT_1 : List (Option FieldType) := [(some .int), (some .int), (some .int), (some .int), (some .int), (some .int), none, none, none, (some .int), (some .boolean), (some .int), (some .int), (some .int), (some .int), (some .int), (some .int), (some .boolean), (some .int), none]
def mRT_2 : List (Option FieldType) := [(some .boolean), none, none, none, none, none, (some .int), (some .int), (some .int), none, none, (some .boolean), (some .boolean), none, (some .int), (some .int), (some .int), (some .int), (some .int), none]
def mRT_3 : List (Option FieldType) := [none, none, none, none, (some .int), (some .int), none, (some .boolean), (some .boolean), (some .boolean), (some .boolean), (some .boolean), (some .boolean), (some .boolean), (some .boolean), (some .int), (some .boolean), none, none, (some .int)]
def mRT_4 : List (Option FieldType) := [(some .int), (some .int), none, (some .int), none, none, none, none, none, none, none, none, none, none, none, (some .int), (some .int), (some .boolean), none, (some .int)]
def mRT_5 : List (Option FieldType) := [(some .int), (some .int), (some .int), (some .int), (some .int), none, none, none, (some .int), (some .int), (some .int), (some .int), (some .int), (some .int), none, none, (some .int), none, (some .int), (some .int)]
def mRT_6 : List (Option FieldType) := [none, (some .int), none, (some .int), (some .int), (some .int), (some .int), (some .boolean), (some .boolean), (some .int), (some .int), (some .int), (some .int), (some .int), (some .int), (some .int), (some .int), (some .double), (some .float), (some .int)]
def mRT_7 : List (Option FieldType) := [(some .int), (some .int), none, (some .int), (some .int), (some .int), (some .int), (some .int), (some .int), (some .int), (some .int), (some .int), (some .int), (some .int), (some .int), (some .char), (some .int), (some .int), (some .int), (some .int)]
def mRT_8 : List (Option FieldType) := [(some .int), (some .int), (some .int), (some .int), (some .int), (some .int), (some .int), (some .int), (some .int), (some .int), none, (some .int), (some .int), (some .int), (some .int), (some .int), (some .int), (some .boolean), (some .boolean), none]
def mRT_9 : List (Option FieldType) := [none, none, none, (some .int), (some .boolean), (some .boolean), (some .boolean), none, none, none, (some .int), (some .int), none, none, (some .int), none, none, (some .boolean), (some .boolean), (some .boolean)]
def mRT_10 : List (Option FieldType) := [(some .int), (some .int), (some .boolean), (some .int), (some .int), none, none, none, none, (some .boolean), none, none, none, none, (some .int), (some .int), (some .int), (some .int), (some .int), (some .int)]
def mRT_11 : List (Option FieldType) := [(some .int), (some .int), none, none, (some .int), none, none, none, (some .boolean), (some .int), (some .boolean), (some .int), (some .int), (some .int), (some .int), (some .int), (some .int), (some .int), (some .boolean), (some .boolean)]
def mRT_12 : List (Option FieldType) := [(some .int), (some .boolean), (some .int), (some .int), (some .int), (some .int), (some .int), (some .int), (some .boolean), (some .boolean), (some .int), (some .int), (some .int), (some .int), (some .int), none, none, (some .int), (some .int), (some .int)]
def mRT_13 : List (Option FieldType) := [(some .int), (some .double), (some .float), (some .int), (some .boolean), (some .int), (some .int), (some .boolean), (some .int), (some .int), none, (some .int), (some .int), (some .int), (some .int), (some .int), (some .int), (some .int), (some .int), (some .int)]
def mRT_14 : List (Option FieldType) := [(some .int), (some .int), none, (some .int), none, none, (some .int), (some .int), (some .int), (some .int), (some .boolean), none, none, (some .int), (some .int), (some .int), (some .int), (some .int), (some .int), (some .int)]
def mRT_15 : List (Option FieldType) := [none, (some .int), (some .int), (some .int), (some .int), none, (some .int), (some .int), (some .int), (some .int), (some .int), (some .int), (some .int), (some .int), (some .int), (some .int), (some .int), (some .int), (some .int), (some .int)]
def mRT_16 : List (Option FieldType) := [(some .int), (some .int), (some .int), (some .int), (some .int), (some .int), (some .int), (some .int), (some .int), (some .int), (some .int), (some .int), (some .int), (some .int), (some .int), (some .int), (some .int), (some .int), (some .int), (some .int)]
def mRT_17 : List (Option FieldType) := [(some .int), (some .int), (some .int), (some .int), (some .int), (some .int), (some .int), (some .int), (some .int), (some .int), (some .int), (some .int), (some .int), (some .int), (some .int), (some .int), (some .int), (some .boolean)]
def mRT_L : List (List (Option FieldType)) := [mRT_0, mRT_1, mRT_2, mRT_3, mRT_4, mRT_5, mRT_6, mRT_7, mRT_8, mRT_9, mRT_10, mRT_11, mRT_12, mRT_13, mRT_14, mRT_15, mRT_16, mRT_17]
def mRT (m : Nat) : (Option FieldType) := (mRT_L.getD (m / 20) []).getD (m % 20) none
def mHH_0 : List (Option (List (Nat × Nat × Nat × Nat))) := [none, none, none, none, none, none, none, none, none, none, none, none, none, none, none, none, none, none, none, none]
def mHH_1 : List (Option (List (Nat × Nat × Nat × Nat))) := [none, none, none, none, none, none, none, none, none, none, none, none, none, none, none, none, none, none, none, none]
def mHH_2 : List (Option (List (Nat × Nat × Nat × Nat))) := [none, none, none, none, none, none, none, none, none, none, none, none, none, none, none, none, none, none, none, none]
def mHH_3 : List (Option (List (Nat × Nat × Nat × Nat))) := [none, none, none, none, none, none, none, none, none, none, none, none, none, none, none, none, none, none, none, none]
def mHH_4 : List (Option (List (Nat × Nat × Nat × Nat))) := [none, none, none, none, none, none, none, none, none, none, none, none, none, none, none, none, none, none, none, none]
def mHH_5 : List (Option (List (Nat × Nat × Nat × Nat))) := [none, none, none, none, none, none, none, none, none, none, none, none, none, none, none, none, none, none, none, none]
def mHH_6 : List (Option (List (Nat × Nat × Nat × Nat))) := [none, none, none, none, none, none, none, none, none, none, none, none, none, none, none, none, none, none, none, none]
def mHH_7 : List (Option (List (Nat × Nat × Nat × Nat))) := [none, none, none, none, none, none, none, none, none, none, none, none, none, none, none, none, none, none, none, none]
def mHH_8 : List (Option (List (Nat × Nat × Nat × Nat))) := [none, none, none, none, none, none, none, none, none, none, none, none, none, none, none, none, none, none, none, none]
def mHH_9 : List (Option (List (Nat × Nat × Nat × Nat))) := [none, none, none, none, none, none, none, none, none, none, none, none, none, none, none, none, none, none, none, none]
def mHH_10 : List (Option (List (Nat × Nat × Nat × Nat))) := [none, none, none, none, none, none, none, none, none, none, none, none, none, none, none, none, none, none, none, none]
def mHH_11 : List (Option (List (Nat × Nat × Nat × Nat))) := [none, none, none, none, none, none, none, none, none, none, none, none, none, none, none, none, none, none, none, none]
def mHH_12 : List (Option (List (Nat × Nat × Nat × Nat))) := [none, none, none, none, none, none, none, none, none, none, none, none, none, none, none, none, none, none, none, none]
def mHH_13 : List (Option (List (Nat × Nat × Nat × Nat))) := [none, none, none, none, none, none, none, none, none, none, none, none, none, none, none, none, none, none, none, none]
def mHH_14 : List (Option (List (Nat × Nat × Nat × Nat))) := [none, none, none, none, none, none, none, none, none, none, none, none, none, none, none, none, none, none, none, none]
def mHH_15 : List (Option (List (Nat × Nat × Nat × Nat))) := [none, none, none, none, none, none, none, none, none, (some [(0, 9, 12, 13), (0, 9, 15, 15)]), (some [(0, 9, 12, 20), (0, 9, 15, 13)]), (some [(0, 9, 12, 20), (0, 9, 15, 15)]), (some [(0, 9, 12, 20), (0, 9, 15, 15)]), (some [(0, 10, 13, 20), (0, 10, 17, 13), (0, 10, 21, 15)]), (some [(0, 12, 15, 20), (0, 12, 19, 13), (0, 12, 23, 15)]), (some [(0, 12, 15, 20), (0, 12, 19, 13), (0, 12, 23, 15)]), (some [(0, 10, 13, 20), (0, 10, 17, 13), (0, 10, 21, 15)]), (some [(0, 9, 12, 20), (0, 9, 15, 13)]), (some [(0, 9, 12, 20), (0, 9, 15, 13)]), (some [(0, 17, 20, 20), (0, 17, 24, 13)])]
def mHH_16 : List (Option (List (Nat × Nat × Nat × Nat))) := [(some [(0, 17, 20, 20), (0, 17, 24, 13)]), (some [(0, 8, 11, 20)]), (some [(0, 8, 11, 20)]), (some [(0, 8, 11, 20)]), (some [(0, 10, 13, 20), (0, 10, 17, 13)]), (some [(0, 10, 13, 20), (0, 10, 17, 13)]), (some [(0, 9, 12, 20), (0, 9, 15, 13)]), (some [(0, 8, 11, 20)]), (some [(0, 7, 10, 20)]), (some [(0, 8, 11, 20)]), (some [(0, 12, 15, 20), (0, 12, 19, 13), (0, 12, 23, 15)]), (some [(0, 8, 11, 20)]), (some [(0, 10, 13, 20), (0, 10, 17, 15)]), (some [(0, 9, 12, 20), (0, 9, 15, 15)]), (some [(0, 9, 12, 20), (0, 9, 15, 15)]), (some [(0, 8, 11, 20)]), (some [(0, 10, 13, 20), (0, 10, 17, 15)]), (some [(0, 9, 12, 20), (0, 9, 15, 13)]), (some [(0, 9, 12, 20), (0, 9, 15, 13)]), (some [(0, 10, 13, 20), (0, 10, 17, 13)])]
def mHH_17 : List (Option (List (Nat × Nat × Nat × Nat))) := [(some [(0, 9, 12, 20), (0, 9, 15, 13)]), (some [(0, 10, 13, 20), (0, 10, 17, 13)]), (some [(0, 8, 11, 20)]), (some [(0, 9, 12, 13)]), (some [(0, 16, 19, 20), (0, 16, 23, 13), (0, 16, 27, 15)]), (some [(0, 12, 15, 20), (0, 12, 19, 13), (0, 12, 23, 15)]), (some [(0, 9, 12, 20), (0, 9, 15, 13), (0, 9, 18, 15)]), (some [(0, 10, 13, 20), (0, 10, 17, 13), (0, 10, 21, 15)]), (some [(0, 10, 13, 20), (0, 10, 17, 13), (0, 10, 21, 15)]), (some [(0, 9, 12, 20), (0, 9, 15, 13), (0, 9, 18, 15)]), (some [(0, 10, 13, 20), (0, 10, 17, 15)]), (some [(0, 9, 12, 20), (0, 9, 15, 15)]), (some [(0, 12, 15, 20), (0, 12, 19, 13), (0, 12, 23, 15)]), (some [(0, 9, 12, 20), (0, 9, 15, 13), (0, 9, 18, 15)]), (some [(0, 8, 11, 20)]), (some [(0, 9, 12, 20), (0, 9, 15, 13)]), (some [(0, 9, 12, 13), (0, 9, 15, 20)]), none]
def mHH_L : List (List (Option (List (Nat × Nat × Nat × Nat)))) := [mHH_0, mHH_1, mHH_2, mHH_3, mHH_4, mHH_5, mHH_6, mHH_7, mHH_8, mHH_9, mHH_10, mHH_11, mHH_12, mHH_13, mHH_14, mHH_15, mHH_16, mHH_17]
def mHH (m : Nat) : (Option (List (Nat × Nat × Nat × Nat))) := (mHH_L.getD (m / 20) []).getD (m % 20) none
def mWord (y : Nat) : Jvm.Cond := match mHH y with
  | none => .code (mNm y) (mByt y) (mMaxL y) (mRT y)
  | some hh => .codeWith (mNm y) (mByt y) (mMaxL y) (mRT y) hh
def mWP_0 : List Nat := [270, 580, 746, 798, 882, 886, 937, 1039, 1338, 1373, 214, 576, 717, 721, 734, 751, 760, 764, 794, 813]
def mWP_1 : List Nat := [817, 838, 842, 846, 850, 854, 870, 878, 890, 978, 982, 1080, 1105, 1116, 1144, 1182, 1186, 1203, 1235, 1251]
def mWP_2 : List Nat := [1350, 1354, 252, 590, 808, 874, 956, 1022, 1027, 220, 585, 730, 738, 803, 942, 947, 1094, 1191, 1391, 389]
def mWP_3 : List Nat := [1317, 1419, 137, 462, 610, 618, 206, 565, 602, 679, 687, 691, 696, 705, 709, 742, 756, 154, 569, 700]
def mWP_4 : List Nat := [713, 725, 787, 952, 190, 821, 826, 409, 1270, 1281, 1281, 1286, 333, 595, 606, 614, 622, 627, 129, 458]
def mWP_5 : List Nat := [466, 470, 474, 478, 487, 491, 494, 767, 831, 834, 857, 863, 866, 898, 902, 905, 930, 933, 963, 970]
def mWP_6 : List Nat := [974, 991, 995, 1008, 1018, 1035, 1046, 1053, 1061, 1069, 1076, 1083, 1090, 1101, 1112, 1126, 1133, 1140, 1151, 1158]
def mWP_7 : List Nat := [1166, 1174, 1178, 474, 1199, 1210, 1217, 1224, 1231, 1242, 1246, 1258, 1266, 1277, 1293, 1296, 1306, 1313, 1327, 1334]
def mWP_8 : List Nat := [1345, 1361, 1369, 1380, 1387, 1401, 1408, 1415, 1427, 1434, 1439, 1556, 1560, 1564, 1568, 1572, 1576, 1579, 1583, 1587]
def mWP_9 : List Nat := [1591, 1595, 1599, 1603, 1606, 1609, 1614, 1620, 1624, 1628, 1632, 1636, 1640, 1645, 1649, 1653, 1658, 1662, 1666, 1670]
def mWP_10 : List Nat := [1673, 1677, 1681, 1685, 1689, 1693, 1697, 1701, 1706, 1710, 1714, 1718, 1722, 1726, 1730, 1733, 1737, 1741, 1745, 1749]
def mWP_11 : List Nat := [1753, 1756, 1761, 1765, 1768, 1772, 1776, 1780, 1784, 1788, 1792, 1796, 1800, 1804, 1808, 1812, 1817, 1821, 1825, 1829]
def mWP_12 : List Nat := [1833, 1837, 1841, 1845, 1849, 1854, 1858, 1862, 1866, 1870, 1874, 1878, 1881, 1885, 1889, 1893, 1897, 1901, 1905, 1909]
def mWP_13 : List Nat := [1913, 1917, 1921, 1925, 1928, 1932, 1936, 1940, 1944, 1948, 1952, 1956, 1960, 1964, 1968, 1972, 1976, 1980, 1984, 1988]
def mWP_14 : List Nat := [1993, 1997, 2001, 2005, 2009, 2013, 2017, 2020, 2024, 2028, 2032, 2036, 2040, 2044, 2048, 2052, 2056, 2060, 2064, 2068]
def mWP_15 : List Nat := [2072, 2076, 2080, 2084, 2088, 2092, 2096, 2100, 2104, 481, 893, 926, 959, 966, 987, 1004, 1014, 1031, 1042, 1049]
def mWP_16 : List Nat := [1057, 1065, 1072, 1086, 1097, 1108, 1122, 1129, 1136, 1147, 1154, 1162, 1170, 1195, 1206, 1213, 1220, 1227, 1238, 1254]
def mWP_17 : List Nat := [1262, 1273, 1289, 1302, 1309, 1323, 1330, 1341, 1357, 1365, 1376, 1383, 1397, 1404, 1411, 1423, 1430, 0]
def mWP_L : List (List Nat) := [mWP_0, mWP_1, mWP_2, mWP_3, mWP_4, mWP_5, mWP_6, mWP_7, mWP_8, mWP_9, mWP_10, mWP_11, mWP_12, mWP_13, mWP_14, mWP_15, mWP_16, mWP_17]
def mWP (m : Nat) : Nat := (mWP_L.getD (m / 20) []).getD (m % 20) 0
def mKindP_0 : List Nat := [269, 578, 744, 796, 880, 884, 935, 1037, 1336, 1371, 213, 574, 715, 719, 732, 749, 758, 762, 792, 811]
def mKindP_1 : List Nat := [816, 836, 840, 844, 848, 852, 869, 877, 889, 976, 980, 1078, 1103, 1114, 1142, 1180, 1185, 1201, 1233, 1249]
def mKindP_2 : List Nat := [1348, 1352, 251, 588, 806, 872, 954, 1020, 1025, 219, 583, 728, 736, 801, 940, 945, 1092, 1189, 1389, 388]
def mKindP_3 : List Nat := [1315, 1417, 136, 460, 608, 616, 205, 563, 601, 678, 686, 690, 695, 704, 708, 741, 755, 153, 567, 698]
def mKindP_4 : List Nat := [711, 723, 785, 950, 189, 819, 825, 408, 1268, 1279, 1279, 1284, 332, 593, 604, 613, 621, 625, 128, 456]
def mKindP_5 : List Nat := [464, 468, 472, 476, 485, 490, 493, 766, 830, 833, 856, 862, 865, 896, 901, 904, 928, 932, 961, 968]
def mKindP_6 : List Nat := [973, 989, 994, 1006, 1016, 1033, 1044, 1051, 1059, 1067, 1074, 1082, 1088, 1099, 1110, 1124, 1131, 1138, 1149, 1156]
def mKindP_7 : List Nat := [1164, 1172, 1177, 472, 1197, 1208, 1215, 1222, 1229, 1240, 1245, 1256, 1264, 1275, 1291, 1295, 1304, 1311, 1325, 1332]
def mKindP_8 : List Nat := [1343, 1359, 1367, 1378, 1385, 1399, 1406, 1413, 1425, 1432, 1438, 1554, 1558, 1562, 1566, 1570, 1574, 1578, 1582, 1586]
def mKindP_9 : List Nat := [1590, 1594, 1598, 1602, 1605, 1608, 1613, 1619, 1623, 1627, 1631, 1635, 1639, 1644, 1648, 1652, 1657, 1661, 1665, 1669]
def mKindP_10 : List Nat := [1672, 1676, 1680, 1684, 1688, 1692, 1696, 1700, 1705, 1709, 1713, 1717, 1721, 1725, 1729, 1732, 1736, 1740, 1744, 1748]
def mKindP_11 : List Nat := [1752, 1755, 1760, 1764, 1767, 1771, 1775, 1779, 1783, 1786, 1791, 1794, 1799, 1803, 1807, 1811, 1815, 1819, 1824, 1828]
def mKindP_12 : List Nat := [1831, 1836, 1839, 1843, 1848, 1853, 1856, 1860, 1864, 1868, 1872, 1876, 1880, 1883, 1887, 1892, 1896, 1899, 1904, 1907]
def mKindP_13 : List Nat := [1911, 1915, 1919, 1923, 1927, 1930, 1934, 1939, 1943, 1947, 1951, 1954, 1958, 1962, 1966, 1970, 1975, 1978, 1983, 1987]
def mKindP_14 : List Nat := [1991, 1995, 2000, 2003, 2008, 2012, 2015, 2019, 2022, 2026, 2031, 2035, 2039, 2042, 2046, 2050, 2054, 2058, 2062, 2066]
def mKindP_15 : List Nat := [2071, 2075, 2078, 2082, 2086, 2091, 2094, 2098, 2102, 480, 892, 925, 958, 965, 986, 1003, 1013, 1030, 1041, 1048]
def mKindP_16 : List Nat := [1056, 1064, 1071, 1085, 1096, 1107, 1121, 1128, 1135, 1146, 1153, 1161, 1169, 1194, 1205, 1212, 1219, 1226, 1237, 1253]
def mKindP_17 : List Nat := [1261, 1272, 1288, 1301, 1308, 1322, 1329, 1340, 1356, 1364, 1375, 1382, 1396, 1403, 1410, 1422, 1429, 0]
def mKindP_L : List (List Nat) := [mKindP_0, mKindP_1, mKindP_2, mKindP_3, mKindP_4, mKindP_5, mKindP_6, mKindP_7, mKindP_8, mKindP_9, mKindP_10, mKindP_11, mKindP_12, mKindP_13, mKindP_14, mKindP_15, mKindP_16, mKindP_17]
def mKindP (m : Nat) : Nat := (mKindP_L.getD (m / 20) []).getD (m % 20) 0
def mSelP_0 : List Nat := [9999, 579, 745, 797, 881, 885, 936, 1038, 1337, 1372, 9999, 575, 716, 720, 733, 750, 759, 763, 793, 812]
def mSelP_1 : List Nat := [13, 837, 841, 845, 849, 853, 15, 16, 17, 977, 981, 1079, 1104, 1115, 1143, 1181, 22, 1202, 1234, 1250]
def mSelP_2 : List Nat := [1349, 1353, 9999, 589, 807, 873, 955, 1021, 1026, 9999, 584, 729, 737, 802, 941, 946, 1093, 1190, 1390, 9999]
def mSelP_3 : List Nat := [1316, 1418, 9999, 461, 609, 617, 9999, 564, 2, 5, 6, 7, 8, 9, 10, 11, 12, 9999, 568, 699]
def mSelP_4 : List Nat := [712, 724, 786, 951, 9999, 820, 14, 9999, 1269, 1280, 1280, 1285, 9999, 594, 605, 3, 4, 626, 9999, 457]
def mSelP_5 : List Nat := [465, 469, 473, 477, 486, 0, 9999, 9999, 9999, 9999, 9999, 9999, 9999, 897, 18, 9999, 929, 9999, 962, 969]
def mSelP_6 : List Nat := [19, 990, 20, 1007, 1017, 1034, 1045, 1052, 1060, 1068, 1075, 9999, 1089, 1100, 1111, 1125, 1132, 1139, 1150, 1157]
def mSelP_7 : List Nat := [1165, 1173, 21, 473, 1198, 1209, 1216, 1223, 1230, 1241, 23, 1257, 1265, 1276, 1292, 9999, 1305, 1312, 1326, 1333]
def mSelP_8 : List Nat := [1344, 1360, 1368, 1379, 1386, 1400, 1407, 1414, 1426, 1433, 9999, 1555, 1559, 1563, 1567, 1571, 1575, 9999, 24, 25]
def mSelP_9 : List Nat := [26, 27, 28, 29, 9999, 9999, 30, 31, 32, 33, 34, 35, 36, 37, 38, 39, 40, 41, 42, 43]
def mSelP_10 : List Nat := [9999, 44, 45, 46, 47, 48, 49, 50, 51, 52, 53, 54, 55, 56, 57, 9999, 58, 59, 60, 61]
def mSelP_11 : List Nat := [62, 9999, 63, 64, 9999, 65, 66, 67, 68, 1787, 69, 1795, 70, 71, 72, 73, 1816, 1820, 74, 75]
def mSelP_12 : List Nat := [1832, 76, 1840, 1844, 77, 78, 1857, 1861, 1865, 1869, 1873, 1877, 9999, 1884, 1888, 79, 80, 1900, 81, 1908]
def mSelP_13 : List Nat := [1912, 1916, 1920, 1924, 9999, 1931, 1935, 82, 83, 84, 85, 1955, 1959, 1963, 1967, 1971, 86, 1979, 87, 88]
def mSelP_14 : List Nat := [1992, 1996, 89, 2004, 90, 91, 2016, 9999, 2023, 2027, 92, 93, 94, 2043, 2047, 2051, 2055, 2059, 2063, 2067]
def mSelP_15 : List Nat := [95, 96, 2079, 2083, 2087, 97, 2095, 2099, 2103, 9999, 9999, 9999, 9999, 9999, 9999, 9999, 9999, 9999, 9999, 9999]
def mSelP_16 : List Nat := [9999, 9999, 9999, 9999, 9999, 9999, 9999, 9999, 9999, 9999, 9999, 9999, 9999, 9999, 9999, 9999, 9999, 9999, 9999, 9999]
def mSelP_17 : List Nat := [9999, 9999, 9999, 9999, 9999, 9999, 9999, 9999, 9999, 9999, 9999, 9999, 9999, 9999, 9999, 9999, 9999, 9999]
def mSelP_L : List (List Nat) := [mSelP_0, mSelP_1, mSelP_2, mSelP_3, mSelP_4, mSelP_5, mSelP_6, mSelP_7, mSelP_8, mSelP_9, mSelP_10, mSelP_11, mSelP_12, mSelP_13, mSelP_14, mSelP_15, mSelP_16, mSelP_17]
def mSelP (m : Nat) : Nat := (mSelP_L.getD (m / 20) []).getD (m % 20) 9999
def mIniP : List Nat := [107, 104, 106, 105, 109, 100, 103, 101, 102, 110, 108, 99, 111, 98, 116, 117]
/-- what a program decides of a method but its bytes -/
def mOkM (y : Nat) : Bool := decide ((mNm y).cls = mCN (mOwn y)) && plainName (mNm y).cls && decide ((mNm y).cls ≠ "java/lang/invoke/MethodHandle") && decide ((mNm y).cls ≠ "java/lang/invoke/VarHandle")
  && decide ((parseMethodDescriptor (mNm y).desc).map (fun d => d.parameters.length) = some (match mStat y with
    | true => mArgs y
    | false => mArgs y - 1))
  && decide (lw_tbl[mIniP.getD (mOwn y) 0]? = some (.initialized (mNm y).cls))
  && decide (lw_tbl[mKindP y]? = some (match mStat y with
    | true => .static (mNm y)
    | false => .instanceMethod (mNm y)))
  && (match Nat.beq (mSelP y) 9999 with
    | true => true
    | false => decide (lw_tbl[mSelP y]? = some (.selects (mNm y).cls (mNm y) (mNm y))))
  && (match mInit y with
    | true => decide ((mNm y).name = "<init>") && Nat.beq (mRet y) 0
    | false => true)
  && Nat.ble (mMaxL y) 20 && (match mStat y with
    | true => true
    | false => Nat.blt 0 (mArgs y))
  && decide (mRT y = match mRet y with
    | 0 => none
    | 1 => some .int
    | 2 => some .boolean
    | 3 => some .char
    | 4 => some .float
    | _ => some .double) && Nat.ble (mArgs y) (mMaxL y)
set_option maxRecDepth 100000 in
theorem mOkM_0 : ∀ y, y < 40 → mOkM (0 + y) = true := by decide +kernel
set_option maxRecDepth 100000 in
theorem mOkM_1 : ∀ y, y < 40 → mOkM (40 + y) = true := by decide +kernel
set_option maxRecDepth 100000 in
theorem mOkM_2 : ∀ y, y < 40 → mOkM (80 + y) = true := by decide +kernel
set_option maxRecDepth 100000 in
theorem mOkM_3 : ∀ y, y < 40 → mOkM (120 + y) = true := by decide +kernel
set_option maxRecDepth 100000 in
theorem mOkM_4 : ∀ y, y < 40 → mOkM (160 + y) = true := by decide +kernel
set_option maxRecDepth 100000 in
theorem mOkM_5 : ∀ y, y < 40 → mOkM (200 + y) = true := by decide +kernel
set_option maxRecDepth 100000 in
theorem mOkM_6 : ∀ y, y < 40 → mOkM (240 + y) = true := by decide +kernel
set_option maxRecDepth 100000 in
theorem mOkM_7 : ∀ y, y < 40 → mOkM (280 + y) = true := by decide +kernel
set_option maxRecDepth 100000 in
theorem mOkM_8 : ∀ y, y < 37 → mOkM (320 + y) = true := by decide +kernel
theorem mOkM_all {y : Nat} (h : y < 357) : mOkM y = true := by
  rcases Nat.lt_or_ge y 40 with q | q
  · have := mOkM_0 (y - 0) (by omega)
    rwa [show 0 + (y - 0) = y by omega] at this
  rcases Nat.lt_or_ge y 80 with q | q
  · have := mOkM_1 (y - 40) (by omega)
    rwa [show 40 + (y - 40) = y by omega] at this
  rcases Nat.lt_or_ge y 120 with q | q
  · have := mOkM_2 (y - 80) (by omega)
    rwa [show 80 + (y - 80) = y by omega] at this
  rcases Nat.lt_or_ge y 160 with q | q
  · have := mOkM_3 (y - 120) (by omega)
    rwa [show 120 + (y - 120) = y by omega] at this
  rcases Nat.lt_or_ge y 200 with q | q
  · have := mOkM_4 (y - 160) (by omega)
    rwa [show 160 + (y - 160) = y by omega] at this
  rcases Nat.lt_or_ge y 240 with q | q
  · have := mOkM_5 (y - 200) (by omega)
    rwa [show 200 + (y - 200) = y by omega] at this
  rcases Nat.lt_or_ge y 280 with q | q
  · have := mOkM_6 (y - 240) (by omega)
    rwa [show 240 + (y - 240) = y by omega] at this
  rcases Nat.lt_or_ge y 320 with q | q
  · have := mOkM_7 (y - 280) (by omega)
    rwa [show 280 + (y - 280) = y by omega] at this
  rcases Nat.lt_or_ge y 357 with q | q
  · have := mOkM_8 (y - 320) (by omega)
    rwa [show 320 + (y - 320) = y by omega] at this
  omega
set_option maxRecDepth 100000 in
theorem mWord_0 : ∀ y, y < 40 → lw_tbl[mWP (0 + y)]? = some (mWord (0 + y)) := by decide +kernel
set_option maxRecDepth 100000 in
theorem mWord_1 : ∀ y, y < 40 → lw_tbl[mWP (40 + y)]? = some (mWord (40 + y)) := by decide +kernel
set_option maxRecDepth 100000 in
theorem mWord_2 : ∀ y, y < 40 → lw_tbl[mWP (80 + y)]? = some (mWord (80 + y)) := by decide +kernel
set_option maxRecDepth 100000 in
theorem mWord_3 : ∀ y, y < 40 → lw_tbl[mWP (120 + y)]? = some (mWord (120 + y)) := by decide +kernel
set_option maxRecDepth 100000 in
theorem mWord_4 : ∀ y, y < 40 → lw_tbl[mWP (160 + y)]? = some (mWord (160 + y)) := by decide +kernel
set_option maxRecDepth 100000 in
theorem mWord_5 : ∀ y, y < 40 → lw_tbl[mWP (200 + y)]? = some (mWord (200 + y)) := by decide +kernel
set_option maxRecDepth 100000 in
theorem mWord_6 : ∀ y, y < 40 → lw_tbl[mWP (240 + y)]? = some (mWord (240 + y)) := by decide +kernel
set_option maxRecDepth 100000 in
theorem mWord_7 : ∀ y, y < 40 → lw_tbl[mWP (280 + y)]? = some (mWord (280 + y)) := by decide +kernel
set_option maxRecDepth 100000 in
theorem mWord_8 : ∀ y, y < 37 → lw_tbl[mWP (320 + y)]? = some (mWord (320 + y)) := by decide +kernel
theorem mWord_in {y : Nat} (h : y < 357) : mWord y ∈ gTbl := by
  have hg : goodWord (mWord y) = true := by
    unfold mWord
    cases mHH y <;> rfl
  refine gTbl_of (mWP y) ?_ hg
  rcases Nat.lt_or_ge y 40 with q | q
  · have := mWord_0 (y - 0) (by omega)
    rwa [show 0 + (y - 0) = y by omega] at this
  rcases Nat.lt_or_ge y 80 with q | q
  · have := mWord_1 (y - 40) (by omega)
    rwa [show 40 + (y - 40) = y by omega] at this
  rcases Nat.lt_or_ge y 120 with q | q
  · have := mWord_2 (y - 80) (by omega)
    rwa [show 80 + (y - 80) = y by omega] at this
  rcases Nat.lt_or_ge y 160 with q | q
  · have := mWord_3 (y - 120) (by omega)
    rwa [show 120 + (y - 120) = y by omega] at this
  rcases Nat.lt_or_ge y 200 with q | q
  · have := mWord_4 (y - 160) (by omega)
    rwa [show 160 + (y - 160) = y by omega] at this
  rcases Nat.lt_or_ge y 240 with q | q
  · have := mWord_5 (y - 200) (by omega)
    rwa [show 200 + (y - 200) = y by omega] at this
  rcases Nat.lt_or_ge y 280 with q | q
  · have := mWord_6 (y - 240) (by omega)
    rwa [show 240 + (y - 240) = y by omega] at this
  rcases Nat.lt_or_ge y 320 with q | q
  · have := mWord_7 (y - 280) (by omega)
    rwa [show 280 + (y - 280) = y by omega] at this
  rcases Nat.lt_or_ge y 357 with q | q
  · have := mWord_8 (y - 320) (by omega)
    rwa [show 320 + (y - 320) = y by omega] at this
  omega
