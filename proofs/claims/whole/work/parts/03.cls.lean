/-! the classes, by number, and their fields -/
def zF : List (String × List (String × String × Bool)) := [
  ("ChessWire", [("texts", "[LChessWire$Text;", true), ("board", "LChessWire$Board;", true), ("reader", "LChessWire$BoardReader;", true), ("anything", "LChessWire$Saying;", true), ("saying", "LChessWire$Saying;", true), ("now", "LChessWire$MoveList;", true), ("namer", "LChessWire$Namer;", true), ("weights", "[I", true), ("coder", "LChessWire$Coder;", true), ("foresight", "LChessWire$Foresight;", true), ("game", "LChessWire$Game;", true), ("dispute", "LChessWire$Dispute;", true), ("sheets", "[LChessWire$Sheet;", true), ("boardFault", "I", false), ("playedSince", "I", false), ("latestFinding", "I", false), ("listed", "Z", false)]),
  ("ChessWire$Text", [("bytes", "[I", true), ("size", "I", false)]),
  ("ChessWire$Board", [("men", "[I", true), ("turn", "I", false), ("whiteKing", "I", false), ("blackKing", "I", false)]),
  ("ChessWire$BoardReader", [("row", "I", false), ("column", "I", false), ("stage", "I", false)]),
  ("ChessWire$Saying", [("parts", "I", false), ("key", "I", false), ("sound", "Z", false)]),
  ("ChessWire$MoveList", [("codes", "[I", true), ("kinds", "[I", true), ("forms", "[I", true), ("size", "I", false)]),
  ("ChessWire$Namer", [("tally", "[I", true)]),
  ("ChessWire$Coder", [("leaves", "[I", true), ("knots", "[I", true), ("leafCount", "I", false), ("knotCount", "I", false), ("leavesUsed", "I", false), ("knotsUsed", "I", false)]),
  ("ChessWire$Foresight", [("namer", "LChessWire$Namer;", true), ("weights", "[I", true), ("anything", "LChessWire$Saying;", true), ("behindMove", "LChessWire$Board;", true), ("behindReply", "LChessWire$Board;", true), ("replies", "LChessWire$MoveList;", true), ("answers", "LChessWire$MoveList;", true), ("bestMoves", "[I", true), ("bestGains", "[I", true), ("bestCount", "I", false), ("allWeights", "I", false), ("answerSigns", "I", false)]),
  ("ChessWire$Game", [("sayings", "[LChessWire$Saying;", true), ("signs", "[I", true), ("codes", "[I", true), ("desk", "LChessWire$Board;", true), ("list", "LChessWire$MoveList;", true), ("parts", "I", false), ("done", "I", false)]),
  ("ChessWire$Dispute", [("boards", "[LChessWire$Board;", true), ("lists", "[LChessWire$MoveList;", true), ("path", "[I", true), ("first", "[I", true), ("unlike", "[I", true), ("seen", "[J", true), ("ways", "I", false), ("isFirstKept", "Z", false), ("tooMany", "Z", false)]),
  ("ChessWire$Sheet", [("items", "[I", true), ("held", "Z", false), ("form", "I", false), ("size", "I", false)]),
  ("ChessWireModel", [("forms", "[I", true), ("sizes", "[I", true), ("items", "[I", true), ("moved", "[I", true), ("latest", "I", false), ("bytes", "[I", true), ("typed", "[I", true), ("at", "I", false), ("men", "[I", true), ("turns", "[I", true), ("played", "I", false), ("list", "[I", true), ("many", "[I", true), ("saidMan", "I", false), ("saidFromColumn", "I", false), ("saidFromRow", "I", false), ("saidToColumn", "I", false), ("saidToRow", "I", false), ("best", "[I", true), ("bestLong", "I", false), ("now", "[I", true), ("nowLong", "I", false), ("weights", "[I", true), ("heap", "[I", true), ("answerMove", "I", false), ("answerSigns", "I", false), ("gains", "[I", true), ("parts", "I", false), ("begins", "[I", true), ("row", "[I", true), ("broken", "I", false), ("done", "I", false), ("spent", "I", false), ("emptied", "I", false), ("ways", "I", false), ("firstWay", "[I", true), ("isRead", "[Z", true), ("full", "Z", false)])]
def zFt : List (List FieldType) := [
  [.array (.object "ChessWire$Text"), .object "ChessWire$Board", .object "ChessWire$BoardReader", .object "ChessWire$Saying", .object "ChessWire$Saying", .object "ChessWire$MoveList", .object "ChessWire$Namer", .array .int, .object "ChessWire$Coder", .object "ChessWire$Foresight", .object "ChessWire$Game", .object "ChessWire$Dispute", .array (.object "ChessWire$Sheet"), .int, .int, .int, .boolean],
  [.array .int, .int],
  [.array .int, .int, .int, .int],
  [.int, .int, .int],
  [.int, .int, .boolean],
  [.array .int, .array .int, .array .int, .int],
  [.array .int],
  [.array .int, .array .int, .int, .int, .int, .int],
  [.object "ChessWire$Namer", .array .int, .object "ChessWire$Saying", .object "ChessWire$Board", .object "ChessWire$Board", .object "ChessWire$MoveList", .object "ChessWire$MoveList", .array .int, .array .int, .int, .int, .int],
  [.array (.object "ChessWire$Saying"), .array .int, .array .int, .object "ChessWire$Board", .object "ChessWire$MoveList", .int, .int],
  [.array (.object "ChessWire$Board"), .array (.object "ChessWire$MoveList"), .array .int, .array .int, .array .int, .array .long, .int, .boolean, .boolean],
  [.array .int, .boolean, .int, .int],
  [.array .int, .array .int, .array .int, .array .int, .int, .array .int, .array .int, .int, .array .int, .array .int, .int, .array .int, .array .int, .int, .int, .int, .int, .int, .array .int, .int, .array .int, .int, .array .int, .array .int, .int, .int, .array .int, .int, .array .int, .array .int, .int, .int, .int, .int, .int, .array .int, .array .boolean, .boolean]]
def zC (ci : Nat) : String := (zF.getD ci ("", [])).1
def zN (ci : Nat) : Nat := (zF.getD ci ("", [])).2.length
def zT (ci : Nat) : u_T := fun k => (zC ci, ((zF.getD ci ("", [])).2.getD k ("", "", false)).1, ((zF.getD ci ("", [])).2.getD k ("", "", false)).2.1, ((zF.getD ci ("", [])).2.getD k ("", "", false)).2.2)
def zty (ci k : Nat) : FieldType := (zFt.getD ci []).getD k .int
/-- whether a field holds a reference -/
def zisR (ci k : Nat) : Bool := match zty ci k with
  | .array _ => true
  | .object _ => true
  | _ => false
def zcl : List vw_C := (List.range 13).map fun ci => (zC ci, zT ci, zN ci)
theorem zcl_get {ci : Nat} (h : ci < 13) : zcl[ci]? = some (zC ci, zT ci, zN ci) := by
  unfold zcl
  rw [List.getElem?_map, List.getElem?_range h]
  rfl
theorem zty_ok : ∀ ci, ci < 13 → ∀ k, k < zN ci → parseFieldDescriptor (zT ci k).2.2.1 = some (zty ci k) := by decide +kernel
theorem znm_ok : ∀ ci, ci < 13 → ∀ a, a < zN ci → ∀ b, b < zN ci → a ≠ b → (zT ci a).2.1 ≠ (zT ci b).2.1 := by decide +kernel
def zG : List Cond := lw_tbl.filter goodWord
theorem zG_of {w : Cond} (i : Nat) (h : (lw_tbl[i]? == some w && goodWord w) = true) : w ∈ zG := by
  rw [Bool.and_eq_true, beq_iff_eq] at h
  exact List.mem_filter.mpr ⟨List.mem_of_getElem? h.1, h.2⟩
theorem zG_in {w : Cond} (h : w ∈ zG) : w ∈ lw_tbl := (List.mem_filter.mp h).1
def zlay_ix : List (List Nat) := [[409, 411, 413, 415, 417, 419, 421, 423, 425, 427, 429, 431, 433, 435, 437, 439, 441], [133, 135], [149, 151, 153, 155], [167, 169, 171], [183, 185, 187], [201, 203, 205, 207], [217], [232, 234, 236, 238, 240, 242], [271, 273, 275, 277, 279, 281, 283, 285, 287, 289, 291, 293], [316, 318, 320, 322, 324, 326, 328], [352, 354, 356, 358, 360, 362, 364, 366, 368], [383, 385, 387, 389], [1306, 1308, 1310, 1312, 1314, 1316, 1318, 1320, 1322, 1324, 1326, 1328, 1330, 1332, 1334, 1336, 1338, 1340, 1342, 1344, 1346, 1348, 1350, 1352, 1354, 1356, 1358, 1360, 1362, 1364, 1366, 1368, 1370, 1372, 1374, 1376, 1378, 1380]]
theorem zlay_ok : ∀ ci, ci < 13 → u_ws (zC ci) (zT ci) (zN ci) = (zlay_ix.getD ci []).filterMap (fun i => lw_tbl[i]?) ∧ (u_ws (zC ci) (zT ci) (zN ci)).all goodWord = true := by decide +kernel
theorem zlay_in : ∀ ci, ci < 13 → ∀ w ∈ u_ws (zC ci) (zT ci) (zN ci), w ∈ zG := by
  intro ci hci w hw
  obtain ⟨h1, h2⟩ := zlay_ok ci hci
  refine List.mem_filter.mpr ⟨?_, List.all_eq_true.mp h2 w hw⟩
  rw [h1] at hw
  obtain ⟨i, -, hi⟩ := List.mem_filterMap.mp hw
  exact List.mem_of_getElem? hi
theorem zG_good : ∀ w ∈ zG, goodWord w = true := fun w hw => (List.mem_filter.mp hw).2
