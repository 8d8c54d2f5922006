/-! written by gen_names.py: the names and the links of the system, as tables; a place is a place in lw_tbl -/
theorem jx_goodIn_r {big : List Cond} (ws : List Cond) (ps : List Nat) (hp : ws = ps.filterMap (fun i => big[i]?)) (h : ws.all goodWord = true) : ∀ w ∈ ws, w ∈ big.filter goodWord := by
  intro w hw
  have h1 := List.all_eq_true.mp h w hw
  rw [hp] at hw
  obtain ⟨i, -, hi⟩ := List.mem_filterMap.mp hw
  exact List.mem_filter.mpr ⟨List.mem_of_getElem? hi, h1⟩
def jx_T : List Cond := lw_tbl.filter goodWord
def tb_R : List String := ["QuotaPeers", "java/util/ArrayList", "QuotaPeers$Ledger", "QuotaPeers$Message", "QuotaPeers$Draft", "QuotaPeers$Connection", "QuotaPeers$Peer", "QuotaPeers$Credit", "QuotaPeers$Session", "QuotaPeers$KeptAnswer", "QuotaPeers$Account", "QuotaPeers$Ask", "QuotaPeersModel", "QuotaPeersLaw", "java/lang/Math", "java/lang/Object", "java/util/AbstractCollection", "java/util/AbstractList", "java/util/Arrays", "java/util/Objects", "jdk/internal/util/ArraysSupport", "jdk/internal/util/Preconditions"]
def tb_Rn (o : Nat) : String := tb_R.getD o ""
def tf_0 : u_T := fun k => match k with
  | 0 => ("QuotaPeers", "hand", "[B", true)
  | 1 => ("QuotaPeers", "handCount", "I", false)
  | 2 => ("QuotaPeers", "host", "[B", false)
  | 3 => ("QuotaPeers", "now", "I", false)
  | 4 => ("QuotaPeers", "lastHop", "I", false)
  | 5 => ("QuotaPeers", "passedOver", "I", false)
  | 6 => ("QuotaPeers", "connections", "[LQuotaPeers$Connection;", true)
  | 7 => ("QuotaPeers", "peers", "Ljava/util/List;", true)
  | 8 => ("QuotaPeers", "asks", "Ljava/util/List;", true)
  | 9 => ("QuotaPeers", "keptAnswers", "Ljava/util/List;", true)
  | 10 => ("QuotaPeers", "ledger", "LQuotaPeers$Ledger;", true)
  | 11 => ("QuotaPeers", "message", "LQuotaPeers$Message;", true)
  | _ => ("QuotaPeers", "draft", "LQuotaPeers$Draft;", true)
def tt_0 : Nat → FieldType := fun k => match k with
  | 0 => .array .byte
  | 1 => .int
  | 2 => .array .byte
  | 3 => .int
  | 4 => .int
  | 5 => .int
  | 6 => .array (.object "QuotaPeers$Connection")
  | 7 => .object "java/util/List"
  | 8 => .object "java/util/List"
  | 9 => .object "java/util/List"
  | 10 => .object "QuotaPeers$Ledger"
  | 11 => .object "QuotaPeers$Message"
  | _ => .object "QuotaPeers$Draft"
def tf_1 : u_T := fun k => match k with
  | 0 => ("java/util/ArrayList", "elementData", "[Ljava/lang/Object;", false)
  | 1 => ("java/util/ArrayList", "size", "I", false)
  | _ => ("java/util/AbstractList", "modCount", "I", false)
def tt_1 : Nat → FieldType := fun k => match k with
  | 0 => .array (.object "java/lang/Object")
  | 1 => .int
  | _ => .int
def tf_2 : u_T := fun k => match k with
  | 0 => ("QuotaPeers$Ledger", "accounts", "Ljava/util/List;", true)
  | _ => ("QuotaPeers$Ledger", "sessions", "Ljava/util/List;", true)
def tt_2 : Nat → FieldType := fun k => match k with
  | 0 => .object "java/util/List"
  | _ => .object "java/util/List"
def tf_3 : u_T := fun k => match k with
  | 0 => ("QuotaPeers$Message", "octets", "[B", false)
  | 1 => ("QuotaPeers$Message", "length", "I", false)
  | 2 => ("QuotaPeers$Message", "wrong", "I", false)
  | 3 => ("QuotaPeers$Message", "namesWrong", "Z", false)
  | 4 => ("QuotaPeers$Message", "wrongCode", "I", false)
  | _ => ("QuotaPeers$Message", "sessionAt", "I", false)
def tt_3 : Nat → FieldType := fun k => match k with
  | 0 => .array .byte
  | 1 => .int
  | 2 => .int
  | 3 => .boolean
  | 4 => .int
  | _ => .int
def tf_4 : u_T := fun k => match k with
  | 0 => ("QuotaPeers$Draft", "words", "[I", true)
  | 1 => ("QuotaPeers$Draft", "count", "I", false)
  | _ => ("QuotaPeers$Draft", "origin", "[I", false)
def tt_4 : Nat → FieldType := fun k => match k with
  | 0 => .array .int
  | 1 => .int
  | _ => .array .int
def tf_5 : u_T := fun k => match k with
  | 0 => ("QuotaPeers$Connection", "number", "I", true)
  | 1 => ("QuotaPeers$Connection", "state", "I", false)
  | 2 => ("QuotaPeers$Connection", "peer", "LQuotaPeers$Peer;", false)
  | 3 => ("QuotaPeers$Connection", "side", "I", false)
  | 4 => ("QuotaPeers$Connection", "inCount", "I", false)
  | 5 => ("QuotaPeers$Connection", "outCount", "I", false)
  | 6 => ("QuotaPeers$Connection", "noRoom", "I", false)
  | 7 => ("QuotaPeers$Connection", "outFirst", "I", false)
  | 8 => ("QuotaPeers$Connection", "in", "[B", false)
  | _ => ("QuotaPeers$Connection", "out", "[B", false)
def tt_5 : Nat → FieldType := fun k => match k with
  | 0 => .int
  | 1 => .int
  | 2 => .object "QuotaPeers$Peer"
  | 3 => .int
  | 4 => .int
  | 5 => .int
  | 6 => .int
  | 7 => .int
  | 8 => .array .byte
  | _ => .array .byte
def tf_6 : u_T := fun k => match k with
  | 0 => ("QuotaPeers$Peer", "number", "I", true)
  | 1 => ("QuotaPeers$Peer", "host", "[B", true)
  | 2 => ("QuotaPeers$Peer", "starts", "Z", true)
  | 3 => ("QuotaPeers$Peer", "state", "I", false)
  | 4 => ("QuotaPeers$Peer", "limit", "I", false)
  | 5 => ("QuotaPeers$Peer", "own", "LQuotaPeers$Connection;", false)
  | 6 => ("QuotaPeers$Peer", "came", "LQuotaPeers$Connection;", false)
  | 7 => ("QuotaPeers$Peer", "status", "I", false)
  | 8 => ("QuotaPeers$Peer", "awaited", "Z", false)
  | 9 => ("QuotaPeers$Peer", "timer", "I", false)
  | 10 => ("QuotaPeers$Peer", "givenOver", "I", false)
  | 11 => ("QuotaPeers$Peer", "answers", "I", false)
  | 12 => ("QuotaPeers$Peer", "openingHop", "I", false)
  | 13 => ("QuotaPeers$Peer", "watchHop", "I", false)
  | 14 => ("QuotaPeers$Peer", "endingHop", "I", false)
  | 15 => ("QuotaPeers$Peer", "endingSent", "Z", false)
  | 16 => ("QuotaPeers$Peer", "heldPassed", "I", false)
  | 17 => ("QuotaPeers$Peer", "heldHop", "I", false)
  | _ => ("QuotaPeers$Peer", "heldEnd", "I", false)
def tt_6 : Nat → FieldType := fun k => match k with
  | 0 => .int
  | 1 => .array .byte
  | 2 => .boolean
  | 3 => .int
  | 4 => .int
  | 5 => .object "QuotaPeers$Connection"
  | 6 => .object "QuotaPeers$Connection"
  | 7 => .int
  | 8 => .boolean
  | 9 => .int
  | 10 => .int
  | 11 => .int
  | 12 => .int
  | 13 => .int
  | 14 => .int
  | 15 => .boolean
  | 16 => .int
  | 17 => .int
  | _ => .int
def tf_7 : u_T := fun k => match k with
  | 0 => ("QuotaPeers$Credit", "session", "[B", true)
  | 1 => ("QuotaPeers$Credit", "host", "[B", true)
  | 2 => ("QuotaPeers$Credit", "realm", "[B", true)
  | 3 => ("QuotaPeers$Credit", "peer", "LQuotaPeers$Peer;", true)
  | 4 => ("QuotaPeers$Credit", "time", "I", true)
  | 5 => ("QuotaPeers$Credit", "type", "J", true)
  | 6 => ("QuotaPeers$Credit", "count", "J", true)
  | 7 => ("QuotaPeers$Credit", "who", "J", true)
  | 8 => ("QuotaPeers$Credit", "action", "J", true)
  | 9 => ("QuotaPeers$Credit", "unitsRight", "Z", true)
  | 10 => ("QuotaPeers$Credit", "wanted", "J", true)
  | 11 => ("QuotaPeers$Credit", "used", "J", true)
  | 12 => ("QuotaPeers$Credit", "granted", "J", false)
  | _ => ("QuotaPeers$Credit", "enough", "J", false)
def tt_7 : Nat → FieldType := fun k => match k with
  | 0 => .array .byte
  | 1 => .array .byte
  | 2 => .array .byte
  | 3 => .object "QuotaPeers$Peer"
  | 4 => .int
  | 5 => .long
  | 6 => .long
  | 7 => .long
  | 8 => .long
  | 9 => .boolean
  | 10 => .long
  | 11 => .long
  | 12 => .long
  | _ => .long
def tf_8 : u_T := fun k => match k with
  | 0 => ("QuotaPeers$Session", "name", "[B", true)
  | 1 => ("QuotaPeers$Session", "account", "LQuotaPeers$Account;", true)
  | 2 => ("QuotaPeers$Session", "grant", "J", false)
  | 3 => ("QuotaPeers$Session", "count", "J", false)
  | 4 => ("QuotaPeers$Session", "host", "[B", false)
  | 5 => ("QuotaPeers$Session", "realm", "[B", false)
  | 6 => ("QuotaPeers$Session", "peer", "LQuotaPeers$Peer;", false)
  | _ => ("QuotaPeers$Session", "ends", "I", false)
def tt_8 : Nat → FieldType := fun k => match k with
  | 0 => .array .byte
  | 1 => .object "QuotaPeers$Account"
  | 2 => .long
  | 3 => .long
  | 4 => .array .byte
  | 5 => .array .byte
  | 6 => .object "QuotaPeers$Peer"
  | _ => .int
def tf_9 : u_T := fun k => match k with
  | 0 => ("QuotaPeers$KeptAnswer", "host", "[B", true)
  | 1 => ("QuotaPeers$KeptAnswer", "end", "I", true)
  | 2 => ("QuotaPeers$KeptAnswer", "time", "I", true)
  | _ => ("QuotaPeers$KeptAnswer", "words", "[I", true)
def tt_9 : Nat → FieldType := fun k => match k with
  | 0 => .array .byte
  | 1 => .int
  | 2 => .int
  | _ => .array .int
def tf_10 : u_T := fun k => match k with
  | 0 => ("QuotaPeers$Account", "number", "J", true)
  | 1 => ("QuotaPeers$Account", "balance", "J", false)
  | 2 => ("QuotaPeers$Account", "reserved", "J", false)
  | _ => ("QuotaPeers$Account", "charged", "J", false)
def tt_10 : Nat → FieldType := fun k => match k with
  | 0 => .long
  | 1 => .long
  | 2 => .long
  | _ => .long
def tf_11 : u_T := fun k => match k with
  | 0 => ("QuotaPeers$Ask", "words", "[I", true)
  | 1 => ("QuotaPeers$Ask", "peer", "LQuotaPeers$Peer;", false)
  | 2 => ("QuotaPeers$Ask", "result", "I", false)
  | 3 => ("QuotaPeers$Ask", "sent", "I", false)
  | 4 => ("QuotaPeers$Ask", "hop", "I", false)
  | _ => ("QuotaPeers$Ask", "end", "I", false)
def tt_11 : Nat → FieldType := fun k => match k with
  | 0 => .array .int
  | 1 => .object "QuotaPeers$Peer"
  | 2 => .int
  | 3 => .int
  | 4 => .int
  | _ => .int
def tf_12 : u_T := fun k => match k with
  | 0 => ("QuotaPeersModel", "code", "I", false)
  | 1 => ("QuotaPeersModel", "now", "I", false)
  | 2 => ("QuotaPeersModel", "lost", "I", false)
  | 3 => ("QuotaPeersModel", "sign", "[B", true)
  | 4 => ("QuotaPeersModel", "signs", "I", false)
  | 5 => ("QuotaPeersModel", "host", "[B", true)
  | 6 => ("QuotaPeersModel", "hostSize", "I", false)
  | 7 => ("QuotaPeersModel", "peers", "I", false)
  | 8 => ("QuotaPeersModel", "peerName", "[B", true)
  | 9 => ("QuotaPeersModel", "peerSize", "[I", true)
  | 10 => ("QuotaPeersModel", "starts", "[Z", true)
  | 11 => ("QuotaPeersModel", "state", "[I", true)
  | 12 => ("QuotaPeersModel", "deadline", "[I", true)
  | 13 => ("QuotaPeersModel", "own", "[I", true)
  | 14 => ("QuotaPeersModel", "came", "[I", true)
  | 15 => ("QuotaPeersModel", "status", "[I", true)
  | 16 => ("QuotaPeersModel", "awaited", "[Z", true)
  | 17 => ("QuotaPeersModel", "timer", "[I", true)
  | 18 => ("QuotaPeersModel", "given", "[I", true)
  | 19 => ("QuotaPeersModel", "back", "[I", true)
  | 20 => ("QuotaPeersModel", "openHop", "[I", true)
  | 21 => ("QuotaPeersModel", "watchHop", "[I", true)
  | 22 => ("QuotaPeersModel", "endHop", "[I", true)
  | 23 => ("QuotaPeersModel", "cameFlags", "[I", true)
  | 24 => ("QuotaPeersModel", "cameHop", "[I", true)
  | 25 => ("QuotaPeersModel", "cameEnd", "[I", true)
  | 26 => ("QuotaPeersModel", "cState", "[I", true)
  | 27 => ("QuotaPeersModel", "cPeer", "[I", true)
  | 28 => ("QuotaPeersModel", "cRole", "[I", true)
  | 29 => ("QuotaPeersModel", "in", "[B", true)
  | 30 => ("QuotaPeersModel", "inSize", "[I", true)
  | 31 => ("QuotaPeersModel", "out", "[B", true)
  | 32 => ("QuotaPeersModel", "outSize", "[I", true)
  | 33 => ("QuotaPeersModel", "outFrom", "[I", true)
  | 34 => ("QuotaPeersModel", "hop", "I", false)
  | 35 => ("QuotaPeersModel", "accounts", "I", false)
  | 36 => ("QuotaPeersModel", "number", "[J", true)
  | 37 => ("QuotaPeersModel", "balance", "[J", true)
  | 38 => ("QuotaPeersModel", "reserved", "[J", true)
  | 39 => ("QuotaPeersModel", "charged", "[J", true)
  | 40 => ("QuotaPeersModel", "many", "I", false)
  | 41 => ("QuotaPeersModel", "sName", "[B", true)
  | 42 => ("QuotaPeersModel", "sHost", "[B", true)
  | 43 => ("QuotaPeersModel", "sRealm", "[B", true)
  | 44 => ("QuotaPeersModel", "sAccount", "[I", true)
  | 45 => ("QuotaPeersModel", "sGrant", "[J", true)
  | 46 => ("QuotaPeersModel", "sCount", "[J", true)
  | 47 => ("QuotaPeersModel", "sPeer", "[I", true)
  | 48 => ("QuotaPeersModel", "sEnd", "[I", true)
  | 49 => ("QuotaPeersModel", "asks", "I", false)
  | 50 => ("QuotaPeersModel", "qName", "[B", true)
  | 51 => ("QuotaPeersModel", "qHost", "[B", true)
  | 52 => ("QuotaPeersModel", "qRealm", "[B", true)
  | 53 => ("QuotaPeersModel", "qResult", "[J", true)
  | 54 => ("QuotaPeersModel", "qPeer", "[I", true)
  | 55 => ("QuotaPeersModel", "qTimes", "[I", true)
  | 56 => ("QuotaPeersModel", "qHop", "[I", true)
  | 57 => ("QuotaPeersModel", "qEnd", "[I", true)
  | 58 => ("QuotaPeersModel", "qConnection", "[I", true)
  | 59 => ("QuotaPeersModel", "keptMany", "I", false)
  | 60 => ("QuotaPeersModel", "kept", "[B", true)
  | 61 => ("QuotaPeersModel", "keptSize", "[I", true)
  | 62 => ("QuotaPeersModel", "keptHost", "[B", true)
  | 63 => ("QuotaPeersModel", "keptEnd", "[I", true)
  | 64 => ("QuotaPeersModel", "keptTill", "[I", true)
  | 65 => ("QuotaPeersModel", "made", "[B", true)
  | 66 => ("QuotaPeersModel", "size", "I", false)
  | 67 => ("QuotaPeersModel", "base", "I", false)
  | 68 => ("QuotaPeersModel", "length", "I", false)
  | 69 => ("QuotaPeersModel", "flags", "I", false)
  | 70 => ("QuotaPeersModel", "command", "I", false)
  | 71 => ("QuotaPeersModel", "application", "I", false)
  | 72 => ("QuotaPeersModel", "theirHop", "I", false)
  | 73 => ("QuotaPeersModel", "theirEnd", "I", false)
  | 74 => ("QuotaPeersModel", "wrong", "I", false)
  | 75 => ("QuotaPeersModel", "wrongCode", "I", false)
  | 76 => ("QuotaPeersModel", "keeps", "[I", true)
  | 77 => ("QuotaPeersModel", "firstAt", "[I", true)
  | 78 => ("QuotaPeersModel", "firstSize", "[I", true)
  | 79 => ("QuotaPeersModel", "often", "[I", true)
  | 80 => ("QuotaPeersModel", "goodAuth", "Z", false)
  | 81 => ("QuotaPeersModel", "whoAt", "I", false)
  | 82 => ("QuotaPeersModel", "whoSize", "I", false)
  | 83 => ("QuotaPeersModel", "wantedAt", "I", false)
  | 84 => ("QuotaPeersModel", "usedAt", "I", false)
  | 85 => ("QuotaPeersModel", "ends", "[I", true)
  | 86 => ("QuotaPeersModel", "behind", "[I", true)
  | 87 => ("QuotaPeersModel", "group", "[I", true)
  | 88 => ("QuotaPeersModel", "result", "I", false)
  | 89 => ("QuotaPeersModel", "tells", "Z", false)
  | 90 => ("QuotaPeersModel", "told", "J", false)
  | _ => ("QuotaPeersModel", "enough", "I", false)
def tt_12 : Nat → FieldType := fun k => match k with
  | 0 => .int
  | 1 => .int
  | 2 => .int
  | 3 => .array .byte
  | 4 => .int
  | 5 => .array .byte
  | 6 => .int
  | 7 => .int
  | 8 => .array .byte
  | 9 => .array .int
  | 10 => .array .boolean
  | 11 => .array .int
  | 12 => .array .int
  | 13 => .array .int
  | 14 => .array .int
  | 15 => .array .int
  | 16 => .array .boolean
  | 17 => .array .int
  | 18 => .array .int
  | 19 => .array .int
  | 20 => .array .int
  | 21 => .array .int
  | 22 => .array .int
  | 23 => .array .int
  | 24 => .array .int
  | 25 => .array .int
  | 26 => .array .int
  | 27 => .array .int
  | 28 => .array .int
  | 29 => .array .byte
  | 30 => .array .int
  | 31 => .array .byte
  | 32 => .array .int
  | 33 => .array .int
  | 34 => .int
  | 35 => .int
  | 36 => .array .long
  | 37 => .array .long
  | 38 => .array .long
  | 39 => .array .long
  | 40 => .int
  | 41 => .array .byte
  | 42 => .array .byte
  | 43 => .array .byte
  | 44 => .array .int
  | 45 => .array .long
  | 46 => .array .long
  | 47 => .array .int
  | 48 => .array .int
  | 49 => .int
  | 50 => .array .byte
  | 51 => .array .byte
  | 52 => .array .byte
  | 53 => .array .long
  | 54 => .array .int
  | 55 => .array .int
  | 56 => .array .int
  | 57 => .array .int
  | 58 => .array .int
  | 59 => .int
  | 60 => .array .byte
  | 61 => .array .int
  | 62 => .array .byte
  | 63 => .array .int
  | 64 => .array .int
  | 65 => .array .byte
  | 66 => .int
  | 67 => .int
  | 68 => .int
  | 69 => .int
  | 70 => .int
  | 71 => .int
  | 72 => .int
  | 73 => .int
  | 74 => .int
  | 75 => .int
  | 76 => .array .int
  | 77 => .array .int
  | 78 => .array .int
  | 79 => .array .int
  | 80 => .boolean
  | 81 => .int
  | 82 => .int
  | 83 => .int
  | 84 => .int
  | 85 => .array .int
  | 86 => .array .int
  | 87 => .array .int
  | 88 => .int
  | 89 => .boolean
  | 90 => .long
  | _ => .int
abbrev tb_cl : List vw_C := [("QuotaPeers", tf_0, 13), ("java/util/ArrayList", tf_1, 3), ("QuotaPeers$Ledger", tf_2, 2), ("QuotaPeers$Message", tf_3, 6), ("QuotaPeers$Draft", tf_4, 3), ("QuotaPeers$Connection", tf_5, 10), ("QuotaPeers$Peer", tf_6, 19), ("QuotaPeers$Credit", tf_7, 14), ("QuotaPeers$Session", tf_8, 8), ("QuotaPeers$KeptAnswer", tf_9, 4), ("QuotaPeers$Account", tf_10, 4), ("QuotaPeers$Ask", tf_11, 6), ("QuotaPeersModel", tf_12, 92)]
def tb_tt (ci k : Nat) : FieldType := match ci with
  | 0 => tt_0 k
  | 1 => tt_1 k
  | 2 => tt_2 k
  | 3 => tt_3 k
  | 4 => tt_4 k
  | 5 => tt_5 k
  | 6 => tt_6 k
  | 7 => tt_7 k
  | 8 => tt_8 k
  | 9 => tt_9 k
  | 10 => tt_10 k
  | 11 => tt_11 k
  | _ => tt_12 k
def jx_dflt : FieldType → Value
  | .long => .long 0
  | .int => .int 0
  | .boolean => .int 0
  | .byte => .int 0
  | _ => .null
def tb_df (ci : Nat) : List Value := match tb_cl[ci]? with
  | some q => (List.range q.2.2).map (fun k => jx_dflt (tb_tt ci k))
  | none => []
/-- what is known of a kind of objects: its words are there, its fields have their types, their names differ -/
def jx_clF (ci : Nat) (q : vw_C) : Prop := (∀ w ∈ u_ws q.1 q.2.1 q.2.2, w ∈ jx_T) ∧ (∀ k, k < q.2.2 → parseFieldDescriptor (q.2.1 k).2.2.1 = some (tb_tt ci k)) ∧ (∀ a, a < q.2.2 → ∀ b, b < q.2.2 → a ≠ b → (q.2.1 a).2.1 ≠ (q.2.1 b).2.1) ∧ (∀ k, k < q.2.2 → defaultValue (tb_tt ci k) = vp_V (tb_df ci) k) ∧ Cond.instantiable q.1 q.2.2 ∈ jx_T ∧ Cond.initialized q.1 ∈ jx_T
set_option maxRecDepth 100000 in
theorem jx_clF_0 : jx_clF 0 ("QuotaPeers", tf_0, 13) := ⟨jx_goodIn_r _ [351, 353, 355, 357, 359, 361, 363, 365, 367, 369, 371, 373, 375] (by decide +kernel) (by decide +kernel), by decide +kernel, by decide +kernel, by decide +kernel, List.mem_filter.mpr ⟨List.mem_of_getElem? (i := 155) (by decide +kernel), by decide +kernel⟩, List.mem_filter.mpr ⟨List.mem_of_getElem? (i := 133) (by decide +kernel), by decide +kernel⟩⟩
set_option maxRecDepth 100000 in
theorem jx_clF_1 : jx_clF 1 ("java/util/ArrayList", tf_1, 3) := ⟨jx_goodIn_r _ [185, 187, 189] (by decide +kernel) (by decide +kernel), by decide +kernel, by decide +kernel, by decide +kernel, List.mem_filter.mpr ⟨List.mem_of_getElem? (i := 167) (by decide +kernel), by decide +kernel⟩, List.mem_filter.mpr ⟨List.mem_of_getElem? (i := 136) (by decide +kernel), by decide +kernel⟩⟩
set_option maxRecDepth 100000 in
theorem jx_clF_2 : jx_clF 2 ("QuotaPeers$Ledger", tf_2, 2) := ⟨jx_goodIn_r _ [205, 207] (by decide +kernel) (by decide +kernel), by decide +kernel, by decide +kernel, by decide +kernel, List.mem_filter.mpr ⟨List.mem_of_getElem? (i := 194) (by decide +kernel), by decide +kernel⟩, List.mem_filter.mpr ⟨List.mem_of_getElem? (i := 137) (by decide +kernel), by decide +kernel⟩⟩
set_option maxRecDepth 100000 in
theorem jx_clF_3 : jx_clF 3 ("QuotaPeers$Message", tf_3, 6) := ⟨jx_goodIn_r _ [228, 230, 232, 234, 236, 238] (by decide +kernel) (by decide +kernel), by decide +kernel, by decide +kernel, by decide +kernel, List.mem_filter.mpr ⟨List.mem_of_getElem? (i := 211) (by decide +kernel), by decide +kernel⟩, List.mem_filter.mpr ⟨List.mem_of_getElem? (i := 138) (by decide +kernel), by decide +kernel⟩⟩
set_option maxRecDepth 100000 in
theorem jx_clF_4 : jx_clF 4 ("QuotaPeers$Draft", tf_4, 3) := ⟨jx_goodIn_r _ [251, 253, 255] (by decide +kernel) (by decide +kernel), by decide +kernel, by decide +kernel, by decide +kernel, List.mem_filter.mpr ⟨List.mem_of_getElem? (i := 242) (by decide +kernel), by decide +kernel⟩, List.mem_filter.mpr ⟨List.mem_of_getElem? (i := 139) (by decide +kernel), by decide +kernel⟩⟩
set_option maxRecDepth 100000 in
theorem jx_clF_5 : jx_clF 5 ("QuotaPeers$Connection", tf_5, 10) := ⟨jx_goodIn_r _ [282, 284, 286, 288, 290, 292, 294, 296, 298, 300] (by decide +kernel) (by decide +kernel), by decide +kernel, by decide +kernel, by decide +kernel, List.mem_filter.mpr ⟨List.mem_of_getElem? (i := 259) (by decide +kernel), by decide +kernel⟩, List.mem_filter.mpr ⟨List.mem_of_getElem? (i := 140) (by decide +kernel), by decide +kernel⟩⟩
set_option maxRecDepth 100000 in
theorem jx_clF_6 : jx_clF 6 ("QuotaPeers$Peer", tf_6, 19) := ⟨jx_goodIn_r _ [490, 492, 494, 496, 498, 500, 502, 504, 506, 508, 510, 512, 514, 516, 518, 520, 522, 524, 526] (by decide +kernel) (by decide +kernel), by decide +kernel, by decide +kernel, by decide +kernel, List.mem_filter.mpr ⟨List.mem_of_getElem? (i := 454) (by decide +kernel), by decide +kernel⟩, List.mem_filter.mpr ⟨List.mem_of_getElem? (i := 147) (by decide +kernel), by decide +kernel⟩⟩
set_option maxRecDepth 100000 in
theorem jx_clF_7 : jx_clF 7 ("QuotaPeers$Credit", tf_7, 14) := ⟨jx_goodIn_r _ [1023, 1025, 1027, 1029, 1031, 1033, 1035, 1037, 1039, 1041, 1043, 1045, 1047, 1049] (by decide +kernel) (by decide +kernel), by decide +kernel, by decide +kernel, by decide +kernel, List.mem_filter.mpr ⟨List.mem_of_getElem? (i := 947) (by decide +kernel), by decide +kernel⟩, List.mem_filter.mpr ⟨List.mem_of_getElem? (i := 149) (by decide +kernel), by decide +kernel⟩⟩
set_option maxRecDepth 100000 in
theorem jx_clF_8 : jx_clF 8 ("QuotaPeers$Session", tf_8, 8) := ⟨jx_goodIn_r _ [1115, 1117, 1119, 1121, 1123, 1125, 1127, 1129] (by decide +kernel) (by decide +kernel), by decide +kernel, by decide +kernel, by decide +kernel, List.mem_filter.mpr ⟨List.mem_of_getElem? (i := 1087) (by decide +kernel), by decide +kernel⟩, List.mem_filter.mpr ⟨List.mem_of_getElem? (i := 150) (by decide +kernel), by decide +kernel⟩⟩
set_option maxRecDepth 100000 in
theorem jx_clF_9 : jx_clF 9 ("QuotaPeers$KeptAnswer", tf_9, 4) := ⟨jx_goodIn_r _ [1203, 1205, 1207, 1209] (by decide +kernel) (by decide +kernel), by decide +kernel, by decide +kernel, by decide +kernel, List.mem_filter.mpr ⟨List.mem_of_getElem? (i := 1186) (by decide +kernel), by decide +kernel⟩, List.mem_filter.mpr ⟨List.mem_of_getElem? (i := 151) (by decide +kernel), by decide +kernel⟩⟩
set_option maxRecDepth 100000 in
theorem jx_clF_10 : jx_clF 10 ("QuotaPeers$Account", tf_10, 4) := ⟨jx_goodIn_r _ [1315, 1317, 1319, 1321] (by decide +kernel) (by decide +kernel), by decide +kernel, by decide +kernel, by decide +kernel, List.mem_filter.mpr ⟨List.mem_of_getElem? (i := 1300) (by decide +kernel), by decide +kernel⟩, List.mem_filter.mpr ⟨List.mem_of_getElem? (i := 152) (by decide +kernel), by decide +kernel⟩⟩
set_option maxRecDepth 100000 in
theorem jx_clF_11 : jx_clF 11 ("QuotaPeers$Ask", tf_11, 6) := ⟨jx_goodIn_r _ [1366, 1368, 1370, 1372, 1374, 1376] (by decide +kernel) (by decide +kernel), by decide +kernel, by decide +kernel, by decide +kernel, List.mem_filter.mpr ⟨List.mem_of_getElem? (i := 1346) (by decide +kernel), by decide +kernel⟩, List.mem_filter.mpr ⟨List.mem_of_getElem? (i := 153) (by decide +kernel), by decide +kernel⟩⟩
set_option maxRecDepth 100000 in
theorem jx_clF_12 : jx_clF 12 ("QuotaPeersModel", tf_12, 92) := ⟨jx_goodIn_r _ [1489, 1491, 1493, 1495, 1497, 1499, 1501, 1503, 1505, 1507, 1509, 1511, 1513, 1515, 1517, 1519, 1521, 1523, 1525, 1527, 1529, 1531, 1533, 1535, 1537, 1539, 1541, 1543, 1545, 1547, 1549, 1551, 1553, 1555, 1557, 1559, 1561, 1563, 1565, 1567, 1569, 1571, 1573, 1575, 1577, 1579, 1581, 1583, 1585, 1587, 1589, 1591, 1593, 1595, 1597, 1599, 1601, 1603, 1605, 1607, 1609, 1611, 1613, 1615, 1617, 1619, 1621, 1623, 1625, 1627, 1629, 1631, 1633, 1635, 1637, 1639, 1641, 1643, 1645, 1647, 1649, 1651, 1653, 1655, 1657, 1659, 1661, 1663, 1665, 1667, 1669, 1671] (by decide +kernel) (by decide +kernel), by decide +kernel, by decide +kernel, by decide +kernel, List.mem_filter.mpr ⟨List.mem_of_getElem? (i := 1392) (by decide +kernel), by decide +kernel⟩, List.mem_filter.mpr ⟨List.mem_of_getElem? (i := 144) (by decide +kernel), by decide +kernel⟩⟩
theorem jx_clFs : ∀ (ci : Nat) (q : vw_C), tb_cl[ci]? = some q → jx_clF ci q := by
  intro ci q h
  match ci, h with
  | 0, h => cases h; exact jx_clF_0
  | 1, h => cases h; exact jx_clF_1
  | 2, h => cases h; exact jx_clF_2
  | 3, h => cases h; exact jx_clF_3
  | 4, h => cases h; exact jx_clF_4
  | 5, h => cases h; exact jx_clF_5
  | 6, h => cases h; exact jx_clF_6
  | 7, h => cases h; exact jx_clF_7
  | 8, h => cases h; exact jx_clF_8
  | 9, h => cases h; exact jx_clF_9
  | 10, h => cases h; exact jx_clF_10
  | 11, h => cases h; exact jx_clF_11
  | 12, h => cases h; exact jx_clF_12
  | n + 13, h => simp [tb_cl] at h
