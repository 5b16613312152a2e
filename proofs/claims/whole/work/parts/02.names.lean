def R_Atlas : String := "ProtocolAtlas$Atlas"
def F_Atlas : u_T := fun k => match k with
  | 0 => ("ProtocolAtlas$Atlas", "worlds", "I", false)
  | 1 => ("ProtocolAtlas$Atlas", "agents", "I", false)
  | 2 => ("ProtocolAtlas$Atlas", "index", "LProtocolAtlas$Index;", true)
  | 3 => ("ProtocolAtlas$Atlas", "key", "[J", true)
  | 4 => ("ProtocolAtlas$Atlas", "depth", "[I", true)
  | 5 => ("ProtocolAtlas$Atlas", "parent", "[I", true)
  | 6 => ("ProtocolAtlas$Atlas", "step", "[I", true)
  | 7 => ("ProtocolAtlas$Atlas", "times", "[I", true)
  | 8 => ("ProtocolAtlas$Atlas", "bad", "[Z", true)
  | 9 => ("ProtocolAtlas$Atlas", "code", "[I", true)
  | 10 => ("ProtocolAtlas$Atlas", "like", "[I", true)
  | 11 => ("ProtocolAtlas$Atlas", "from", "[I", true)
  | 12 => ("ProtocolAtlas$Atlas", "moves", "[I", true)
  | 13 => ("ProtocolAtlas$Atlas", "sorted", "[I", true)
  | 14 => ("ProtocolAtlas$Atlas", "rank", "[I", true)
  | 15 => ("ProtocolAtlas$Atlas", "here", "LProtocolAtlas$World;", true)
  | _ => ("ProtocolAtlas$Atlas", "there", "LProtocolAtlas$World;", true)
def t_Atlas : Nat → FieldType := fun k => match k with
  | 0 => .int
  | 1 => .int
  | 2 => .object "ProtocolAtlas$Index"
  | 3 => .array .long
  | 4 => .array .int
  | 5 => .array .int
  | 6 => .array .int
  | 7 => .array .int
  | 8 => .array .boolean
  | 9 => .array .int
  | 10 => .array .int
  | 11 => .array .int
  | 12 => .array .int
  | 13 => .array .int
  | 14 => .array .int
  | 15 => .object "ProtocolAtlas$World"
  | _ => .object "ProtocolAtlas$World"
def R_Bytes : String := "ProtocolAtlas$Bytes"
def F_Bytes : u_T := fun k => match k with
  | 0 => ("ProtocolAtlas$Bytes", "value", "[I", true)
  | _ => ("ProtocolAtlas$Bytes", "length", "I", false)
def t_Bytes : Nat → FieldType := fun k => match k with
  | 0 => .array .int
  | _ => .int
def R_Index : String := "ProtocolAtlas$Index"
def F_Index : u_T := fun k => match k with
  | 0 => ("ProtocolAtlas$Index", "keys", "[J", true)
  | _ => ("ProtocolAtlas$Index", "numbers", "[I", true)
def t_Index : Nat → FieldType := fun k => match k with
  | 0 => .array .long
  | _ => .array .int
def R_Joined : String := "ProtocolAtlas$Joined"
def F_Joined : u_T := fun k => match k with
  | 0 => ("ProtocolAtlas$Joined", "atlas", "LProtocolAtlas$Atlas;", true)
  | 1 => ("ProtocolAtlas$Joined", "followed", "Z", false)
  | 2 => ("ProtocolAtlas$Joined", "skipped", "I", false)
  | 3 => ("ProtocolAtlas$Joined", "avoided", "I", false)
  | 4 => ("ProtocolAtlas$Joined", "groups", "I", false)
  | 5 => ("ProtocolAtlas$Joined", "group", "[I", true)
  | 6 => ("ProtocolAtlas$Joined", "start", "[I", true)
  | 7 => ("ProtocolAtlas$Joined", "member", "[I", true)
  | 8 => ("ProtocolAtlas$Joined", "order", "[I", true)
  | 9 => ("ProtocolAtlas$Joined", "low", "[I", true)
  | 10 => ("ProtocolAtlas$Joined", "edge", "[I", true)
  | 11 => ("ProtocolAtlas$Joined", "waiting", "[I", true)
  | 12 => ("ProtocolAtlas$Joined", "open", "[I", true)
  | 13 => ("ProtocolAtlas$Joined", "entered", "I", false)
  | 14 => ("ProtocolAtlas$Joined", "waits", "I", false)
  | _ => ("ProtocolAtlas$Joined", "opened", "I", false)
def t_Joined : Nat → FieldType := fun k => match k with
  | 0 => .object "ProtocolAtlas$Atlas"
  | 1 => .boolean
  | 2 => .int
  | 3 => .int
  | 4 => .int
  | 5 => .array .int
  | 6 => .array .int
  | 7 => .array .int
  | 8 => .array .int
  | 9 => .array .int
  | 10 => .array .int
  | 11 => .array .int
  | 12 => .array .int
  | 13 => .int
  | 14 => .int
  | _ => .int
def R_Reader : String := "ProtocolAtlas$Reader"
def F_Reader : u_T := fun k => match k with
  | 0 => ("ProtocolAtlas$Reader", "draft", "LProtocolAtlas$Table;", false)
  | 1 => ("ProtocolAtlas$Reader", "sort", "[I", true)
  | 2 => ("ProtocolAtlas$Reader", "start", "[I", true)
  | 3 => ("ProtocolAtlas$Reader", "size", "[I", true)
  | 4 => ("ProtocolAtlas$Reader", "code", "[J", true)
  | 5 => ("ProtocolAtlas$Reader", "at", "I", false)
  | 6 => ("ProtocolAtlas$Reader", "found", "I", false)
  | 7 => ("ProtocolAtlas$Reader", "fault", "I", false)
  | _ => ("ProtocolAtlas$Reader", "place", "I", false)
def t_Reader : Nat → FieldType := fun k => match k with
  | 0 => .object "ProtocolAtlas$Table"
  | 1 => .array .int
  | 2 => .array .int
  | 3 => .array .int
  | 4 => .array .long
  | 5 => .int
  | 6 => .int
  | 7 => .int
  | _ => .int
def R_Row : String := "ProtocolAtlas$Row"
def F_Row : u_T := fun k => match k with
  | 0 => ("ProtocolAtlas$Row", "atHome", "Z", false)
  | 1 => ("ProtocolAtlas$Row", "from", "I", false)
  | 2 => ("ProtocolAtlas$Row", "with", "I", false)
  | 3 => ("ProtocolAtlas$Row", "to", "I", false)
  | 4 => ("ProtocolAtlas$Row", "gives", "I", false)
  | 5 => ("ProtocolAtlas$Row", "telling", "I", false)
  | 6 => ("ProtocolAtlas$Row", "others", "I", false)
  | _ => ("ProtocolAtlas$Row", "some", "Z", false)
def t_Row : Nat → FieldType := fun k => match k with
  | 0 => .boolean
  | 1 => .int
  | 2 => .int
  | 3 => .int
  | 4 => .int
  | 5 => .int
  | 6 => .int
  | _ => .boolean
def R_Search : String := "ProtocolAtlas$Search"
def F_Search : u_T := fun k => match k with
  | 0 => ("ProtocolAtlas$Search", "index", "LProtocolAtlas$Index;", true)
  | 1 => ("ProtocolAtlas$Search", "own", "[J", true)
  | 2 => ("ProtocolAtlas$Search", "folded", "[J", true)
  | 3 => ("ProtocolAtlas$Search", "depth", "[I", true)
  | 4 => ("ProtocolAtlas$Search", "parent", "[I", true)
  | 5 => ("ProtocolAtlas$Search", "step", "[I", true)
  | 6 => ("ProtocolAtlas$Search", "here", "LProtocolAtlas$World;", true)
  | 7 => ("ProtocolAtlas$Search", "there", "LProtocolAtlas$World;", true)
  | _ => ("ProtocolAtlas$Search", "worlds", "I", false)
def t_Search : Nat → FieldType := fun k => match k with
  | 0 => .object "ProtocolAtlas$Index"
  | 1 => .array .long
  | 2 => .array .long
  | 3 => .array .int
  | 4 => .array .int
  | 5 => .array .int
  | 6 => .object "ProtocolAtlas$World"
  | 7 => .object "ProtocolAtlas$World"
  | _ => .int
def R_Sight : String := "ProtocolAtlas$Sight"
def F_Sight : u_T := fun k => match k with
  | 0 => ("ProtocolAtlas$Sight", "state", "[I", true)
  | 1 => ("ProtocolAtlas$Sight", "many", "[I", true)
  | 2 => ("ProtocolAtlas$Sight", "rows", "I", false)
  | 3 => ("ProtocolAtlas$Sight", "since", "I", false)
  | 4 => ("ProtocolAtlas$Sight", "here", "[Z", true)
  | 5 => ("ProtocolAtlas$Sight", "there", "[Z", true)
  | 6 => ("ProtocolAtlas$Sight", "list", "[I", true)
  | 7 => ("ProtocolAtlas$Sight", "found", "I", false)
  | 8 => ("ProtocolAtlas$Sight", "lookedFrom", "I", false)
  | _ => ("ProtocolAtlas$Sight", "tally", "[I", true)
def t_Sight : Nat → FieldType := fun k => match k with
  | 0 => .array .int
  | 1 => .array .int
  | 2 => .int
  | 3 => .int
  | 4 => .array .boolean
  | 5 => .array .boolean
  | 6 => .array .int
  | 7 => .int
  | 8 => .int
  | _ => .array .int
def R_Study : String := "ProtocolAtlas$Study"
def F_Study : u_T := fun k => match k with
  | 0 => ("ProtocolAtlas$Study", "atlas", "LProtocolAtlas$Atlas;", true)
  | 1 => ("ProtocolAtlas$Study", "joined", "LProtocolAtlas$Joined;", true)
  | 2 => ("ProtocolAtlas$Study", "table", "LProtocolAtlas$Table;", false)
  | 3 => ("ProtocolAtlas$Study", "parts", "I", false)
  | 4 => ("ProtocolAtlas$Study", "partOf", "[I", true)
  | 5 => ("ProtocolAtlas$Study", "partSize", "[I", true)
  | 6 => ("ProtocolAtlas$Study", "partFirst", "[I", true)
  | 7 => ("ProtocolAtlas$Study", "partEnds", "[Z", true)
  | 8 => ("ProtocolAtlas$Study", "partOfGroup", "[I", true)
  | 9 => ("ProtocolAtlas$Study", "starves", "[Z", true)
  | 10 => ("ProtocolAtlas$Study", "leftOut", "[Z", true)
  | 11 => ("ProtocolAtlas$Study", "marked", "[Z", true)
  | 12 => ("ProtocolAtlas$Study", "reached", "[Z", true)
  | 13 => ("ProtocolAtlas$Study", "queue", "[I", true)
  | 14 => ("ProtocolAtlas$Study", "figured", "[Z", true)
  | _ => ("ProtocolAtlas$Study", "figures", "[I", true)
def t_Study : Nat → FieldType := fun k => match k with
  | 0 => .object "ProtocolAtlas$Atlas"
  | 1 => .object "ProtocolAtlas$Joined"
  | 2 => .object "ProtocolAtlas$Table"
  | 3 => .int
  | 4 => .array .int
  | 5 => .array .int
  | 6 => .array .int
  | 7 => .array .boolean
  | 8 => .array .int
  | 9 => .array .boolean
  | 10 => .array .boolean
  | 11 => .array .boolean
  | 12 => .array .boolean
  | 13 => .array .int
  | 14 => .array .boolean
  | _ => .array .int
def R_Table : String := "ProtocolAtlas$Table"
def F_Table : u_T := fun k => match k with
  | 0 => ("ProtocolAtlas$Table", "agents", "I", false)
  | 1 => ("ProtocolAtlas$Table", "count", "[I", true)
  | 2 => ("ProtocolAtlas$Table", "names", "[I", true)
  | 3 => ("ProtocolAtlas$Table", "loose", "Z", false)
  | 4 => ("ProtocolAtlas$Table", "rows", "I", false)
  | 5 => ("ProtocolAtlas$Table", "row", "[LProtocolAtlas$Row;", true)
  | 6 => ("ProtocolAtlas$Table", "nevers", "I", false)
  | 7 => ("ProtocolAtlas$Table", "counts", "[I", true)
  | 8 => ("ProtocolAtlas$Table", "atLeast", "[I", true)
  | 9 => ("ProtocolAtlas$Table", "ofState", "[I", true)
  | 10 => ("ProtocolAtlas$Table", "wanting", "I", false)
  | _ => ("ProtocolAtlas$Table", "wanted", "I", false)
def t_Table : Nat → FieldType := fun k => match k with
  | 0 => .int
  | 1 => .array .int
  | 2 => .array .int
  | 3 => .boolean
  | 4 => .int
  | 5 => .array (.object "ProtocolAtlas$Row")
  | 6 => .int
  | 7 => .array .int
  | 8 => .array .int
  | 9 => .array .int
  | 10 => .int
  | _ => .int
def R_World : String := "ProtocolAtlas$World"
def F_World : u_T := fun k => match k with
  | 0 => ("ProtocolAtlas$World", "home", "I", false)
  | 1 => ("ProtocolAtlas$World", "agents", "I", false)
  | 2 => ("ProtocolAtlas$World", "code", "[I", true)
  | 3 => ("ProtocolAtlas$World", "place", "[I", true)
  | _ => ("ProtocolAtlas$World", "risen", "[I", true)
def t_World : Nat → FieldType := fun k => match k with
  | 0 => .int
  | 1 => .int
  | 2 => .array .int
  | 3 => .array .int
  | _ => .array .int
def R_PA : String := "ProtocolAtlas"
def F_PA : u_T := fun k => match k with
  | 0 => ("ProtocolAtlas", "tape", "LProtocolAtlas$Bytes;", true)
  | 1 => ("ProtocolAtlas", "written", "LProtocolAtlas$Bytes;", true)
  | 2 => ("ProtocolAtlas", "trial", "LProtocolAtlas$Bytes;", true)
  | 3 => ("ProtocolAtlas", "search", "LProtocolAtlas$Search;", true)
  | 4 => ("ProtocolAtlas", "atlas", "LProtocolAtlas$Atlas;", true)
  | 5 => ("ProtocolAtlas", "sight", "LProtocolAtlas$Sight;", true)
  | 6 => ("ProtocolAtlas", "walk", "LProtocolAtlas$World;", true)
  | 7 => ("ProtocolAtlas", "ahead", "LProtocolAtlas$World;", true)
  | 8 => ("ProtocolAtlas", "trail", "[J", true)
  | 9 => ("ProtocolAtlas", "refused", "[I", true)
  | 10 => ("ProtocolAtlas", "reader", "LProtocolAtlas$Reader;", true)
  | 11 => ("ProtocolAtlas", "table", "LProtocolAtlas$Table;", false)
  | 12 => ("ProtocolAtlas", "study", "LProtocolAtlas$Study;", true)
  | 13 => ("ProtocolAtlas", "ready", "Z", false)
  | 14 => ("ProtocolAtlas", "acts", "I", false)
  | _ => ("ProtocolAtlas", "drawn", "J", false)
def t_PA : Nat → FieldType := fun k => match k with
  | 0 => .object "ProtocolAtlas$Bytes"
  | 1 => .object "ProtocolAtlas$Bytes"
  | 2 => .object "ProtocolAtlas$Bytes"
  | 3 => .object "ProtocolAtlas$Search"
  | 4 => .object "ProtocolAtlas$Atlas"
  | 5 => .object "ProtocolAtlas$Sight"
  | 6 => .object "ProtocolAtlas$World"
  | 7 => .object "ProtocolAtlas$World"
  | 8 => .array .long
  | 9 => .array .int
  | 10 => .object "ProtocolAtlas$Reader"
  | 11 => .object "ProtocolAtlas$Table"
  | 12 => .object "ProtocolAtlas$Study"
  | 13 => .boolean
  | 14 => .int
  | _ => .long
def R_MO : String := "ProtocolAtlasModel"
def F_MO : u_T := fun k => match k with
  | 0 => ("ProtocolAtlasModel", "tape", "[I", true)
  | 1 => ("ProtocolAtlasModel", "taped", "I", false)
  | 2 => ("ProtocolAtlasModel", "at", "I", false)
  | 3 => ("ProtocolAtlasModel", "end", "I", false)
  | 4 => ("ProtocolAtlasModel", "ended", "I", false)
  | 5 => ("ProtocolAtlasModel", "bad", "I", false)
  | 6 => ("ProtocolAtlasModel", "badPlace", "I", false)
  | 7 => ("ProtocolAtlasModel", "fault", "I", false)
  | 8 => ("ProtocolAtlasModel", "faultPlace", "I", false)
  | 9 => ("ProtocolAtlasModel", "refused", "[I", true)
  | 10 => ("ProtocolAtlasModel", "agentsWord", "[C", true)
  | 11 => ("ProtocolAtlasModel", "statesWord", "[C", true)
  | 12 => ("ProtocolAtlasModel", "homeWord", "[C", true)
  | 13 => ("ProtocolAtlasModel", "messagesWord", "[C", true)
  | 14 => ("ProtocolAtlasModel", "orderWord", "[C", true)
  | 15 => ("ProtocolAtlasModel", "keptWord", "[C", true)
  | 16 => ("ProtocolAtlasModel", "looseWord", "[C", true)
  | 17 => ("ProtocolAtlasModel", "neverWord", "[C", true)
  | 18 => ("ProtocolAtlasModel", "andWord", "[C", true)
  | 19 => ("ProtocolAtlasModel", "wantsWord", "[C", true)
  | 20 => ("ProtocolAtlasModel", "onWord", "[C", true)
  | 21 => ("ProtocolAtlasModel", "withWord", "[C", true)
  | 22 => ("ProtocolAtlasModel", "toWord", "[C", true)
  | 23 => ("ProtocolAtlasModel", "sendsWord", "[C", true)
  | 24 => ("ProtocolAtlasModel", "atWord", "[C", true)
  | 25 => ("ProtocolAtlasModel", "repliesWord", "[C", true)
  | 26 => ("ProtocolAtlasModel", "tellsWord", "[C", true)
  | 27 => ("ProtocolAtlasModel", "noneWord", "[C", true)
  | 28 => ("ProtocolAtlasModel", "someWord", "[C", true)
  | 29 => ("ProtocolAtlasModel", "namePlace", "I", false)
  | 30 => ("ProtocolAtlasModel", "draft", "[I", true)
  | 31 => ("ProtocolAtlasModel", "table", "[I", true)
  | 32 => ("ProtocolAtlasModel", "spare", "[I", true)
  | 33 => ("ProtocolAtlasModel", "isTold", "Z", false)
  | 34 => ("ProtocolAtlasModel", "statements", "I", false)
  | 35 => ("ProtocolAtlasModel", "told", "I", false)
  | 36 => ("ProtocolAtlasModel", "home", "I", false)
  | 37 => ("ProtocolAtlasModel", "agent0", "[I", true)
  | 38 => ("ProtocolAtlasModel", "toHome", "I", false)
  | 39 => ("ProtocolAtlasModel", "to", "[I", true)
  | 40 => ("ProtocolAtlasModel", "drawn", "I", false)
  | 41 => ("ProtocolAtlasModel", "worldMany", "I", false)
  | 42 => ("ProtocolAtlasModel", "worlds", "[J", true)
  | 43 => ("ProtocolAtlasModel", "depth", "[I", true)
  | 44 => ("ProtocolAtlasModel", "places", "[I", true)
  | 45 => ("ProtocolAtlasModel", "leadsTo", "[I", true)
  | 46 => ("ProtocolAtlasModel", "isLooked", "Z", false)
  | 47 => ("ProtocolAtlasModel", "lookTo", "[I", true)
  | 48 => ("ProtocolAtlasModel", "looked", "[I", true)
  | 49 => ("ProtocolAtlasModel", "reach", "[I", true)
  | 50 => ("ProtocolAtlasModel", "isOpen", "[Z", true)
  | 51 => ("ProtocolAtlasModel", "doesComeTo", "[Z", true)
  | 52 => ("ProtocolAtlasModel", "isLeft", "[Z", true)
  | 53 => ("ProtocolAtlasModel", "joined", "[I", true)
  | 54 => ("ProtocolAtlasModel", "order", "[I", true)
  | 55 => ("ProtocolAtlasModel", "low", "[I", true)
  | 56 => ("ProtocolAtlasModel", "way0", "[I", true)
  | 57 => ("ProtocolAtlasModel", "next", "[I", true)
  | 58 => ("ProtocolAtlasModel", "heap", "[I", true)
  | 59 => ("ProtocolAtlasModel", "isHeaped", "[Z", true)
  | 60 => ("ProtocolAtlasModel", "wayMany", "I", false)
  | 61 => ("ProtocolAtlasModel", "heapMany", "I", false)
  | 62 => ("ProtocolAtlasModel", "orderMany", "I", false)
  | 63 => ("ProtocolAtlasModel", "joinedMany", "I", false)
  | 64 => ("ProtocolAtlasModel", "doesGoOn", "[Z", true)
  | 65 => ("ProtocolAtlasModel", "canUse", "[I", true)
  | 66 => ("ProtocolAtlasModel", "staysBy", "[I", true)
  | 67 => ("ProtocolAtlasModel", "partOf", "[I", true)
  | 68 => ("ProtocolAtlasModel", "partFirst", "[I", true)
  | 69 => ("ProtocolAtlasModel", "partNumber", "[I", true)
  | 70 => ("ProtocolAtlasModel", "far", "[I", true)
  | 71 => ("ProtocolAtlasModel", "best0", "[I", true)
  | 72 => ("ProtocolAtlasModel", "walk", "J", false)
  | 73 => ("ProtocolAtlasModel", "walks", "[J", true)
  | 74 => ("ProtocolAtlasModel", "undoable", "I", false)
  | 75 => ("ProtocolAtlasModel", "newest", "I", false)
  | 76 => ("ProtocolAtlasModel", "seeded", "J", false)
  | 77 => ("ProtocolAtlasModel", "rowMany", "I", false)
  | 78 => ("ProtocolAtlasModel", "seenMoves", "I", false)
  | 79 => ("ProtocolAtlasModel", "rows", "[I", true)
  | 80 => ("ProtocolAtlasModel", "could", "[Z", true)
  | 81 => ("ProtocolAtlasModel", "could0", "[Z", true)
  | 82 => ("ProtocolAtlasModel", "octet", "[I", true)
  | 83 => ("ProtocolAtlasModel", "octets", "I", false)
  | _ => ("ProtocolAtlasModel", "octet0", "[I", true)
def t_MO : Nat → FieldType := fun k => match k with
  | 0 => .array .int
  | 1 => .int
  | 2 => .int
  | 3 => .int
  | 4 => .int
  | 5 => .int
  | 6 => .int
  | 7 => .int
  | 8 => .int
  | 9 => .array .int
  | 10 => .array .char
  | 11 => .array .char
  | 12 => .array .char
  | 13 => .array .char
  | 14 => .array .char
  | 15 => .array .char
  | 16 => .array .char
  | 17 => .array .char
  | 18 => .array .char
  | 19 => .array .char
  | 20 => .array .char
  | 21 => .array .char
  | 22 => .array .char
  | 23 => .array .char
  | 24 => .array .char
  | 25 => .array .char
  | 26 => .array .char
  | 27 => .array .char
  | 28 => .array .char
  | 29 => .int
  | 30 => .array .int
  | 31 => .array .int
  | 32 => .array .int
  | 33 => .boolean
  | 34 => .int
  | 35 => .int
  | 36 => .int
  | 37 => .array .int
  | 38 => .int
  | 39 => .array .int
  | 40 => .int
  | 41 => .int
  | 42 => .array .long
  | 43 => .array .int
  | 44 => .array .int
  | 45 => .array .int
  | 46 => .boolean
  | 47 => .array .int
  | 48 => .array .int
  | 49 => .array .int
  | 50 => .array .boolean
  | 51 => .array .boolean
  | 52 => .array .boolean
  | 53 => .array .int
  | 54 => .array .int
  | 55 => .array .int
  | 56 => .array .int
  | 57 => .array .int
  | 58 => .array .int
  | 59 => .array .boolean
  | 60 => .int
  | 61 => .int
  | 62 => .int
  | 63 => .int
  | 64 => .array .boolean
  | 65 => .array .int
  | 66 => .array .int
  | 67 => .array .int
  | 68 => .array .int
  | 69 => .array .int
  | 70 => .array .int
  | 71 => .array .int
  | 72 => .long
  | 73 => .array .long
  | 74 => .int
  | 75 => .int
  | 76 => .long
  | 77 => .int
  | 78 => .int
  | 79 => .array .int
  | 80 => .array .boolean
  | 81 => .array .boolean
  | 82 => .array .int
  | 83 => .int
  | _ => .array .int
abbrev zcl : List vw_C := [(R_Atlas, F_Atlas, 17), (R_Bytes, F_Bytes, 2), (R_Index, F_Index, 2), (R_Joined, F_Joined, 16), (R_Reader, F_Reader, 9), (R_Row, F_Row, 8), (R_Search, F_Search, 9), (R_Sight, F_Sight, 10), (R_Study, F_Study, 16), (R_Table, F_Table, 12), (R_World, F_World, 5), (R_PA, F_PA, 16), (R_MO, F_MO, 85)]
def zkd : Nat → List Nat := fun c => match c with
  | 0 => [0, 0, 2, 2, 2, 2, 2, 2, 2, 2, 2, 2, 2, 2, 2, 2, 2]
  | 1 => [2, 0]
  | 2 => [2, 2]
  | 3 => [2, 0, 0, 0, 0, 2, 2, 2, 2, 2, 2, 2, 2, 0, 0, 0]
  | 4 => [2, 2, 2, 2, 2, 0, 0, 0, 0]
  | 5 => [0, 0, 0, 0, 0, 0, 0, 0]
  | 6 => [2, 2, 2, 2, 2, 2, 2, 2, 0]
  | 7 => [2, 2, 0, 0, 2, 2, 2, 0, 0, 2]
  | 8 => [2, 2, 2, 0, 2, 2, 2, 2, 2, 2, 2, 2, 2, 2, 2, 2]
  | 9 => [0, 2, 2, 0, 0, 2, 0, 2, 2, 2, 0, 0]
  | 10 => [0, 0, 2, 2, 2]
  | 11 => [2, 2, 2, 2, 2, 2, 2, 2, 2, 2, 2, 2, 2, 0, 0, 1]
  | 12 => [2, 0, 0, 0, 0, 0, 0, 0, 0, 2, 2, 2, 2, 2, 2, 2, 2, 2, 2, 2, 2, 2, 2, 2, 2, 2, 2, 2, 2, 0, 2, 2, 2, 0, 0, 0, 0, 2, 0, 2, 0, 0, 2, 2, 2, 2, 0, 2, 2, 2, 2, 2, 2, 2, 2, 2, 2, 2, 2, 2, 0, 0, 0, 0, 2, 2, 2, 2, 2, 2, 2, 2, 1, 2, 0, 0, 1, 0, 0, 2, 2, 2, 2, 0, 2]
  | _ => []
theorem n_Atlas : ∀ a, a < 17 → ∀ b, b < 17 → a ≠ b → (F_Atlas a).2.1 ≠ (F_Atlas b).2.1 := by decide +kernel
theorem t_Atlas_ok : ∀ k, k < 17 → parseFieldDescriptor (F_Atlas k).2.2.1 = some (t_Atlas k) := by decide +kernel
theorem k_Atlas_ok : ∀ k, k < 17 → (zkd 0).getD k 9 = (match t_Atlas k with | .long => 1 | .object _ => 2 | .array _ => 2 | _ => 0) := by decide +kernel
theorem i_Atlas : ∀ w ∈ u_ws R_Atlas F_Atlas 17, w ∈ lw_tbl := by decide +kernel
theorem n_Bytes : ∀ a, a < 2 → ∀ b, b < 2 → a ≠ b → (F_Bytes a).2.1 ≠ (F_Bytes b).2.1 := by decide +kernel
theorem t_Bytes_ok : ∀ k, k < 2 → parseFieldDescriptor (F_Bytes k).2.2.1 = some (t_Bytes k) := by decide +kernel
theorem k_Bytes_ok : ∀ k, k < 2 → (zkd 1).getD k 9 = (match t_Bytes k with | .long => 1 | .object _ => 2 | .array _ => 2 | _ => 0) := by decide +kernel
theorem i_Bytes : ∀ w ∈ u_ws R_Bytes F_Bytes 2, w ∈ lw_tbl := by decide +kernel
theorem n_Index : ∀ a, a < 2 → ∀ b, b < 2 → a ≠ b → (F_Index a).2.1 ≠ (F_Index b).2.1 := by decide +kernel
theorem t_Index_ok : ∀ k, k < 2 → parseFieldDescriptor (F_Index k).2.2.1 = some (t_Index k) := by decide +kernel
theorem k_Index_ok : ∀ k, k < 2 → (zkd 2).getD k 9 = (match t_Index k with | .long => 1 | .object _ => 2 | .array _ => 2 | _ => 0) := by decide +kernel
theorem i_Index : ∀ w ∈ u_ws R_Index F_Index 2, w ∈ lw_tbl := by decide +kernel
theorem n_Joined : ∀ a, a < 16 → ∀ b, b < 16 → a ≠ b → (F_Joined a).2.1 ≠ (F_Joined b).2.1 := by decide +kernel
theorem t_Joined_ok : ∀ k, k < 16 → parseFieldDescriptor (F_Joined k).2.2.1 = some (t_Joined k) := by decide +kernel
theorem k_Joined_ok : ∀ k, k < 16 → (zkd 3).getD k 9 = (match t_Joined k with | .long => 1 | .object _ => 2 | .array _ => 2 | _ => 0) := by decide +kernel
theorem i_Joined : ∀ w ∈ u_ws R_Joined F_Joined 16, w ∈ lw_tbl := by decide +kernel
theorem n_Reader : ∀ a, a < 9 → ∀ b, b < 9 → a ≠ b → (F_Reader a).2.1 ≠ (F_Reader b).2.1 := by decide +kernel
theorem t_Reader_ok : ∀ k, k < 9 → parseFieldDescriptor (F_Reader k).2.2.1 = some (t_Reader k) := by decide +kernel
theorem k_Reader_ok : ∀ k, k < 9 → (zkd 4).getD k 9 = (match t_Reader k with | .long => 1 | .object _ => 2 | .array _ => 2 | _ => 0) := by decide +kernel
theorem i_Reader : ∀ w ∈ u_ws R_Reader F_Reader 9, w ∈ lw_tbl := by decide +kernel
theorem n_Row : ∀ a, a < 8 → ∀ b, b < 8 → a ≠ b → (F_Row a).2.1 ≠ (F_Row b).2.1 := by decide +kernel
theorem t_Row_ok : ∀ k, k < 8 → parseFieldDescriptor (F_Row k).2.2.1 = some (t_Row k) := by decide +kernel
theorem k_Row_ok : ∀ k, k < 8 → (zkd 5).getD k 9 = (match t_Row k with | .long => 1 | .object _ => 2 | .array _ => 2 | _ => 0) := by decide +kernel
theorem i_Row : ∀ w ∈ u_ws R_Row F_Row 8, w ∈ lw_tbl := by decide +kernel
theorem n_Search : ∀ a, a < 9 → ∀ b, b < 9 → a ≠ b → (F_Search a).2.1 ≠ (F_Search b).2.1 := by decide +kernel
theorem t_Search_ok : ∀ k, k < 9 → parseFieldDescriptor (F_Search k).2.2.1 = some (t_Search k) := by decide +kernel
theorem k_Search_ok : ∀ k, k < 9 → (zkd 6).getD k 9 = (match t_Search k with | .long => 1 | .object _ => 2 | .array _ => 2 | _ => 0) := by decide +kernel
theorem i_Search : ∀ w ∈ u_ws R_Search F_Search 9, w ∈ lw_tbl := by decide +kernel
theorem n_Sight : ∀ a, a < 10 → ∀ b, b < 10 → a ≠ b → (F_Sight a).2.1 ≠ (F_Sight b).2.1 := by decide +kernel
theorem t_Sight_ok : ∀ k, k < 10 → parseFieldDescriptor (F_Sight k).2.2.1 = some (t_Sight k) := by decide +kernel
theorem k_Sight_ok : ∀ k, k < 10 → (zkd 7).getD k 9 = (match t_Sight k with | .long => 1 | .object _ => 2 | .array _ => 2 | _ => 0) := by decide +kernel
theorem i_Sight : ∀ w ∈ u_ws R_Sight F_Sight 10, w ∈ lw_tbl := by decide +kernel
theorem n_Study : ∀ a, a < 16 → ∀ b, b < 16 → a ≠ b → (F_Study a).2.1 ≠ (F_Study b).2.1 := by decide +kernel
theorem t_Study_ok : ∀ k, k < 16 → parseFieldDescriptor (F_Study k).2.2.1 = some (t_Study k) := by decide +kernel
theorem k_Study_ok : ∀ k, k < 16 → (zkd 8).getD k 9 = (match t_Study k with | .long => 1 | .object _ => 2 | .array _ => 2 | _ => 0) := by decide +kernel
theorem i_Study : ∀ w ∈ u_ws R_Study F_Study 16, w ∈ lw_tbl := by decide +kernel
theorem n_Table : ∀ a, a < 12 → ∀ b, b < 12 → a ≠ b → (F_Table a).2.1 ≠ (F_Table b).2.1 := by decide +kernel
theorem t_Table_ok : ∀ k, k < 12 → parseFieldDescriptor (F_Table k).2.2.1 = some (t_Table k) := by decide +kernel
theorem k_Table_ok : ∀ k, k < 12 → (zkd 9).getD k 9 = (match t_Table k with | .long => 1 | .object _ => 2 | .array _ => 2 | _ => 0) := by decide +kernel
theorem i_Table : ∀ w ∈ u_ws R_Table F_Table 12, w ∈ lw_tbl := by decide +kernel
theorem n_World : ∀ a, a < 5 → ∀ b, b < 5 → a ≠ b → (F_World a).2.1 ≠ (F_World b).2.1 := by decide +kernel
theorem t_World_ok : ∀ k, k < 5 → parseFieldDescriptor (F_World k).2.2.1 = some (t_World k) := by decide +kernel
theorem k_World_ok : ∀ k, k < 5 → (zkd 10).getD k 9 = (match t_World k with | .long => 1 | .object _ => 2 | .array _ => 2 | _ => 0) := by decide +kernel
theorem i_World : ∀ w ∈ u_ws R_World F_World 5, w ∈ lw_tbl := by decide +kernel
theorem n_PA : ∀ a, a < 16 → ∀ b, b < 16 → a ≠ b → (F_PA a).2.1 ≠ (F_PA b).2.1 := by decide +kernel
theorem t_PA_ok : ∀ k, k < 16 → parseFieldDescriptor (F_PA k).2.2.1 = some (t_PA k) := by decide +kernel
theorem k_PA_ok : ∀ k, k < 16 → (zkd 11).getD k 9 = (match t_PA k with | .long => 1 | .object _ => 2 | .array _ => 2 | _ => 0) := by decide +kernel
theorem i_PA : ∀ w ∈ u_ws R_PA F_PA 16, w ∈ lw_tbl := by decide +kernel
theorem n_MO : ∀ a, a < 85 → ∀ b, b < 85 → a ≠ b → (F_MO a).2.1 ≠ (F_MO b).2.1 := by decide +kernel
theorem t_MO_ok : ∀ k, k < 85 → parseFieldDescriptor (F_MO k).2.2.1 = some (t_MO k) := by decide +kernel
theorem k_MO_ok : ∀ k, k < 85 → (zkd 12).getD k 9 = (match t_MO k with | .long => 1 | .object _ => 2 | .array _ => 2 | _ => 0) := by decide +kernel
theorem i_MO : ∀ w ∈ u_ws R_MO F_MO 85, w ∈ lw_tbl := by decide +kernel
def ztb : List Cond := lw_tbl.filter goodWord
def znw : List Cond := [.methodLinkNest "ProtocolAtlas" 11 ⟨"ProtocolAtlas$Bytes", "<init>", "()V"⟩ "ProtocolAtlas", .methodLinkNest "ProtocolAtlas" 24 ⟨"ProtocolAtlas$Search", "<init>", "()V"⟩ "ProtocolAtlas", .methodLinkNest "ProtocolAtlas$Search" 11 ⟨"ProtocolAtlas$Index", "<init>", "()V"⟩ "ProtocolAtlas", .methodLinkNest "ProtocolAtlas$Search" 37 ⟨"ProtocolAtlas$World", "<init>", "()V"⟩ "ProtocolAtlas", .fieldLinkNest "ProtocolAtlas$Row" 47 "ProtocolAtlas$World" "home" "I" "ProtocolAtlas", .fieldLinkNest "ProtocolAtlas$Atlas" 144 "ProtocolAtlas$World" "home" "I" "ProtocolAtlas", .fieldLinkNest "ProtocolAtlas$Table" 114 "ProtocolAtlas$World" "home" "I" "ProtocolAtlas", .fieldLinkNest "ProtocolAtlas" 270 "ProtocolAtlas$World" "home" "I" "ProtocolAtlas", .fieldLinkNest "ProtocolAtlas$Row" 73 "ProtocolAtlas$World" "agents" "I" "ProtocolAtlas", .fieldLinkNest "ProtocolAtlas$Table" 110 "ProtocolAtlas$World" "agents" "I" "ProtocolAtlas", .fieldLinkNest "ProtocolAtlas$Row" 41 "ProtocolAtlas$World" "code" "[I" "ProtocolAtlas", .fieldLinkNest "ProtocolAtlas$Atlas" 117 "ProtocolAtlas$World" "code" "[I" "ProtocolAtlas", .fieldLinkNest "ProtocolAtlas$Table" 117 "ProtocolAtlas$World" "code" "[I" "ProtocolAtlas", .fieldLinkNest "ProtocolAtlas" 280 "ProtocolAtlas$World" "code" "[I" "ProtocolAtlas", .fieldLinkNest "ProtocolAtlas$Atlas" 133 "ProtocolAtlas$World" "place" "[I" "ProtocolAtlas", .fieldLinkNest "ProtocolAtlas$Atlas" 88 "ProtocolAtlas$Search" "folded" "[J" "ProtocolAtlas", .fieldLinkNest "ProtocolAtlas$Atlas" 91 "ProtocolAtlas$Search" "depth" "[I" "ProtocolAtlas", .fieldLinkNest "ProtocolAtlas$Atlas" 92 "ProtocolAtlas$Search" "parent" "[I" "ProtocolAtlas", .fieldLinkNest "ProtocolAtlas$Atlas" 93 "ProtocolAtlas$Search" "step" "[I" "ProtocolAtlas", .fieldLinkNest "ProtocolAtlas$Atlas" 75 "ProtocolAtlas$Search" "worlds" "I" "ProtocolAtlas", .methodLinkNest "ProtocolAtlas" 31 ⟨"ProtocolAtlas$Atlas", "<init>", "()V"⟩ "ProtocolAtlas", .methodLinkNest "ProtocolAtlas$Atlas" 20 ⟨"ProtocolAtlas$Index", "<init>", "()V"⟩ "ProtocolAtlas", .methodLinkNest "ProtocolAtlas$Atlas" 67 ⟨"ProtocolAtlas$World", "<init>", "()V"⟩ "ProtocolAtlas", .fieldLinkNest "ProtocolAtlas$Joined" 69 "ProtocolAtlas$Atlas" "worlds" "I" "ProtocolAtlas", .fieldLinkNest "ProtocolAtlas$Study" 103 "ProtocolAtlas$Atlas" "worlds" "I" "ProtocolAtlas", .fieldLinkNest "ProtocolAtlas$Sight" 65 "ProtocolAtlas$Atlas" "worlds" "I" "ProtocolAtlas", .fieldLinkNest "ProtocolAtlas" 152 "ProtocolAtlas$Atlas" "worlds" "I" "ProtocolAtlas", .fieldLinkNest "ProtocolAtlas$Joined" 82 "ProtocolAtlas$Atlas" "agents" "I" "ProtocolAtlas", .fieldLinkNest "ProtocolAtlas$Study" 144 "ProtocolAtlas$Atlas" "agents" "I" "ProtocolAtlas", .fieldLinkNest "ProtocolAtlas" 292 "ProtocolAtlas$Atlas" "key" "[J" "ProtocolAtlas", .fieldLinkNest "ProtocolAtlas" 158 "ProtocolAtlas$Atlas" "depth" "[I" "ProtocolAtlas", .fieldLinkNest "ProtocolAtlas" 197 "ProtocolAtlas$Atlas" "times" "[I" "ProtocolAtlas", .fieldLinkNest "ProtocolAtlas$Study" 157 "ProtocolAtlas$Atlas" "times" "[I" "ProtocolAtlas", .fieldLinkNest "ProtocolAtlas" 203 "ProtocolAtlas$Atlas" "bad" "[Z" "ProtocolAtlas", .fieldLinkNest "ProtocolAtlas$Study" 166 "ProtocolAtlas$Atlas" "bad" "[Z" "ProtocolAtlas", .fieldLinkNest "ProtocolAtlas$Joined" 91 "ProtocolAtlas$Atlas" "code" "[I" "ProtocolAtlas", .fieldLinkNest "ProtocolAtlas$Study" 147 "ProtocolAtlas$Atlas" "code" "[I" "ProtocolAtlas", .fieldLinkNest "ProtocolAtlas" 226 "ProtocolAtlas$Atlas" "code" "[I" "ProtocolAtlas", .fieldLinkNest "ProtocolAtlas$Joined" 85 "ProtocolAtlas$Atlas" "like" "[I" "ProtocolAtlas", .fieldLinkNest "ProtocolAtlas$Study" 154 "ProtocolAtlas$Atlas" "like" "[I" "ProtocolAtlas", .fieldLinkNest "ProtocolAtlas$Study" 111 "ProtocolAtlas$Atlas" "from" "[I" "ProtocolAtlas", .fieldLinkNest "ProtocolAtlas$Sight" 78 "ProtocolAtlas$Atlas" "from" "[I" "ProtocolAtlas", .fieldLinkNest "ProtocolAtlas$Joined" 109 "ProtocolAtlas$Atlas" "from" "[I" "ProtocolAtlas", .methodLinkNest "ProtocolAtlas" 38 ⟨"ProtocolAtlas$Sight", "<init>", "()V"⟩ "ProtocolAtlas", .fieldLinkNest "ProtocolAtlas" 173 "ProtocolAtlas$Sight" "rows" "I" "ProtocolAtlas", .fieldLinkNest "ProtocolAtlas" 325 "ProtocolAtlas$Sight" "list" "[I" "ProtocolAtlas", .fieldLinkNest "ProtocolAtlas" 322 "ProtocolAtlas$Sight" "found" "I" "ProtocolAtlas", .methodLinkNest "ProtocolAtlas" 45 ⟨"ProtocolAtlas$World", "<init>", "()V"⟩ "ProtocolAtlas", .methodLinkNest "ProtocolAtlas" 63 ⟨"ProtocolAtlas$Reader", "<init>", "()V"⟩ "ProtocolAtlas", .methodLinkNest "ProtocolAtlas$Table" 53 ⟨"ProtocolAtlas$Row", "<init>", "()V"⟩ "ProtocolAtlas", .fieldLinkNest "ProtocolAtlas$Joined" 143 "ProtocolAtlas$Row" "atHome" "Z" "ProtocolAtlas", .fieldLinkNest "ProtocolAtlas$Reader" 224 "ProtocolAtlas$Row" "from" "I" "ProtocolAtlas", .fieldLinkNest "ProtocolAtlas$Reader" 235 "ProtocolAtlas$Row" "with" "I" "ProtocolAtlas", .fieldLinkNest "ProtocolAtlas$Reader" 239 "ProtocolAtlas$Row" "to" "I" "ProtocolAtlas", .fieldLinkNest "ProtocolAtlas$Reader" 243 "ProtocolAtlas$Row" "gives" "I" "ProtocolAtlas", .fieldLinkNest "ProtocolAtlas$Reader" 250 "ProtocolAtlas$Row" "telling" "I" "ProtocolAtlas", .fieldLinkNest "ProtocolAtlas$Reader" 259 "ProtocolAtlas$Row" "others" "I" "ProtocolAtlas", .fieldLinkNest "ProtocolAtlas$Reader" 255 "ProtocolAtlas$Row" "some" "Z" "ProtocolAtlas", .fieldLinkNest "ProtocolAtlas$Atlas" 78 "ProtocolAtlas$Table" "agents" "I" "ProtocolAtlas", .fieldLinkNest "ProtocolAtlas$World" 33 "ProtocolAtlas$Table" "agents" "I" "ProtocolAtlas", .fieldLinkNest "ProtocolAtlas$Search" 60 "ProtocolAtlas$Table" "agents" "I" "ProtocolAtlas", .fieldLinkNest "ProtocolAtlas" 143 "ProtocolAtlas$Table" "agents" "I" "ProtocolAtlas", .fieldLinkNest "ProtocolAtlas$Reader" 155 "ProtocolAtlas$Table" "agents" "I" "ProtocolAtlas", .fieldLinkNest "ProtocolAtlas$World" 28 "ProtocolAtlas$Table" "count" "[I" "ProtocolAtlas", .fieldLinkNest "ProtocolAtlas$Sight" 54 "ProtocolAtlas$Table" "count" "[I" "ProtocolAtlas", .fieldLinkNest "ProtocolAtlas" 146 "ProtocolAtlas$Table" "count" "[I" "ProtocolAtlas", .fieldLinkNest "ProtocolAtlas$Reader" 164 "ProtocolAtlas$Table" "count" "[I" "ProtocolAtlas", .fieldLinkNest "ProtocolAtlas$Reader" 177 "ProtocolAtlas$Table" "loose" "Z" "ProtocolAtlas", .fieldLinkNest "ProtocolAtlas$Search" 73 "ProtocolAtlas$Table" "rows" "I" "ProtocolAtlas", .fieldLinkNest "ProtocolAtlas$Atlas" 118 "ProtocolAtlas$Table" "rows" "I" "ProtocolAtlas", .fieldLinkNest "ProtocolAtlas" 149 "ProtocolAtlas$Table" "rows" "I" "ProtocolAtlas", .fieldLinkNest "ProtocolAtlas$Study" 178 "ProtocolAtlas$Table" "rows" "I" "ProtocolAtlas", .fieldLinkNest "ProtocolAtlas$Reader" 198 "ProtocolAtlas$Table" "rows" "I" "ProtocolAtlas", .fieldLinkNest "ProtocolAtlas" 185 "ProtocolAtlas$Table" "row" "[LProtocolAtlas$Row;" "ProtocolAtlas", .fieldLinkNest "ProtocolAtlas$Joined" 137 "ProtocolAtlas$Table" "row" "[LProtocolAtlas$Row;" "ProtocolAtlas", .fieldLinkNest "ProtocolAtlas$Reader" 184 "ProtocolAtlas$Table" "nevers" "I" "ProtocolAtlas", .fieldLinkNest "ProtocolAtlas$Study" 77 "ProtocolAtlas$Table" "wanting" "I" "ProtocolAtlas", .fieldLinkNest "ProtocolAtlas$Reader" 191 "ProtocolAtlas$Table" "wanting" "I" "ProtocolAtlas", .fieldLinkNest "ProtocolAtlas$Study" 118 "ProtocolAtlas$Table" "wanted" "I" "ProtocolAtlas", .fieldLinkNest "ProtocolAtlas$Reader" 221 "ProtocolAtlas$Table" "wanted" "I" "ProtocolAtlas", .fieldLinkNest "ProtocolAtlas" 115 "ProtocolAtlas$Reader" "draft" "LProtocolAtlas$Table;" "ProtocolAtlas", .fieldLinkNest "ProtocolAtlas" 137 "ProtocolAtlas$Reader" "fault" "I" "ProtocolAtlas", .fieldLinkNest "ProtocolAtlas" 140 "ProtocolAtlas$Reader" "place" "I" "ProtocolAtlas", .fieldLinkNest "ProtocolAtlas$Study" 128 "ProtocolAtlas$Joined" "groups" "I" "ProtocolAtlas", .fieldLinkNest "ProtocolAtlas$Study" 108 "ProtocolAtlas$Joined" "group" "[I" "ProtocolAtlas", .fieldLinkNest "ProtocolAtlas$Study" 135 "ProtocolAtlas$Joined" "start" "[I" "ProtocolAtlas", .fieldLinkNest "ProtocolAtlas$Study" 138 "ProtocolAtlas$Joined" "member" "[I" "ProtocolAtlas", .fieldLinkNest "ProtocolAtlas" 170 "ProtocolAtlas$Study" "parts" "I" "ProtocolAtlas", .fieldLinkNest "ProtocolAtlas" 214 "ProtocolAtlas$Study" "partOf" "[I" "ProtocolAtlas", .fieldLinkNest "ProtocolAtlas" 249 "ProtocolAtlas$Study" "partSize" "[I" "ProtocolAtlas", .fieldLinkNest "ProtocolAtlas" 252 "ProtocolAtlas$Study" "partFirst" "[I" "ProtocolAtlas", .fieldLinkNest "ProtocolAtlas" 255 "ProtocolAtlas$Study" "partEnds" "[Z" "ProtocolAtlas", .fieldLinkNest "ProtocolAtlas" 220 "ProtocolAtlas$Study" "starves" "[Z" "ProtocolAtlas", .fieldLinkNest "ProtocolAtlas" 223 "ProtocolAtlas$Study" "leftOut" "[Z" "ProtocolAtlas", .methodLinkNest "ProtocolAtlas$Reader" 79 ⟨"ProtocolAtlas", "isBlank", "(I)Z"⟩ "ProtocolAtlas", .methodLinkNest "ProtocolAtlas$Reader" 87 ⟨"ProtocolAtlas", "isLetter", "(I)Z"⟩ "ProtocolAtlas", .methodLinkNest "ProtocolAtlas$Reader" 94 ⟨"ProtocolAtlas", "isDigit", "(I)Z"⟩ "ProtocolAtlas", .methodLinkNest "ProtocolAtlas$World" 34 ⟨"ProtocolAtlas", "codeOf", "(IIII)I"⟩ "ProtocolAtlas", .methodLinkNest "ProtocolAtlas$Row" 50 ⟨"ProtocolAtlas", "held", "(II)I"⟩ "ProtocolAtlas", .methodLinkNest "ProtocolAtlas$World" 56 ⟨"ProtocolAtlas", "held", "(II)I"⟩ "ProtocolAtlas", .methodLinkNest "ProtocolAtlas$Row" 61 ⟨"ProtocolAtlas", "codeOf", "(IIII)I"⟩ "ProtocolAtlas", .methodLinkNest "ProtocolAtlas$Study" 150 ⟨"ProtocolAtlas", "held", "(II)I"⟩ "ProtocolAtlas", .methodLinkNest "ProtocolAtlas$Row" 37 ⟨"ProtocolAtlas", "asNumber", "(Z)I"⟩ "ProtocolAtlas", .methodLinkNest "ProtocolAtlas$Atlas" 160 ⟨"ProtocolAtlas", "held", "(II)I"⟩ "ProtocolAtlas", .methodLinkNest "ProtocolAtlas$Bytes" 23 ⟨"ProtocolAtlas", "letterOf", "(II)I"⟩ "ProtocolAtlas", .methodLinkNest "ProtocolAtlas$Table" 120 ⟨"ProtocolAtlas", "codeOf", "(IIII)I"⟩ "ProtocolAtlas"]
theorem znw_in : ∀ w ∈ znw, w ∈ lw_tbl ∧ w.onTables = true := by decide +kernel
