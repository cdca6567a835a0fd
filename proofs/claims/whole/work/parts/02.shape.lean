/-! the classes, their fields in the order of the slots; cells; the world that data stand for -/
def R0 : String := "PollBooks$Books"
def T0 : u_T := fun k => match k with
  | 0 => ("PollBooks$Books", "names", "[J", true)
  | 1 => ("PollBooks$Books", "trades", "[I", true)
  | 2 => ("PollBooks$Books", "minutes", "[I", true)
  | 3 => ("PollBooks$Books", "sets", "[I", true)
  | 4 => ("PollBooks$Books", "counts", "[I", true)
  | 5 => ("PollBooks$Books", "costs", "[I", true)
  | 6 => ("PollBooks$Books", "least", "[I", true)
  | 7 => ("PollBooks$Books", "totals", "[I", true)
  | 8 => ("PollBooks$Books", "mates", "[I", true)
  | 9 => ("PollBooks$Books", "joinedSets", "[I", true)
  | 10 => ("PollBooks$Books", "settled", "Z", false)
  | _ => ("PollBooks$Books", "spellingRow", "[I", true)
def Y0 : Nat → FieldType := fun k => match k with
  | 0 => .array (.long)
  | 1 => .array (.int)
  | 2 => .array (.int)
  | 3 => .array (.int)
  | 4 => .array (.int)
  | 5 => .array (.int)
  | 6 => .array (.int)
  | 7 => .array (.int)
  | 8 => .array (.int)
  | 9 => .array (.int)
  | 10 => .boolean
  | _ => .array (.int)
def R1 : String := "PollBooks$Grounds"
def T1 : u_T := fun k => match k with
  | 0 => ("PollBooks$Grounds", "books", "LPollBooks$Books;", true)
  | 1 => ("PollBooks$Grounds", "poll", "LPollBooks$Poll;", true)
  | 2 => ("PollBooks$Grounds", "puttingOn", "[Z", true)
  | 3 => ("PollBooks$Grounds", "whiches", "[I", true)
  | 4 => ("PollBooks$Grounds", "rivalSets", "[I", true)
  | 5 => ("PollBooks$Grounds", "count", "I", false)
  | 6 => ("PollBooks$Grounds", "sums", "[I", true)
  | 7 => ("PollBooks$Grounds", "base", "[I", true)
  | 8 => ("PollBooks$Grounds", "fewest", "I", false)
  | 9 => ("PollBooks$Grounds", "rivals", "I", false)
  | _ => ("PollBooks$Grounds", "first", "I", false)
def Y1 : Nat → FieldType := fun k => match k with
  | 0 => .object "PollBooks$Books"
  | 1 => .object "PollBooks$Poll"
  | 2 => .array (.boolean)
  | 3 => .array (.int)
  | 4 => .array (.int)
  | 5 => .int
  | 6 => .array (.int)
  | 7 => .array (.int)
  | 8 => .int
  | 9 => .int
  | _ => .int
def R2 : String := "PollBooks$Jury"
def T2 : u_T := fun k => match k with
  | 0 => ("PollBooks$Jury", "leans", "[I", true)
  | 1 => ("PollBooks$Jury", "kins", "[I", true)
  | 2 => ("PollBooks$Jury", "count", "I", false)
  | 3 => ("PollBooks$Jury", "candidateKins", "[I", true)
  | 4 => ("PollBooks$Jury", "pool", "[I", true)
  | 5 => ("PollBooks$Jury", "drawn", "[Z", true)
  | 6 => ("PollBooks$Jury", "bench", "[I", true)
  | _ => ("PollBooks$Jury", "benchCount", "I", false)
def Y2 : Nat → FieldType := fun k => match k with
  | 0 => .array (.int)
  | 1 => .array (.int)
  | 2 => .int
  | 3 => .array (.int)
  | 4 => .array (.int)
  | 5 => .array (.boolean)
  | 6 => .array (.int)
  | _ => .int
def R3 : String := "PollBooks$Laws"
def T3 : u_T := fun k => match k with
  | 0 => ("PollBooks$Laws", "records", "LPollBooks$Records;", true)
  | 1 => ("PollBooks$Laws", "statutes", "[LPollBooks$Statute;", true)
  | 2 => ("PollBooks$Laws", "count", "I", false)
  | 3 => ("PollBooks$Laws", "owners", "[LPollBooks$Statute;", true)
  | 4 => ("PollBooks$Laws", "rulesThere", "[I", true)
  | 5 => ("PollBooks$Laws", "struckThere", "[Z", true)
  | 6 => ("PollBooks$Laws", "standingCount", "I", false)
  | 7 => ("PollBooks$Laws", "gatheredPlace", "I", false)
  | 8 => ("PollBooks$Laws", "gatheredDay", "I", false)
  | 9 => ("PollBooks$Laws", "variables", "[J", true)
  | _ => ("PollBooks$Laws", "stack", "[J", true)
def Y3 : Nat → FieldType := fun k => match k with
  | 0 => .object "PollBooks$Records"
  | 1 => .array (.object "PollBooks$Statute")
  | 2 => .int
  | 3 => .array (.object "PollBooks$Statute")
  | 4 => .array (.int)
  | 5 => .array (.boolean)
  | 6 => .int
  | 7 => .int
  | 8 => .int
  | 9 => .array (.long)
  | _ => .array (.long)
def R4 : String := "PollBooks$Parser"
def T4 : u_T := fun k => match k with
  | 0 => ("PollBooks$Parser", "tape", "[B", true)
  | 1 => ("PollBooks$Parser", "taped", "I", false)
  | 2 => ("PollBooks$Parser", "kinds", "[I", true)
  | 3 => ("PollBooks$Parser", "values", "[J", true)
  | 4 => ("PollBooks$Parser", "starts", "[I", true)
  | 5 => ("PollBooks$Parser", "at", "I", false)
  | 6 => ("PollBooks$Parser", "draft", "LPollBooks$Statute;", false)
  | 7 => ("PollBooks$Parser", "faultKind", "I", false)
  | _ => ("PollBooks$Parser", "faultPlace", "I", false)
def Y4 : Nat → FieldType := fun k => match k with
  | 0 => .array (.byte)
  | 1 => .int
  | 2 => .array (.int)
  | 3 => .array (.long)
  | 4 => .array (.int)
  | 5 => .int
  | 6 => .object "PollBooks$Statute"
  | 7 => .int
  | _ => .int
def R5 : String := "PollBooks$People"
def T5 : u_T := fun k => match k with
  | 0 => ("PollBooks$People", "names", "[J", true)
  | 1 => ("PollBooks$People", "trades", "[I", true)
  | 2 => ("PollBooks$People", "homes", "[I", true)
  | _ => ("PollBooks$People", "count", "I", false)
def Y5 : Nat → FieldType := fun k => match k with
  | 0 => .array (.long)
  | 1 => .array (.int)
  | 2 => .array (.int)
  | _ => .int
def R6 : String := "PollBooks$Poll"
def T6 : u_T := fun k => match k with
  | 0 => ("PollBooks$Poll", "people", "LPollBooks$People;", true)
  | 1 => ("PollBooks$Poll", "books", "LPollBooks$Books;", true)
  | 2 => ("PollBooks$Poll", "laws", "LPollBooks$Laws;", true)
  | 3 => ("PollBooks$Poll", "reach", "I", false)
  | 4 => ("PollBooks$Poll", "nearest", "[I", true)
  | 5 => ("PollBooks$Poll", "nearestFar", "[I", true)
  | 6 => ("PollBooks$Poll", "sures", "[Z", true)
  | 7 => ("PollBooks$Poll", "spellingRow", "[I", true)
  | 8 => ("PollBooks$Poll", "offerers", "[I", true)
  | 9 => ("PollBooks$Poll", "offerSets", "[I", true)
  | 10 => ("PollBooks$Poll", "offerMinutes", "[I", true)
  | 11 => ("PollBooks$Poll", "offerCount", "I", false)
  | _ => ("PollBooks$Poll", "sums", "[I", true)
def Y6 : Nat → FieldType := fun k => match k with
  | 0 => .object "PollBooks$People"
  | 1 => .object "PollBooks$Books"
  | 2 => .object "PollBooks$Laws"
  | 3 => .int
  | 4 => .array (.int)
  | 5 => .array (.int)
  | 6 => .array (.boolean)
  | 7 => .array (.int)
  | 8 => .array (.int)
  | 9 => .array (.int)
  | 10 => .array (.int)
  | 11 => .int
  | _ => .array (.int)
def R7 : String := "PollBooks$Records"
def T7 : u_T := fun k => match k with
  | 0 => ("PollBooks$Records", "people", "LPollBooks$People;", true)
  | 1 => ("PollBooks$Records", "asOf", "I", false)
  | 2 => ("PollBooks$Records", "lastKnown", "I", false)
  | 3 => ("PollBooks$Records", "holders", "[I", true)
  | 4 => ("PollBooks$Records", "plots", "[I", true)
  | 5 => ("PollBooks$Records", "worths", "[I", true)
  | 6 => ("PollBooks$Records", "firstDays", "[I", true)
  | 7 => ("PollBooks$Records", "lastDays", "[I", true)
  | 8 => ("PollBooks$Records", "holdingsKnown", "[I", true)
  | 9 => ("PollBooks$Records", "holdings", "I", false)
  | 10 => ("PollBooks$Records", "splitPlots", "[I", true)
  | 11 => ("PollBooks$Records", "splitDays", "[I", true)
  | 12 => ("PollBooks$Records", "splitsKnown", "[I", true)
  | 13 => ("PollBooks$Records", "splits", "I", false)
  | 14 => ("PollBooks$Records", "payees", "[I", true)
  | 15 => ("PollBooks$Records", "provedSums", "[I", true)
  | 16 => ("PollBooks$Records", "payDays", "[I", true)
  | 17 => ("PollBooks$Records", "paymentsKnown", "[I", true)
  | _ => ("PollBooks$Records", "payments", "I", false)
def Y7 : Nat → FieldType := fun k => match k with
  | 0 => .object "PollBooks$People"
  | 1 => .int
  | 2 => .int
  | 3 => .array (.int)
  | 4 => .array (.int)
  | 5 => .array (.int)
  | 6 => .array (.int)
  | 7 => .array (.int)
  | 8 => .array (.int)
  | 9 => .int
  | 10 => .array (.int)
  | 11 => .array (.int)
  | 12 => .array (.int)
  | 13 => .int
  | 14 => .array (.int)
  | 15 => .array (.int)
  | 16 => .array (.int)
  | 17 => .array (.int)
  | _ => .int
def R8 : String := "PollBooks$Roads"
def T8 : u_T := fun k => match k with
  | 0 => ("PollBooks$Roads", "miles", "[I", true)
  | 1 => ("PollBooks$Roads", "waiting", "[I", true)
  | 2 => ("PollBooks$Roads", "stops", "[I", true)
  | 3 => ("PollBooks$Roads", "loads", "[I", true)
  | 4 => ("PollBooks$Roads", "outward", "[I", true)
  | 5 => ("PollBooks$Roads", "tours", "[I", true)
  | 6 => ("PollBooks$Roads", "costs", "[I", true)
  | 7 => ("PollBooks$Roads", "stopCount", "I", false)
  | _ => ("PollBooks$Roads", "sent", "I", false)
def Y8 : Nat → FieldType := fun k => match k with
  | 0 => .array (.int)
  | 1 => .array (.int)
  | 2 => .array (.int)
  | 3 => .array (.int)
  | 4 => .array (.int)
  | 5 => .array (.int)
  | 6 => .array (.int)
  | 7 => .int
  | _ => .int
def R9 : String := "PollBooks$Statute"
def T9 : u_T := fun k => match k with
  | 0 => ("PollBooks$Statute", "day", "I", false)
  | 1 => ("PollBooks$Statute", "places", "I", false)
  | 2 => ("PollBooks$Statute", "count", "I", false)
  | 3 => ("PollBooks$Statute", "codeLength", "I", false)
  | 4 => ("PollBooks$Statute", "labels", "[J", true)
  | 5 => ("PollBooks$Statute", "targets", "[J", true)
  | 6 => ("PollBooks$Statute", "does", "[I", true)
  | 7 => ("PollBooks$Statute", "firsts", "[I", true)
  | 8 => ("PollBooks$Statute", "seconds", "[I", true)
  | _ => ("PollBooks$Statute", "code", "[I", true)
def Y9 : Nat → FieldType := fun k => match k with
  | 0 => .int
  | 1 => .int
  | 2 => .int
  | 3 => .int
  | 4 => .array (.long)
  | 5 => .array (.long)
  | 6 => .array (.int)
  | 7 => .array (.int)
  | 8 => .array (.int)
  | _ => .array (.int)
def R10 : String := "PollBooks$Trays"
def T10 : u_T := fun k => match k with
  | 0 => ("PollBooks$Trays", "numbers", "[J", true)
  | 1 => ("PollBooks$Trays", "sorts", "[I", true)
  | _ => ("PollBooks$Trays", "sizes", "[I", true)
def Y10 : Nat → FieldType := fun k => match k with
  | 0 => .array (.long)
  | 1 => .array (.int)
  | _ => .array (.int)
def R11 : String := "PollBooks"
def T11 : u_T := fun k => match k with
  | 0 => ("PollBooks", "status", "I", false)
  | 1 => ("PollBooks", "trays", "LPollBooks$Trays;", true)
  | 2 => ("PollBooks", "people", "LPollBooks$People;", true)
  | 3 => ("PollBooks", "records", "LPollBooks$Records;", true)
  | 4 => ("PollBooks", "parser", "LPollBooks$Parser;", true)
  | 5 => ("PollBooks", "laws", "LPollBooks$Laws;", true)
  | 6 => ("PollBooks", "books", "LPollBooks$Books;", true)
  | 7 => ("PollBooks", "poll", "LPollBooks$Poll;", true)
  | 8 => ("PollBooks", "grounds", "LPollBooks$Grounds;", true)
  | 9 => ("PollBooks", "jury", "LPollBooks$Jury;", true)
  | 10 => ("PollBooks", "roads", "LPollBooks$Roads;", true)
  | 11 => ("PollBooks", "spellingRow", "[I", true)
  | _ => ("PollBooks", "facts", "[J", true)
def Y11 : Nat → FieldType := fun k => match k with
  | 0 => .int
  | 1 => .object "PollBooks$Trays"
  | 2 => .object "PollBooks$People"
  | 3 => .object "PollBooks$Records"
  | 4 => .object "PollBooks$Parser"
  | 5 => .object "PollBooks$Laws"
  | 6 => .object "PollBooks$Books"
  | 7 => .object "PollBooks$Poll"
  | 8 => .object "PollBooks$Grounds"
  | 9 => .object "PollBooks$Jury"
  | 10 => .object "PollBooks$Roads"
  | 11 => .array (.int)
  | _ => .array (.long)
def R12 : String := "PollBooksModel"
def T12 : u_T := fun k => match k with
  | 0 => ("PollBooksModel", "status", "I", false)
  | 1 => ("PollBooksModel", "sort", "[I", true)
  | 2 => ("PollBooksModel", "many", "[I", true)
  | 3 => ("PollBooksModel", "trays", "[J", true)
  | 4 => ("PollBooksModel", "letters", "[I", true)
  | 5 => ("PollBooksModel", "letters2", "[I", true)
  | 6 => ("PollBooksModel", "row", "[I", true)
  | 7 => ("PollBooksModel", "persons", "I", false)
  | 8 => ("PollBooksModel", "holdings", "I", false)
  | 9 => ("PollBooksModel", "splits", "I", false)
  | 10 => ("PollBooksModel", "payments", "I", false)
  | 11 => ("PollBooksModel", "latest", "I", false)
  | 12 => ("PollBooksModel", "asof", "I", false)
  | 13 => ("PollBooksModel", "pName", "[J", true)
  | 14 => ("PollBooksModel", "pTrade", "[I", true)
  | 15 => ("PollBooksModel", "pHome", "[I", true)
  | 16 => ("PollBooksModel", "hPerson", "[I", true)
  | 17 => ("PollBooksModel", "hPlot", "[I", true)
  | 18 => ("PollBooksModel", "hWorth", "[I", true)
  | 19 => ("PollBooksModel", "hFrom", "[I", true)
  | 20 => ("PollBooksModel", "hTo", "[I", true)
  | 21 => ("PollBooksModel", "hKnown", "[I", true)
  | 22 => ("PollBooksModel", "sPlot", "[I", true)
  | 23 => ("PollBooksModel", "sDay", "[I", true)
  | 24 => ("PollBooksModel", "sKnown", "[I", true)
  | 25 => ("PollBooksModel", "yPerson", "[I", true)
  | 26 => ("PollBooksModel", "yWorth", "[I", true)
  | 27 => ("PollBooksModel", "yDay", "[I", true)
  | 28 => ("PollBooksModel", "yKnown", "[I", true)
  | 29 => ("PollBooksModel", "isProved", "[Z", true)
  | 30 => ("PollBooksModel", "tape", "[B", true)
  | 31 => ("PollBooksModel", "text", "[B", true)
  | 32 => ("PollBooksModel", "taped", "I", false)
  | 33 => ("PollBooksModel", "size", "I", false)
  | 34 => ("PollBooksModel", "token", "I", false)
  | 35 => ("PollBooksModel", "from", "I", false)
  | 36 => ("PollBooksModel", "end", "I", false)
  | 37 => ("PollBooksModel", "value", "I", false)
  | 38 => ("PollBooksModel", "faultKind", "I", false)
  | 39 => ("PollBooksModel", "faultPlace", "I", false)
  | 40 => ("PollBooksModel", "faults", "I", false)
  | 41 => ("PollBooksModel", "texts", "I", false)
  | 42 => ("PollBooksModel", "signs", "I", false)
  | 43 => ("PollBooksModel", "ones", "I", false)
  | 44 => ("PollBooksModel", "tDay", "[I", true)
  | 45 => ("PollBooksModel", "tPlaces", "[I", true)
  | 46 => ("PollBooksModel", "tRules", "[I", true)
  | 47 => ("PollBooksModel", "does", "[I", true)
  | 48 => ("PollBooksModel", "first", "[I", true)
  | 49 => ("PollBooksModel", "second", "[I", true)
  | 50 => ("PollBooksModel", "testFrom", "[I", true)
  | 51 => ("PollBooksModel", "testTo", "[I", true)
  | 52 => ("PollBooksModel", "unlessTo", "[I", true)
  | 53 => ("PollBooksModel", "label", "[J", true)
  | 54 => ("PollBooksModel", "strikes", "[J", true)
  | 55 => ("PollBooksModel", "leftFrom", "[I", true)
  | 56 => ("PollBooksModel", "leftTo", "[I", true)
  | 57 => ("PollBooksModel", "rightTo", "[I", true)
  | 58 => ("PollBooksModel", "compares", "[I", true)
  | 59 => ("PollBooksModel", "isNot", "[Z", true)
  | 60 => ("PollBooksModel", "begins", "[Z", true)
  | 61 => ("PollBooksModel", "sign", "[I", true)
  | 62 => ("PollBooksModel", "signOf", "[I", true)
  | 63 => ("PollBooksModel", "waitsSum", "[I", true)
  | 64 => ("PollBooksModel", "waitsItem", "[I", true)
  | 65 => ("PollBooksModel", "standing", "[I", true)
  | 66 => ("PollBooksModel", "order", "[I", true)
  | 67 => ("PollBooksModel", "isStruck", "[Z", true)
  | 68 => ("PollBooksModel", "standMany", "I", false)
  | 69 => ("PollBooksModel", "variables", "[J", true)
  | 70 => ("PollBooksModel", "stack", "[J", true)
  | 71 => ("PollBooksModel", "whyRule", "I", false)
  | 72 => ("PollBooksModel", "bookMany", "[I", true)
  | 73 => ("PollBooksModel", "eTrade", "[I", true)
  | 74 => ("PollBooksModel", "eMinute", "[I", true)
  | 75 => ("PollBooksModel", "eSet", "[I", true)
  | 76 => ("PollBooksModel", "mates", "[I", true)
  | 77 => ("PollBooksModel", "eName", "[J", true)
  | 78 => ("PollBooksModel", "least", "[I", true)
  | 79 => ("PollBooksModel", "reach", "I", false)
  | 80 => ("PollBooksModel", "isSureWho", "Z", false)
  | 81 => ("PollBooksModel", "oPerson", "[I", true)
  | 82 => ("PollBooksModel", "oSet", "[I", true)
  | 83 => ("PollBooksModel", "oMinute", "[I", true)
  | 84 => ("PollBooksModel", "entryStands", "[I", true)
  | 85 => ("PollBooksModel", "offerStands", "[I", true)
  | 86 => ("PollBooksModel", "votes", "[I", true)
  | 87 => ("PollBooksModel", "offers", "I", false)
  | 88 => ("PollBooksModel", "gWhich", "[I", true)
  | 89 => ("PollBooksModel", "gAgainst", "[I", true)
  | 90 => ("PollBooksModel", "written", "[I", true)
  | 91 => ("PollBooksModel", "isOn", "[Z", true)
  | 92 => ("PollBooksModel", "grounds", "I", false)
  | 93 => ("PollBooksModel", "lean", "[I", true)
  | 94 => ("PollBooksModel", "kinOf", "[I", true)
  | 95 => ("PollBooksModel", "candidateKin", "[I", true)
  | 96 => ("PollBooksModel", "pool", "[I", true)
  | 97 => ("PollBooksModel", "drawn", "[I", true)
  | 98 => ("PollBooksModel", "benched", "[I", true)
  | 99 => ("PollBooksModel", "members", "I", false)
  | 100 => ("PollBooksModel", "benchMany", "I", false)
  | 101 => ("PollBooksModel", "hasBench", "Z", false)
  | 102 => ("PollBooksModel", "ways", "[I", true)
  | 103 => ("PollBooksModel", "rest", "[I", true)
  | 104 => ("PollBooksModel", "wayTo", "[I", true)
  | 105 => ("PollBooksModel", "round", "[I", true)
  | 106 => ("PollBooksModel", "miles", "[I", true)
  | 107 => ("PollBooksModel", "coachesOf", "[I", true)
  | _ => ("PollBooksModel", "coachMany", "I", false)
def Y12 : Nat → FieldType := fun k => match k with
  | 0 => .int
  | 1 => .array (.int)
  | 2 => .array (.int)
  | 3 => .array (.long)
  | 4 => .array (.int)
  | 5 => .array (.int)
  | 6 => .array (.int)
  | 7 => .int
  | 8 => .int
  | 9 => .int
  | 10 => .int
  | 11 => .int
  | 12 => .int
  | 13 => .array (.long)
  | 14 => .array (.int)
  | 15 => .array (.int)
  | 16 => .array (.int)
  | 17 => .array (.int)
  | 18 => .array (.int)
  | 19 => .array (.int)
  | 20 => .array (.int)
  | 21 => .array (.int)
  | 22 => .array (.int)
  | 23 => .array (.int)
  | 24 => .array (.int)
  | 25 => .array (.int)
  | 26 => .array (.int)
  | 27 => .array (.int)
  | 28 => .array (.int)
  | 29 => .array (.boolean)
  | 30 => .array (.byte)
  | 31 => .array (.byte)
  | 32 => .int
  | 33 => .int
  | 34 => .int
  | 35 => .int
  | 36 => .int
  | 37 => .int
  | 38 => .int
  | 39 => .int
  | 40 => .int
  | 41 => .int
  | 42 => .int
  | 43 => .int
  | 44 => .array (.int)
  | 45 => .array (.int)
  | 46 => .array (.int)
  | 47 => .array (.int)
  | 48 => .array (.int)
  | 49 => .array (.int)
  | 50 => .array (.int)
  | 51 => .array (.int)
  | 52 => .array (.int)
  | 53 => .array (.long)
  | 54 => .array (.long)
  | 55 => .array (.int)
  | 56 => .array (.int)
  | 57 => .array (.int)
  | 58 => .array (.int)
  | 59 => .array (.boolean)
  | 60 => .array (.boolean)
  | 61 => .array (.int)
  | 62 => .array (.int)
  | 63 => .array (.int)
  | 64 => .array (.int)
  | 65 => .array (.int)
  | 66 => .array (.int)
  | 67 => .array (.boolean)
  | 68 => .int
  | 69 => .array (.long)
  | 70 => .array (.long)
  | 71 => .int
  | 72 => .array (.int)
  | 73 => .array (.int)
  | 74 => .array (.int)
  | 75 => .array (.int)
  | 76 => .array (.int)
  | 77 => .array (.long)
  | 78 => .array (.int)
  | 79 => .int
  | 80 => .boolean
  | 81 => .array (.int)
  | 82 => .array (.int)
  | 83 => .array (.int)
  | 84 => .array (.int)
  | 85 => .array (.int)
  | 86 => .array (.int)
  | 87 => .int
  | 88 => .array (.int)
  | 89 => .array (.int)
  | 90 => .array (.int)
  | 91 => .array (.boolean)
  | 92 => .int
  | 93 => .array (.int)
  | 94 => .array (.int)
  | 95 => .array (.int)
  | 96 => .array (.int)
  | 97 => .array (.int)
  | 98 => .array (.int)
  | 99 => .int
  | 100 => .int
  | 101 => .boolean
  | 102 => .array (.int)
  | 103 => .array (.int)
  | 104 => .array (.int)
  | 105 => .array (.int)
  | 106 => .array (.int)
  | 107 => .array (.int)
  | _ => .int
def classes : List vw_C := [(R0, T0, 12), (R1, T1, 11), (R2, T2, 8), (R3, T3, 11), (R4, T4, 9), (R5, T5, 4), (R6, T6, 13), (R7, T7, 19), (R8, T8, 9), (R9, T9, 10), (R10, T10, 3), (R11, T11, 13), (R12, T12, 109)]
def nest (w : Cond) : Bool := match w with
  | .fieldLinkNest .. => true
  | .methodLinkNest .. => true
  | _ => false
def okw (w : Cond) : Bool := goodWord w || nest w
def lw_ok : List Cond := lw_tbl.filter okw
theorem mem_ok {ws : List Cond} (ps : List Nat) (hp : ws = ps.filterMap (fun i => lw_tbl[i]?)) (h : ws.all okw = true) : ∀ w ∈ ws, w ∈ lw_ok := by
  intro w hw
  have h1 := List.all_eq_true.mp h w hw
  rw [hp] at hw
  obtain ⟨i, -, hi⟩ := List.mem_filterMap.mp hw
  exact List.mem_filter.mpr ⟨List.mem_of_getElem? hi, h1⟩
def ClsOk (i : Nat) (C : String) (T : u_T) (N : Nat) (ty : Nat → FieldType) : Prop := (∀ w ∈ u_ws C T N, w ∈ lw_ok) ∧ (∀ k, k < N → parseFieldDescriptor (T k).2.2.1 = some (ty k)) ∧ (∀ a, a < N → ∀ b, b < N → a ≠ b → (T a).2.1 ≠ (T b).2.1) ∧ classes[i]? = some (C, T, N)
set_option maxRecDepth 100000 in
theorem cl0 : ClsOk 0 R0 T0 12 Y0 := ⟨mem_ok [401, 403, 405, 407, 409, 411, 413, 415, 417, 419, 421, 423] (by decide +kernel) (by decide +kernel), by decide +kernel, by decide +kernel, rfl⟩
set_option maxRecDepth 100000 in
theorem cl1 : ClsOk 1 R1 T1 11 Y1 := ⟨mem_ok [491, 493, 495, 497, 499, 501, 503, 505, 507, 509, 511] (by decide +kernel) (by decide +kernel), by decide +kernel, by decide +kernel, rfl⟩
set_option maxRecDepth 100000 in
theorem cl2 : ClsOk 2 R2 T2 8 Y2 := ⟨mem_ok [528, 530, 532, 534, 536, 538, 540, 542] (by decide +kernel) (by decide +kernel), by decide +kernel, by decide +kernel, rfl⟩
set_option maxRecDepth 100000 in
theorem cl3 : ClsOk 3 R3 T3 11 Y3 := ⟨mem_ok [355, 357, 359, 361, 363, 365, 367, 369, 371, 373, 375] (by decide +kernel) (by decide +kernel), by decide +kernel, by decide +kernel, rfl⟩
set_option maxRecDepth 100000 in
theorem cl4 : ClsOk 4 R4 T4 9 Y4 := ⟨mem_ok [317, 319, 321, 323, 325, 327, 329, 331, 333] (by decide +kernel) (by decide +kernel), by decide +kernel, by decide +kernel, rfl⟩
set_option maxRecDepth 100000 in
theorem cl5 : ClsOk 5 R5 T5 4 Y5 := ⟨mem_ok [179, 181, 183, 185] (by decide +kernel) (by decide +kernel), by decide +kernel, by decide +kernel, rfl⟩
set_option maxRecDepth 100000 in
theorem cl6 : ClsOk 6 R6 T6 13 Y6 := ⟨mem_ok [447, 449, 451, 453, 455, 457, 459, 461, 463, 465, 467, 469, 471] (by decide +kernel) (by decide +kernel), by decide +kernel, by decide +kernel, rfl⟩
set_option maxRecDepth 100000 in
theorem cl7 : ClsOk 7 R7 T7 19 Y7 := ⟨mem_ok [213, 215, 217, 219, 221, 223, 225, 227, 229, 231, 233, 235, 237, 239, 241, 243, 245, 247, 249] (by decide +kernel) (by decide +kernel), by decide +kernel, by decide +kernel, rfl⟩
set_option maxRecDepth 100000 in
theorem cl8 : ClsOk 8 R8 T8 9 Y8 := ⟨mem_ok [561, 563, 565, 567, 569, 571, 573, 575, 577] (by decide +kernel) (by decide +kernel), by decide +kernel, by decide +kernel, rfl⟩
set_option maxRecDepth 100000 in
theorem cl9 : ClsOk 9 R9 T9 10 Y9 := ⟨mem_ok [286, 288, 290, 292, 294, 296, 298, 300, 302, 304] (by decide +kernel) (by decide +kernel), by decide +kernel, by decide +kernel, rfl⟩
set_option maxRecDepth 100000 in
theorem cl10 : ClsOk 10 R10 T10 3 Y10 := ⟨mem_ok [155, 157, 159] (by decide +kernel) (by decide +kernel), by decide +kernel, by decide +kernel, rfl⟩
set_option maxRecDepth 100000 in
theorem cl11 : ClsOk 11 R11 T11 13 Y11 := ⟨mem_ok [593, 595, 597, 599, 601, 603, 605, 607, 609, 611, 613, 615, 617] (by decide +kernel) (by decide +kernel), by decide +kernel, by decide +kernel, rfl⟩
set_option maxRecDepth 100000 in
theorem cl12 : ClsOk 12 R12 T12 109 Y12 := ⟨mem_ok [1624, 1626, 1628, 1630, 1632, 1634, 1636, 1638, 1640, 1642, 1644, 1646, 1648, 1650, 1652, 1654, 1656, 1658, 1660, 1662, 1664, 1666, 1668, 1670, 1672, 1674, 1676, 1678, 1680, 1682, 1684, 1686, 1688, 1690, 1692, 1694, 1696, 1698, 1700, 1702, 1704, 1706, 1708, 1710, 1712, 1714, 1716, 1718, 1720, 1722, 1724, 1726, 1728, 1730, 1732, 1734, 1736, 1738, 1740, 1742, 1744, 1746, 1748, 1750, 1752, 1754, 1756, 1758, 1760, 1762, 1764, 1766, 1768, 1770, 1772, 1774, 1776, 1778, 1780, 1782, 1784, 1786, 1788, 1790, 1792, 1794, 1796, 1798, 1800, 1802, 1804, 1806, 1808, 1810, 1812, 1814, 1816, 1818, 1820, 1822, 1824, 1826, 1828, 1830, 1832, 1834, 1836, 1838, 1840] (by decide +kernel) (by decide +kernel), by decide +kernel, by decide +kernel, rfl⟩
/-- tag of a field: 0 int, 1 long, 2 boolean, 3 a reference that never changes, 4 another reference -/
def ft (c j : Nat) : Nat := match c with
  | 0 => ([3, 3, 3, 3, 3, 3, 3, 3, 3, 3, 2, 3] : List Nat).getD j 0
  | 1 => ([3, 3, 3, 3, 3, 0, 3, 3, 0, 0, 0] : List Nat).getD j 0
  | 2 => ([3, 3, 0, 3, 3, 3, 3, 0] : List Nat).getD j 0
  | 3 => ([3, 3, 0, 3, 3, 3, 0, 0, 0, 3, 3] : List Nat).getD j 0
  | 4 => ([3, 0, 3, 3, 3, 0, 4, 0, 0] : List Nat).getD j 0
  | 5 => ([3, 3, 3, 0] : List Nat).getD j 0
  | 6 => ([3, 3, 3, 0, 3, 3, 3, 3, 3, 3, 3, 0, 3] : List Nat).getD j 0
  | 7 => ([3, 0, 0, 3, 3, 3, 3, 3, 3, 0, 3, 3, 3, 0, 3, 3, 3, 3, 0] : List Nat).getD j 0
  | 8 => ([3, 3, 3, 3, 3, 3, 3, 0, 0] : List Nat).getD j 0
  | 9 => ([0, 0, 0, 0, 3, 3, 3, 3, 3, 3] : List Nat).getD j 0
  | 10 => ([3, 3, 3] : List Nat).getD j 0
  | 11 => ([0, 3, 3, 3, 3, 3, 3, 3, 3, 3, 3, 3, 3] : List Nat).getD j 0
  | 12 => ([0, 3, 3, 3, 3, 3, 3, 0, 0, 0, 0, 0, 0, 3, 3, 3, 3, 3, 3, 3, 3, 3, 3, 3, 3, 3, 3, 3, 3, 3, 3, 3, 0, 0, 0, 0, 0, 0, 0, 0, 0, 0, 0, 0, 3, 3, 3, 3, 3, 3, 3, 3, 3, 3, 3, 3, 3, 3, 3, 3, 3, 3, 3, 3, 3, 3, 3, 3, 0, 3, 3, 0, 3, 3, 3, 3, 3, 3, 3, 0, 2, 3, 3, 3, 3, 3, 3, 0, 3, 3, 3, 3, 0, 3, 3, 3, 3, 3, 3, 0, 0, 2, 3, 3, 3, 3, 3, 3, 0] : List Nat).getD j 0
  | _ => 0
/-- where a field of tag 3 of the object k leads: an array behind it, or another object -/
def rf (c k j : Nat) : Nat := match c with
  | 0 => let q := ([(1, 1), (1, 2), (1, 3), (1, 4), (1, 5), (1, 6), (1, 7), (1, 8), (1, 9), (1, 10), (0, 0), (1, 11)] : List (Nat × Nat)).getD j (0, 0); if q.1 = 1 then k + q.2 else q.2
  | 1 => let q := ([(0, 37), (0, 49), (1, 1), (1, 2), (1, 3), (0, 0), (1, 4), (1, 5), (0, 0), (0, 0), (0, 0)] : List (Nat × Nat)).getD j (0, 0); if q.1 = 1 then k + q.2 else q.2
  | 2 => let q := ([(1, 1), (1, 2), (0, 0), (1, 3), (1, 4), (1, 5), (1, 6), (0, 0)] : List (Nat × Nat)).getD j (0, 0); if q.1 = 1 then k + q.2 else q.2
  | 3 => let q := ([(0, 11), (1, 1), (0, 0), (1, 2), (1, 3), (1, 4), (0, 0), (0, 0), (0, 0), (1, 5), (1, 6)] : List (Nat × Nat)).getD j (0, 0); if q.1 = 1 then k + q.2 else q.2
  | 4 => let q := ([(1, 1), (0, 0), (1, 2), (1, 3), (1, 4), (0, 0), (0, 0), (0, 0), (0, 0)] : List (Nat × Nat)).getD j (0, 0); if q.1 = 1 then k + q.2 else q.2
  | 5 => let q := ([(1, 1), (1, 2), (1, 3), (0, 0)] : List (Nat × Nat)).getD j (0, 0); if q.1 = 1 then k + q.2 else q.2
  | 6 => let q := ([(0, 7), (0, 37), (0, 30), (0, 0), (1, 1), (1, 2), (1, 3), (1, 4), (1, 5), (1, 6), (1, 7), (0, 0), (1, 8)] : List (Nat × Nat)).getD j (0, 0); if q.1 = 1 then k + q.2 else q.2
  | 7 => let q := ([(0, 7), (0, 0), (0, 0), (1, 1), (1, 2), (1, 3), (1, 4), (1, 5), (1, 6), (0, 0), (1, 7), (1, 8), (1, 9), (0, 0), (1, 10), (1, 11), (1, 12), (1, 13), (0, 0)] : List (Nat × Nat)).getD j (0, 0); if q.1 = 1 then k + q.2 else q.2
  | 8 => let q := ([(1, 1), (1, 2), (1, 3), (1, 4), (1, 5), (1, 6), (1, 7), (0, 0), (0, 0)] : List (Nat × Nat)).getD j (0, 0); if q.1 = 1 then k + q.2 else q.2
  | 9 => let q := ([(0, 0), (0, 0), (0, 0), (0, 0), (1, 1), (1, 2), (1, 3), (1, 4), (1, 5), (1, 6)] : List (Nat × Nat)).getD j (0, 0); if q.1 = 1 then k + q.2 else q.2
  | 10 => let q := ([(1, 1), (1, 2), (1, 3)] : List (Nat × Nat)).getD j (0, 0); if q.1 = 1 then k + q.2 else q.2
  | 11 => let q := ([(0, 0), (0, 3), (0, 7), (0, 11), (0, 25), (0, 30), (0, 37), (0, 49), (0, 58), (0, 64), (0, 71), (1, 1), (1, 2)] : List (Nat × Nat)).getD j (0, 0); if q.1 = 1 then k + q.2 else q.2
  | 12 => let q := ([(0, 0), (1, 1), (1, 2), (1, 3), (1, 4), (1, 5), (1, 6), (0, 0), (0, 0), (0, 0), (0, 0), (0, 0), (0, 0), (1, 7), (1, 8), (1, 9), (1, 10), (1, 11), (1, 12), (1, 13), (1, 14), (1, 15), (1, 16), (1, 17), (1, 18), (1, 19), (1, 20), (1, 21), (1, 22), (1, 23), (1, 24), (1, 25), (0, 0), (0, 0), (0, 0), (0, 0), (0, 0), (0, 0), (0, 0), (0, 0), (0, 0), (0, 0), (0, 0), (0, 0), (1, 26), (1, 27), (1, 28), (1, 29), (1, 30), (1, 31), (1, 32), (1, 33), (1, 34), (1, 35), (1, 36), (1, 37), (1, 38), (1, 39), (1, 40), (1, 41), (1, 42), (1, 43), (1, 44), (1, 45), (1, 46), (1, 47), (1, 48), (1, 49), (0, 0), (1, 50), (1, 51), (0, 0), (1, 52), (1, 53), (1, 54), (1, 55), (1, 56), (1, 57), (1, 58), (0, 0), (0, 0), (1, 59), (1, 60), (1, 61), (1, 62), (1, 63), (1, 64), (0, 0), (1, 65), (1, 66), (1, 67), (1, 68), (0, 0), (1, 69), (1, 70), (1, 71), (1, 72), (1, 73), (1, 74), (0, 0), (0, 0), (0, 0), (1, 75), (1, 76), (1, 77), (1, 78), (1, 79), (1, 80), (0, 0)] : List (Nat × Nat)).getD j (0, 0); if q.1 = 1 then k + q.2 else q.2
  | _ => 0
def nf (c : Nat) : Nat := ([12, 11, 8, 11, 9, 4, 13, 19, 9, 10, 3, 13, 109] : List Nat).getD c 0
def cdA0 : List (Nat × Nat) := [(11, 13), (20, 9), (21, 7), (10, 3), (21, 240), (20, 4), (20, 4), (5, 4), (21, 40), (20, 40), (20, 40), (7, 19), (20, 80), (20, 80), (20, 80), (20, 80), (20, 80), (20, 80), (20, 30), (20, 30), (20, 30), (20, 60), (20, 60), (20, 60), (20, 60), (4, 9), (22, 600), (20, 601), (21, 601), (20, 601), (3, 11), (24, 5), (24, 100), (20, 100), (23, 100), (21, 9), (21, 32), (0, 12), (21, 90), (20, 90), (20, 90), (20, 90), (20, 3), (20, 1800), (20, 961), (20, 3), (20, 90), (20, 30), (20, 9), (6, 13), (20, 30), (20, 30), (23, 30), (20, 9), (20, 20), (20, 20), (20, 20), (20, 4), (1, 11), (23, 10), (20, 10), (20, 10), (20, 4), (20, 4), (2, 8), (20, 30), (20, 30), (20, 4), (20, 30), (23, 30), (20, 30), (8, 9), (20, 49), (20, 7), (20, 6), (20, 64), (20, 384), (20, 64), (20, 64)]
def cdA1 : List (Nat × Nat) := [(9, 10), (21, 20), (21, 20), (20, 20), (20, 20), (20, 20), (20, 600)]
def cdB0 : List (Nat × Nat) := [(12, 109), (20, 4), (20, 4), (21, 240), (20, 8), (20, 8), (20, 9), (21, 40), (20, 40), (20, 40), (20, 80), (20, 80), (20, 80), (20, 80), (20, 80), (20, 80), (20, 30), (20, 30), (20, 30), (20, 60), (20, 60), (20, 60), (20, 60), (23, 60), (22, 600), (22, 600), (20, 6), (20, 6), (20, 6), (20, 120), (20, 120), (20, 120), (20, 120), (20, 120), (20, 120), (21, 120), (21, 120), (20, 1500), (20, 1500), (20, 1500), (20, 1500), (23, 1500), (23, 1500), (20, 4000), (20, 4000), (20, 8), (20, 8), (20, 100), (20, 5), (23, 100), (21, 9), (21, 700), (20, 3), (20, 90), (20, 90), (20, 90), (20, 60), (21, 90), (20, 961), (20, 20), (20, 20), (20, 20), (20, 30), (20, 20), (20, 4), (20, 10), (20, 10), (20, 4), (23, 10), (20, 30), (20, 30), (20, 4), (20, 30), (20, 30), (20, 30), (20, 49), (20, 7), (20, 896), (20, 128), (20, 128), (20, 128)]
def GH : Nat := 1000000
/-- what a cell is: world 0 is the class (its TEXTS from 79 on, 7 cells each), world 1 the reference -/
def cd (wd k : Nat) : Nat × Nat := if wd = 0 then (if k < 79 then cdA0.getD k (99, 0) else cdA1.getD ((k - 79) % 7) (99, 0)) else if wd = 1 then cdB0.getD k (99, 0) else if k = 0 then (20, ([0, 0, 4, 49] : List Nat).getD wd 0) else (99, 0)
def nOf (wd : Nat) (d : Dt) : Nat := if wd = 0 then 79 + 7 * (d GH 0).toNat else if wd = 1 then 81 else 1
theorem cd_A0 : cd 0 0 = (11, 13) := rfl
theorem cd_A1 : cd 0 1 = (20, 9) := rfl
theorem cd_A2 : cd 0 2 = (21, 7) := rfl
theorem cd_A3 : cd 0 3 = (10, 3) := rfl
theorem cd_A4 : cd 0 4 = (21, 240) := rfl
theorem cd_A5 : cd 0 5 = (20, 4) := rfl
theorem cd_A6 : cd 0 6 = (20, 4) := rfl
theorem cd_A7 : cd 0 7 = (5, 4) := rfl
theorem cd_A8 : cd 0 8 = (21, 40) := rfl
theorem cd_A9 : cd 0 9 = (20, 40) := rfl
theorem cd_A10 : cd 0 10 = (20, 40) := rfl
theorem cd_A11 : cd 0 11 = (7, 19) := rfl
theorem cd_A12 : cd 0 12 = (20, 80) := rfl
theorem cd_A13 : cd 0 13 = (20, 80) := rfl
theorem cd_A14 : cd 0 14 = (20, 80) := rfl
theorem cd_A15 : cd 0 15 = (20, 80) := rfl
theorem cd_A16 : cd 0 16 = (20, 80) := rfl
theorem cd_A17 : cd 0 17 = (20, 80) := rfl
theorem cd_A18 : cd 0 18 = (20, 30) := rfl
theorem cd_A19 : cd 0 19 = (20, 30) := rfl
theorem cd_A20 : cd 0 20 = (20, 30) := rfl
theorem cd_A21 : cd 0 21 = (20, 60) := rfl
theorem cd_A22 : cd 0 22 = (20, 60) := rfl
theorem cd_A23 : cd 0 23 = (20, 60) := rfl
theorem cd_A24 : cd 0 24 = (20, 60) := rfl
theorem cd_A25 : cd 0 25 = (4, 9) := rfl
theorem cd_A26 : cd 0 26 = (22, 600) := rfl
theorem cd_A27 : cd 0 27 = (20, 601) := rfl
theorem cd_A28 : cd 0 28 = (21, 601) := rfl
theorem cd_A29 : cd 0 29 = (20, 601) := rfl
theorem cd_A30 : cd 0 30 = (3, 11) := rfl
theorem cd_A31 : cd 0 31 = (24, 5) := rfl
theorem cd_A32 : cd 0 32 = (24, 100) := rfl
theorem cd_A33 : cd 0 33 = (20, 100) := rfl
theorem cd_A34 : cd 0 34 = (23, 100) := rfl
theorem cd_A35 : cd 0 35 = (21, 9) := rfl
theorem cd_A36 : cd 0 36 = (21, 32) := rfl
theorem cd_A37 : cd 0 37 = (0, 12) := rfl
theorem cd_A38 : cd 0 38 = (21, 90) := rfl
theorem cd_A39 : cd 0 39 = (20, 90) := rfl
theorem cd_A40 : cd 0 40 = (20, 90) := rfl
theorem cd_A41 : cd 0 41 = (20, 90) := rfl
theorem cd_A42 : cd 0 42 = (20, 3) := rfl
theorem cd_A43 : cd 0 43 = (20, 1800) := rfl
theorem cd_A44 : cd 0 44 = (20, 961) := rfl
theorem cd_A45 : cd 0 45 = (20, 3) := rfl
theorem cd_A46 : cd 0 46 = (20, 90) := rfl
theorem cd_A47 : cd 0 47 = (20, 30) := rfl
theorem cd_A48 : cd 0 48 = (20, 9) := rfl
theorem cd_A49 : cd 0 49 = (6, 13) := rfl
theorem cd_A50 : cd 0 50 = (20, 30) := rfl
theorem cd_A51 : cd 0 51 = (20, 30) := rfl
theorem cd_A52 : cd 0 52 = (23, 30) := rfl
theorem cd_A53 : cd 0 53 = (20, 9) := rfl
theorem cd_A54 : cd 0 54 = (20, 20) := rfl
theorem cd_A55 : cd 0 55 = (20, 20) := rfl
theorem cd_A56 : cd 0 56 = (20, 20) := rfl
theorem cd_A57 : cd 0 57 = (20, 4) := rfl
theorem cd_A58 : cd 0 58 = (1, 11) := rfl
theorem cd_A59 : cd 0 59 = (23, 10) := rfl
theorem cd_A60 : cd 0 60 = (20, 10) := rfl
theorem cd_A61 : cd 0 61 = (20, 10) := rfl
theorem cd_A62 : cd 0 62 = (20, 4) := rfl
theorem cd_A63 : cd 0 63 = (20, 4) := rfl
theorem cd_A64 : cd 0 64 = (2, 8) := rfl
theorem cd_A65 : cd 0 65 = (20, 30) := rfl
theorem cd_A66 : cd 0 66 = (20, 30) := rfl
theorem cd_A67 : cd 0 67 = (20, 4) := rfl
theorem cd_A68 : cd 0 68 = (20, 30) := rfl
theorem cd_A69 : cd 0 69 = (23, 30) := rfl
theorem cd_A70 : cd 0 70 = (20, 30) := rfl
theorem cd_A71 : cd 0 71 = (8, 9) := rfl
theorem cd_A72 : cd 0 72 = (20, 49) := rfl
theorem cd_A73 : cd 0 73 = (20, 7) := rfl
theorem cd_A74 : cd 0 74 = (20, 6) := rfl
theorem cd_A75 : cd 0 75 = (20, 64) := rfl
theorem cd_A76 : cd 0 76 = (20, 384) := rfl
theorem cd_A77 : cd 0 77 = (20, 64) := rfl
theorem cd_A78 : cd 0 78 = (20, 64) := rfl
theorem cd_B0 : cd 1 0 = (12, 109) := rfl
theorem cd_B1 : cd 1 1 = (20, 4) := rfl
theorem cd_B2 : cd 1 2 = (20, 4) := rfl
theorem cd_B3 : cd 1 3 = (21, 240) := rfl
theorem cd_B4 : cd 1 4 = (20, 8) := rfl
theorem cd_B5 : cd 1 5 = (20, 8) := rfl
theorem cd_B6 : cd 1 6 = (20, 9) := rfl
theorem cd_B7 : cd 1 7 = (21, 40) := rfl
theorem cd_B8 : cd 1 8 = (20, 40) := rfl
theorem cd_B9 : cd 1 9 = (20, 40) := rfl
theorem cd_B10 : cd 1 10 = (20, 80) := rfl
theorem cd_B11 : cd 1 11 = (20, 80) := rfl
theorem cd_B12 : cd 1 12 = (20, 80) := rfl
theorem cd_B13 : cd 1 13 = (20, 80) := rfl
theorem cd_B14 : cd 1 14 = (20, 80) := rfl
theorem cd_B15 : cd 1 15 = (20, 80) := rfl
theorem cd_B16 : cd 1 16 = (20, 30) := rfl
theorem cd_B17 : cd 1 17 = (20, 30) := rfl
theorem cd_B18 : cd 1 18 = (20, 30) := rfl
theorem cd_B19 : cd 1 19 = (20, 60) := rfl
theorem cd_B20 : cd 1 20 = (20, 60) := rfl
theorem cd_B21 : cd 1 21 = (20, 60) := rfl
theorem cd_B22 : cd 1 22 = (20, 60) := rfl
theorem cd_B23 : cd 1 23 = (23, 60) := rfl
theorem cd_B24 : cd 1 24 = (22, 600) := rfl
theorem cd_B25 : cd 1 25 = (22, 600) := rfl
theorem cd_B26 : cd 1 26 = (20, 6) := rfl
theorem cd_B27 : cd 1 27 = (20, 6) := rfl
theorem cd_B28 : cd 1 28 = (20, 6) := rfl
theorem cd_B29 : cd 1 29 = (20, 120) := rfl
theorem cd_B30 : cd 1 30 = (20, 120) := rfl
theorem cd_B31 : cd 1 31 = (20, 120) := rfl
theorem cd_B32 : cd 1 32 = (20, 120) := rfl
theorem cd_B33 : cd 1 33 = (20, 120) := rfl
theorem cd_B34 : cd 1 34 = (20, 120) := rfl
theorem cd_B35 : cd 1 35 = (21, 120) := rfl
theorem cd_B36 : cd 1 36 = (21, 120) := rfl
theorem cd_B37 : cd 1 37 = (20, 1500) := rfl
theorem cd_B38 : cd 1 38 = (20, 1500) := rfl
theorem cd_B39 : cd 1 39 = (20, 1500) := rfl
theorem cd_B40 : cd 1 40 = (20, 1500) := rfl
theorem cd_B41 : cd 1 41 = (23, 1500) := rfl
theorem cd_B42 : cd 1 42 = (23, 1500) := rfl
theorem cd_B43 : cd 1 43 = (20, 4000) := rfl
theorem cd_B44 : cd 1 44 = (20, 4000) := rfl
theorem cd_B45 : cd 1 45 = (20, 8) := rfl
theorem cd_B46 : cd 1 46 = (20, 8) := rfl
theorem cd_B47 : cd 1 47 = (20, 100) := rfl
theorem cd_B48 : cd 1 48 = (20, 5) := rfl
theorem cd_B49 : cd 1 49 = (23, 100) := rfl
theorem cd_B50 : cd 1 50 = (21, 9) := rfl
theorem cd_B51 : cd 1 51 = (21, 700) := rfl
theorem cd_B52 : cd 1 52 = (20, 3) := rfl
theorem cd_B53 : cd 1 53 = (20, 90) := rfl
theorem cd_B54 : cd 1 54 = (20, 90) := rfl
theorem cd_B55 : cd 1 55 = (20, 90) := rfl
theorem cd_B56 : cd 1 56 = (20, 60) := rfl
theorem cd_B57 : cd 1 57 = (21, 90) := rfl
theorem cd_B58 : cd 1 58 = (20, 961) := rfl
theorem cd_B59 : cd 1 59 = (20, 20) := rfl
theorem cd_B60 : cd 1 60 = (20, 20) := rfl
theorem cd_B61 : cd 1 61 = (20, 20) := rfl
theorem cd_B62 : cd 1 62 = (20, 30) := rfl
theorem cd_B63 : cd 1 63 = (20, 20) := rfl
theorem cd_B64 : cd 1 64 = (20, 4) := rfl
theorem cd_B65 : cd 1 65 = (20, 10) := rfl
theorem cd_B66 : cd 1 66 = (20, 10) := rfl
theorem cd_B67 : cd 1 67 = (20, 4) := rfl
theorem cd_B68 : cd 1 68 = (23, 10) := rfl
theorem cd_B69 : cd 1 69 = (20, 30) := rfl
theorem cd_B70 : cd 1 70 = (20, 30) := rfl
theorem cd_B71 : cd 1 71 = (20, 4) := rfl
theorem cd_B72 : cd 1 72 = (20, 30) := rfl
theorem cd_B73 : cd 1 73 = (20, 30) := rfl
theorem cd_B74 : cd 1 74 = (20, 30) := rfl
theorem cd_B75 : cd 1 75 = (20, 49) := rfl
theorem cd_B76 : cd 1 76 = (20, 7) := rfl
theorem cd_B77 : cd 1 77 = (20, 896) := rfl
theorem cd_B78 : cd 1 78 = (20, 128) := rfl
theorem cd_B79 : cd 1 79 = (20, 128) := rfl
theorem cd_B80 : cd 1 80 = (20, 128) := rfl
