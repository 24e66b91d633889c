/-! Printed by wip/whole/tools/gen_tables.py: classes, fields, array kinds, the fixed layout -/
def x_T0 : u_T := fun k => match k with
  | 0 => ("LeaderTerms$Breaks", "number", "I", false)
  | 1 => ("LeaderTerms$Breaks", "above", "[J", true)
  | 2 => ("LeaderTerms$Breaks", "below", "[J", true)
  | _ => ("LeaderTerms$Breaks", "one", "LLeaderTerms$Fraction;", true)
def x_T1 : u_T := fun k => match k with
  | 0 => ("LeaderTerms$Follower", "kind", "I", false)
  | 1 => ("LeaderTerms$Follower", "m", "I", false)
  | 2 => ("LeaderTerms$Follower", "goods", "I", false)
  | 3 => ("LeaderTerms$Follower", "rows", "I", false)
  | 4 => ("LeaderTerms$Follower", "traits", "[I", true)
  | 5 => ("LeaderTerms$Follower", "numbers", "[I", true)
  | _ => ("LeaderTerms$Follower", "bounds", "[I", true)
def x_T2 : u_T := fun k => match k with
  | 0 => ("LeaderTerms$Fraction", "above", "J", false)
  | _ => ("LeaderTerms$Fraction", "below", "J", false)
def x_T3 : u_T := fun k => match k with
  | 0 => ("LeaderTerms$Market", "world", "LLeaderTerms$World;", true)
  | 1 => ("LeaderTerms$Market", "plans", "[LLeaderTerms$Plans;", true)
  | 2 => ("LeaderTerms$Market", "turns", "LLeaderTerms$Breaks;", true)
  | 3 => ("LeaderTerms$Market", "top", "LLeaderTerms$Fraction;", true)
  | 4 => ("LeaderTerms$Market", "where", "LLeaderTerms$Fraction;", true)
  | 5 => ("LeaderTerms$Market", "how", "I", false)
  | 6 => ("LeaderTerms$Market", "sum", "LLeaderTerms$Fraction;", true)
  | _ => ("LeaderTerms$Market", "termBelow", "J", false)
def x_T4 : u_T := fun k => match k with
  | 0 => ("LeaderTerms$Plans", "who", "LLeaderTerms$Follower;", true)
  | 1 => ("LeaderTerms$Plans", "square", "LLeaderTerms$Square;", true)
  | 2 => ("LeaderTerms$Plans", "number", "I", false)
  | 3 => ("LeaderTerms$Plans", "amounts", "[J", true)
  | 4 => ("LeaderTerms$Plans", "below", "[J", true)
  | 5 => ("LeaderTerms$Plans", "tight", "[I", true)
  | 6 => ("LeaderTerms$Plans", "worth", "[J", true)
  | 7 => ("LeaderTerms$Plans", "toll", "[J", true)
  | 8 => ("LeaderTerms$Plans", "side", "[J", true)
  | 9 => ("LeaderTerms$Plans", "net", "[J", true)
  | 10 => ("LeaderTerms$Plans", "gain", "[J", true)
  | 11 => ("LeaderTerms$Plans", "termBelow", "J", false)
  | _ => ("LeaderTerms$Plans", "bestSet", "I", false)
def x_T5 : u_T := fun k => match k with
  | 0 => ("LeaderTerms$Prices", "square", "LLeaderTerms$Square;", true)
  | 1 => ("LeaderTerms$Prices", "number", "I", false)
  | 2 => ("LeaderTerms$Prices", "proofs", "I", false)
  | 3 => ("LeaderTerms$Prices", "proof", "I", false)
  | 4 => ("LeaderTerms$Prices", "termBelow", "J", false)
  | 5 => ("LeaderTerms$Prices", "price", "[J", true)
  | 6 => ("LeaderTerms$Prices", "below", "[J", true)
  | 7 => ("LeaderTerms$Prices", "tight", "[I", true)
  | _ => ("LeaderTerms$Prices", "cost", "[J", true)
def x_T6 : u_T := fun k => match k with
  | 0 => ("LeaderTerms$Row", "sort", "I", true)
  | _ => ("LeaderTerms$Row", "numbers", "[J", true)
def x_T7 : u_T := fun k => match k with
  | 0 => ("LeaderTerms$Spot", "sort", "I", false)
  | 1 => ("LeaderTerms$Spot", "number", "I", false)
  | _ => ("LeaderTerms$Spot", "row", "LLeaderTerms$Row;", false)
def x_T8 : u_T := fun k => match k with
  | 0 => ("LeaderTerms$Square", "cells", "[J", true)
  | 1 => ("LeaderTerms$Square", "right", "[J", true)
  | 2 => ("LeaderTerms$Square", "found", "[J", true)
  | _ => ("LeaderTerms$Square", "below", "J", false)
def x_T9 : u_T := fun k => match k with
  | 0 => ("LeaderTerms$World", "number", "I", false)
  | 1 => ("LeaderTerms$World", "most", "I", false)
  | 2 => ("LeaderTerms$World", "rounds", "I", false)
  | 3 => ("LeaderTerms$World", "z", "I", false)
  | 4 => ("LeaderTerms$World", "ledger", "J", false)
  | 5 => ("LeaderTerms$World", "term", "LLeaderTerms$Fraction;", true)
  | _ => ("LeaderTerms$World", "followers", "[LLeaderTerms$Follower;", true)
def x_T10 : u_T := fun k => match k with
  | 0 => ("LeaderTerms", "world", "LLeaderTerms$World;", true)
  | 1 => ("LeaderTerms", "kept", "LLeaderTerms$World;", true)
  | 2 => ("LeaderTerms", "isKept", "Z", false)
  | 3 => ("LeaderTerms", "market", "LLeaderTerms$Market;", true)
  | 4 => ("LeaderTerms", "prices", "LLeaderTerms$Prices;", true)
  | 5 => ("LeaderTerms", "spare", "LLeaderTerms$Follower;", true)
  | 6 => ("LeaderTerms", "oldKinds", "[I", true)
  | 7 => ("LeaderTerms", "told", "LLeaderTerms$Fraction;", true)
  | 8 => ("LeaderTerms", "greatest", "LLeaderTerms$Fraction;", true)
  | 9 => ("LeaderTerms", "sheets", "[LLeaderTerms$Row;", true)
  | 10 => ("LeaderTerms", "spots", "[LLeaderTerms$Spot;", true)
  | 11 => ("LeaderTerms", "pieceRows", "[J", true)
  | 12 => ("LeaderTerms", "pieceCount", "I", false)
  | 13 => ("LeaderTerms", "onePiece", "[J", true)
  | _ => ("LeaderTerms", "findings", "[I", true)
def x_T11 : u_T := fun k => match k with
  | 0 => ("LeaderTermsModel", "many", "I", false)
  | 1 => ("LeaderTermsModel", "kind", "[I", true)
  | 2 => ("LeaderTermsModel", "m", "[I", true)
  | 3 => ("LeaderTermsModel", "goods", "[I", true)
  | 4 => ("LeaderTermsModel", "rows", "[I", true)
  | 5 => ("LeaderTermsModel", "good", "[[[I", true)
  | 6 => ("LeaderTermsModel", "number", "[[[I", true)
  | 7 => ("LeaderTermsModel", "bound", "[[I", true)
  | 8 => ("LeaderTermsModel", "most", "I", false)
  | 9 => ("LeaderTermsModel", "above", "J", false)
  | 10 => ("LeaderTermsModel", "below", "J", false)
  | 11 => ("LeaderTermsModel", "ledger", "J", false)
  | 12 => ("LeaderTermsModel", "round", "I", false)
  | 13 => ("LeaderTermsModel", "z", "I", false)
  | 14 => ("LeaderTermsModel", "found", "[I", true)
  | 15 => ("LeaderTermsModel", "sumAbove", "J", false)
  | 16 => ("LeaderTermsModel", "sumBelow", "J", false)
  | 17 => ("LeaderTermsModel", "size", "I", false)
  | 18 => ("LeaderTermsModel", "matrix", "[[J", true)
  | 19 => ("LeaderTermsModel", "right", "[J", true)
  | 20 => ("LeaderTermsModel", "solved", "[J", true)
  | 21 => ("LeaderTermsModel", "planMany", "[I", true)
  | 22 => ("LeaderTermsModel", "plan", "[[[J", true)
  | 23 => ("LeaderTermsModel", "planBelow", "[[J", true)
  | 24 => ("LeaderTermsModel", "planTight", "[[I", true)
  | 25 => ("LeaderTermsModel", "breakMany", "I", false)
  | 26 => ("LeaderTermsModel", "breakAbove", "[J", true)
  | 27 => ("LeaderTermsModel", "breakBelow", "[J", true)
  | 28 => ("LeaderTermsModel", "bestAbove", "J", false)
  | 29 => ("LeaderTermsModel", "bestBelow", "J", false)
  | 30 => ("LeaderTermsModel", "whereAbove", "J", false)
  | 31 => ("LeaderTermsModel", "whereBelow", "J", false)
  | 32 => ("LeaderTermsModel", "how", "I", false)
  | 33 => ("LeaderTermsModel", "priceMany", "I", false)
  | 34 => ("LeaderTermsModel", "price", "[[J", true)
  | 35 => ("LeaderTermsModel", "priceBelow", "[J", true)
  | 36 => ("LeaderTermsModel", "priceTight", "[I", true)
  | 37 => ("LeaderTermsModel", "mostAbove", "J", false)
  | 38 => ("LeaderTermsModel", "mostBelow", "J", false)
  | 39 => ("LeaderTermsModel", "mostBy", "I", false)
  | 40 => ("LeaderTermsModel", "asideBound", "[I", true)
  | 41 => ("LeaderTermsModel", "asideNumber", "[[I", true)
  | 42 => ("LeaderTermsModel", "rowMany", "I", false)
  | 43 => ("LeaderTermsModel", "pieceRow", "[[J", true)
  | 44 => ("LeaderTermsModel", "sheetSort", "[I", true)
  | 45 => ("LeaderTermsModel", "sheetSize", "[I", true)
  | 46 => ("LeaderTermsModel", "cells", "[[J", true)
  | 47 => ("LeaderTermsModel", "passing", "[J", true)
  | 48 => ("LeaderTermsModel", "spot", "[I", true)
  | 49 => ("LeaderTermsModel", "spotNumber", "[I", true)
  | 50 => ("LeaderTermsModel", "spotSort", "[I", true)
  | 51 => ("LeaderTermsModel", "isKept", "Z", false)
  | 52 => ("LeaderTermsModel", "keptMany", "I", false)
  | 53 => ("LeaderTermsModel", "keptHead", "[[I", true)
  | 54 => ("LeaderTermsModel", "keptGood", "[[[I", true)
  | 55 => ("LeaderTermsModel", "keptNumber", "[[[I", true)
  | 56 => ("LeaderTermsModel", "keptBound", "[[I", true)
  | _ => ("LeaderTermsModel", "keptRest", "[J", true)
def x_T (c : Nat) : u_T := match c with
  | 0 => x_T0
  | 1 => x_T1
  | 2 => x_T2
  | 3 => x_T3
  | 4 => x_T4
  | 5 => x_T5
  | 6 => x_T6
  | 7 => x_T7
  | 8 => x_T8
  | 9 => x_T9
  | 10 => x_T10
  | _ => x_T11
def x_NL : List Nat := [4, 7, 2, 8, 13, 9, 2, 3, 4, 7, 15, 58]
def x_N (c : Nat) : Nat := x_NL.getD c 0
def x_CL : List String := ["LeaderTerms$Breaks", "LeaderTerms$Follower", "LeaderTerms$Fraction", "LeaderTerms$Market", "LeaderTerms$Plans", "LeaderTerms$Prices", "LeaderTerms$Row", "LeaderTerms$Spot", "LeaderTerms$Square", "LeaderTerms$World", "LeaderTerms", "LeaderTermsModel"]
def x_C (c : Nat) : String := x_CL.getD c ""
def x_KL : List vw_C := [("LeaderTerms$Breaks", x_T0, 4), ("LeaderTerms$Follower", x_T1, 7), ("LeaderTerms$Fraction", x_T2, 2), ("LeaderTerms$Market", x_T3, 8), ("LeaderTerms$Plans", x_T4, 13), ("LeaderTerms$Prices", x_T5, 9), ("LeaderTerms$Row", x_T6, 2), ("LeaderTerms$Spot", x_T7, 3), ("LeaderTerms$Square", x_T8, 4), ("LeaderTerms$World", x_T9, 7), ("LeaderTerms", x_T10, 15), ("LeaderTermsModel", x_T11, 58)]
def x_FKL : List (List Nat) := [[0, 2, 2, 2], [0, 0, 0, 0, 2, 2, 2], [1, 1], [2, 2, 2, 2, 2, 0, 2, 1], [2, 2, 0, 2, 2, 2, 2, 2, 2, 2, 2, 1, 0], [2, 0, 0, 0, 1, 2, 2, 2, 2], [0, 2], [0, 0, 3], [2, 2, 2, 1], [0, 0, 0, 0, 1, 2, 2], [2, 2, 4, 2, 2, 2, 2, 2, 2, 2, 2, 2, 0, 2, 2], [0, 2, 2, 2, 2, 2, 2, 2, 0, 1, 1, 1, 0, 0, 2, 1, 1, 0, 2, 2, 2, 2, 2, 2, 2, 0, 2, 2, 1, 1, 1, 1, 0, 0, 2, 2, 2, 1, 1, 0, 2, 2, 0, 2, 2, 2, 2, 2, 2, 2, 2, 4, 0, 2, 2, 2, 2, 2]]
def x_FK (c k : Nat) : Nat := (x_FKL.getD c []).getD k 9
def x_PTL : List (List Nat) := [[0, 107, 107, 12], [0, 0, 0, 0, 101, 102, 103], [0, 0], [19, 106, 10, 12, 12, 0, 12, 0], [11, 18, 0, 108, 109, 110, 109, 109, 109, 109, 109, 0, 0], [18, 0, 0, 0, 0, 111, 112, 113, 112], [0, 190], [0, 0, 9], [104, 105, 105, 0], [0, 0, 0, 0, 0, 12, 100], [19, 19, 0, 13, 15, 11, 114, 12, 12, 115, 116, 117, 0, 118, 119], [0, 114, 114, 114, 114, 121, 123, 124, 0, 0, 0, 0, 0, 0, 119, 0, 0, 0, 126, 125, 125, 114, 128, 130, 132, 0, 133, 133, 0, 0, 0, 0, 0, 0, 134, 129, 131, 0, 0, 0, 103, 122, 0, 135, 103, 103, 136, 129, 110, 110, 110, 0, 0, 124, 121, 123, 124, 118]]
def x_PT (c k : Nat) : Nat := (x_PTL.getD c []).getD k 0
def x_PF (c k : Nat) (a : Int) : Int := match c with
  | 0 => (match k with
    | 1 => 43
    | 2 => 44
    | 3 => 45
    | _ => 0)
  | 1 => (match k with
    | 4 => a + 1
    | 5 => a + 2
    | 6 => a + 3
    | _ => 0)
  | 3 => (match k with
    | 0 => 6
    | 1 => 41
    | 2 => 42
    | 3 => 46
    | 4 => 47
    | 6 => 48
    | _ => 0)
  | 4 => (match k with
    | 0 => 9 + 4 * ((a - 49) / 9)
    | 1 => 36
    | 3 => a + 1
    | 4 => a + 2
    | 5 => a + 3
    | 6 => a + 4
    | 7 => a + 5
    | 8 => a + 6
    | 9 => a + 7
    | 10 => a + 8
    | _ => 0)
  | 5 => (match k with
    | 0 => 36
    | 5 => 77
    | 6 => 78
    | 7 => 79
    | 8 => 80
    | _ => 0)
  | 6 => (match k with
    | 1 => a + 1
    | _ => 0)
  | 8 => (match k with
    | 0 => 37
    | 1 => 38
    | 2 => 39
    | _ => 0)
  | 9 => (match k with
    | 5 => a + 1
    | 6 => a + 2
    | _ => 0)
  | 10 => (match k with
    | 0 => 6
    | 1 => 21
    | 3 => 40
    | 4 => 76
    | 5 => 81
    | 6 => 85
    | 7 => 86
    | 8 => 87
    | 9 => 88
    | 10 => 89
    | 11 => 100
    | 13 => 101
    | 14 => 102
    | _ => 0)
  | 11 => (match k with
    | 1 => 104
    | 2 => 105
    | 3 => 106
    | 4 => 107
    | 5 => 108
    | 6 => 121
    | 7 => 137
    | 14 => 141
    | 18 => 142
    | 19 => 147
    | 20 => 148
    | 21 => 149
    | 22 => 150
    | 23 => 274
    | 24 => 278
    | 26 => 282
    | 27 => 283
    | 34 => 284
    | 35 => 325
    | 36 => 326
    | 40 => 327
    | 41 => 328
    | 43 => 333
    | 44 => 544
    | 45 => 545
    | 46 => 546
    | 47 => 551
    | 48 => 552
    | 49 => 553
    | 50 => 554
    | 53 => 555
    | 54 => 559
    | 55 => 572
    | 56 => 588
    | 57 => 592
    | _ => 0)
  | _ => 0
/-- an array kind: what it holds (0 ints, 1 longs, 2 fixed references, 3 rows), how many, where the references lead (off, stride, tag), its class -/
def x_AT (t : Nat) : Nat × Int × Int × Int × Nat × Nat := match t with
  | 0 => (2, 3, 1, 4, 11, 2)
  | 1 => (0, 9, 0, 0, 0, 0)
  | 2 => (0, 12, 0, 0, 0, 0)
  | 3 => (0, 4, 0, 0, 0, 0)
  | 4 => (1, 9, 0, 0, 0, 1)
  | 5 => (1, 3, 0, 0, 0, 1)
  | 6 => (2, 3, 8, 9, 14, 3)
  | 7 => (1, 27, 0, 0, 0, 1)
  | 8 => (1, 30, 0, 0, 0, 1)
  | 9 => (1, 10, 0, 0, 0, 1)
  | 10 => (0, 10, 0, 0, 0, 0)
  | 11 => (1, 140, 0, 0, 0, 1)
  | 12 => (1, 35, 0, 0, 0, 1)
  | 13 => (0, 35, 0, 0, 0, 0)
  | 14 => (0, 3, 0, 0, 0, 0)
  | 15 => (3, 4, 0, 0, 9, 4)
  | 16 => (2, 10, 1, 1, 17, 5)
  | 17 => (1, 168, 0, 0, 0, 1)
  | 18 => (1, 6, 0, 0, 0, 1)
  | 19 => (0, 8, 0, 0, 0, 0)
  | 20 => (2, 3, 1, 1, 114, 6)
  | 21 => (2, 3, 1, 4, 120, 7)
  | 22 => (2, 4, 1, 1, 114, 6)
  | 23 => (2, 3, 1, 5, 122, 7)
  | 24 => (2, 3, 1, 1, 103, 6)
  | 25 => (1, 4, 0, 0, 0, 1)
  | 26 => (2, 4, 1, 1, 125, 8)
  | 27 => (2, 40, 1, 1, 105, 8)
  | 28 => (2, 3, 1, 41, 127, 9)
  | 29 => (1, 40, 0, 0, 0, 1)
  | 30 => (2, 3, 1, 1, 129, 8)
  | 31 => (0, 40, 0, 0, 0, 0)
  | 32 => (2, 3, 1, 1, 131, 6)
  | 33 => (1, 200, 0, 0, 0, 1)
  | 34 => (2, 40, 1, 1, 125, 8)
  | 35 => (2, 210, 1, 1, 118, 8)
  | 36 => (2, 4, 1, 1, 129, 8)
  | 90 => (1, 0, 0, 0, 0, 1)
  | 91 => (1, 5, 0, 0, 0, 1)
  | 92 => (0, 3, 0, 0, 0, 0)
  | 80 => (0, 0, 0, 0, 0, 10)
  | 81 => (0, 7, 0, 0, 0, 11)
  | 82 => (0, 3, 0, 0, 0, 12)
  | 83 => (0, 3, 0, 0, 0, 13)
  | 84 => (0, 3, 0, 0, 0, 14)
  | _ => (9, 0, 0, 0, 0, 0)
def x_SHL : List Nat := [180, 181, 182, 183, 184, 20, 19, 12, 100, 11, 101, 102, 103, 11, 101, 102, 103, 11, 101, 102, 103, 19, 12, 100, 11, 101, 102, 103, 11, 101, 102, 103, 11, 101, 102, 103, 18, 104, 105, 105, 13, 106, 10, 107, 107, 12, 12, 12, 12, 14, 108, 109, 110, 109, 109, 109, 109, 109, 14, 108, 109, 110, 109, 109, 109, 109, 109, 14, 108, 109, 110, 109, 109, 109, 109, 109, 15, 111, 112, 113, 112, 11, 101, 102, 103, 114, 12, 12, 115, 116, 17, 17, 17, 17, 17, 17, 17, 17, 17, 17, 117, 118, 119, 21, 114, 114, 114, 114, 121, 120, 114, 114, 114, 120, 114, 114, 114, 120, 114, 114, 114, 123, 122, 114, 114, 114, 114, 122, 114, 114, 114, 114, 122, 114, 114, 114, 114, 124, 103, 103, 103, 119, 126, 125, 125, 125, 125, 125, 125, 114, 128, 127, 105, 105, 105, 105, 105, 105, 105, 105, 105, 105, 105, 105, 105, 105, 105, 105, 105, 105, 105, 105, 105, 105, 105, 105, 105, 105, 105, 105, 105, 105, 105, 105, 105, 105, 105, 105, 105, 105, 105, 105, 127, 105, 105, 105, 105, 105, 105, 105, 105, 105, 105, 105, 105, 105, 105, 105, 105, 105, 105, 105, 105, 105, 105, 105, 105, 105, 105, 105, 105, 105, 105, 105, 105, 105, 105, 105, 105, 105, 105, 105, 105, 127, 105, 105, 105, 105, 105, 105, 105, 105, 105, 105, 105, 105, 105, 105, 105, 105, 105, 105, 105, 105, 105, 105, 105, 105, 105, 105, 105, 105, 105, 105, 105, 105, 105, 105, 105, 105, 105, 105, 105, 105, 130, 129, 129, 129, 132, 131, 131, 131, 133, 133, 134, 125, 125, 125, 125, 125, 125, 125, 125, 125, 125, 125, 125, 125, 125, 125, 125, 125, 125, 125, 125, 125, 125, 125, 125, 125, 125, 125, 125, 125, 125, 125, 125, 125, 125, 125, 125, 125, 125, 125, 125, 129, 131, 103, 122, 114, 114, 114, 114, 135, 118, 118, 118, 118, 118, 118, 118, 118, 118, 118, 118, 118, 118, 118, 118, 118, 118, 118, 118, 118, 118, 118, 118, 118, 118, 118, 118, 118, 118, 118, 118, 118, 118, 118, 118, 118, 118, 118, 118, 118, 118, 118, 118, 118, 118, 118, 118, 118, 118, 118, 118, 118, 118, 118, 118, 118, 118, 118, 118, 118, 118, 118, 118, 118, 118, 118, 118, 118, 118, 118, 118, 118, 118, 118, 118, 118, 118, 118, 118, 118, 118, 118, 118, 118, 118, 118, 118, 118, 118, 118, 118, 118, 118, 118, 118, 118, 118, 118, 118, 118, 118, 118, 118, 118, 118, 118, 118, 118, 118, 118, 118, 118, 118, 118, 118, 118, 118, 118, 118, 118, 118, 118, 118, 118, 118, 118, 118, 118, 118, 118, 118, 118, 118, 118, 118, 118, 118, 118, 118, 118, 118, 118, 118, 118, 118, 118, 118, 118, 118, 118, 118, 118, 118, 118, 118, 118, 118, 118, 118, 118, 118, 118, 118, 118, 118, 118, 118, 118, 118, 118, 118, 118, 118, 118, 118, 118, 118, 118, 118, 118, 118, 118, 118, 118, 118, 118, 118, 118, 118, 118, 118, 118, 118, 118, 118, 118, 118, 118, 118, 118, 118, 118, 118, 118, 118, 118, 118, 118, 118, 118, 103, 103, 136, 129, 129, 129, 129, 129, 110, 110, 110, 124, 103, 103, 103, 121, 120, 114, 114, 114, 120, 114, 114, 114, 120, 114, 114, 114, 123, 122, 114, 114, 114, 114, 122, 114, 114, 114, 114, 122, 114, 114, 114, 114, 124, 103, 103, 103, 118]
def x_SHT (a : Nat) : Nat := x_SHL.getD a 0
def x_K : Nat := 593
def x_SC (t : Nat) : List Int := match t with
  | 181 => [-1, 0, 0, 1, 2, 2, 3]
  | 182 => [0, 0, -9]
  | 183 => [20, 3, 9]
  | 184 => [10, 1, 0]
  | _ => []
theorem x_mem_ps {big ws : List Cond} (ps : List Nat) (hp : ws = ps.filterMap (fun i => big[i]?)) : ∀ w ∈ ws, w ∈ big := by
  intro w hw
  rw [hp] at hw
  obtain ⟨i, -, hi⟩ := List.mem_filterMap.mp hw
  exact List.mem_of_getElem? hi
set_option maxRecDepth 20000 in
theorem x_in0 : ∀ w ∈ u_ws "LeaderTerms$Breaks" x_T0 4, w ∈ lw_tbl := x_mem_ps [302, 304, 306, 308] rfl
set_option maxRecDepth 20000 in
theorem x_in1 : ∀ w ∈ u_ws "LeaderTerms$Follower" x_T1 7, w ∈ lw_tbl := x_mem_ps [202, 204, 206, 208, 210, 212, 214] rfl
set_option maxRecDepth 20000 in
theorem x_in2 : ∀ w ∈ u_ws "LeaderTerms$Fraction" x_T2 2, w ∈ lw_tbl := x_mem_ps [163, 165] rfl
set_option maxRecDepth 20000 in
theorem x_in3 : ∀ w ∈ u_ws "LeaderTerms$Market" x_T3 8, w ∈ lw_tbl := x_mem_ps [381, 383, 385, 387, 389, 391, 393, 395] rfl
set_option maxRecDepth 20000 in
theorem x_in4 : ∀ w ∈ u_ws "LeaderTerms$Plans" x_T4 13, w ∈ lw_tbl := x_mem_ps [341, 343, 345, 347, 349, 351, 353, 355, 357, 359, 361, 363, 365] rfl
set_option maxRecDepth 20000 in
theorem x_in5 : ∀ w ∈ u_ws "LeaderTerms$Prices" x_T5 9, w ∈ lw_tbl := x_mem_ps [416, 418, 420, 422, 424, 426, 428, 430, 432] rfl
set_option maxRecDepth 20000 in
theorem x_in6 : ∀ w ∈ u_ws "LeaderTerms$Row" x_T6 2, w ∈ lw_tbl := x_mem_ps [1071, 1073] rfl
set_option maxRecDepth 20000 in
theorem x_in7 : ∀ w ∈ u_ws "LeaderTerms$Spot" x_T7 3, w ∈ lw_tbl := x_mem_ps [454, 456, 458] rfl
set_option maxRecDepth 20000 in
theorem x_in8 : ∀ w ∈ u_ws "LeaderTerms$Square" x_T8 4, w ∈ lw_tbl := x_mem_ps [266, 268, 270, 272] rfl
set_option maxRecDepth 20000 in
theorem x_in9 : ∀ w ∈ u_ws "LeaderTerms$World" x_T9 7, w ∈ lw_tbl := x_mem_ps [237, 239, 241, 243, 245, 247, 249] rfl
set_option maxRecDepth 20000 in
theorem x_in10 : ∀ w ∈ u_ws "LeaderTerms" x_T10 15, w ∈ lw_tbl := x_mem_ps [476, 478, 480, 482, 484, 486, 488, 490, 492, 494, 496, 498, 500, 502, 504] rfl
set_option maxRecDepth 20000 in
theorem x_in11 : ∀ w ∈ u_ws "LeaderTermsModel" x_T11 58, w ∈ lw_tbl := x_mem_ps [1222, 1224, 1226, 1228, 1230, 1232, 1234, 1236, 1238, 1240, 1242, 1244, 1246, 1248, 1250, 1252, 1254, 1256, 1258, 1260, 1262, 1264, 1266, 1268, 1270, 1272, 1274, 1276, 1278, 1280, 1282, 1284, 1286, 1288, 1290, 1292, 1294, 1296, 1298, 1300, 1302, 1304, 1306, 1308, 1310, 1312, 1314, 1316, 1318, 1320, 1322, 1324, 1326, 1328, 1330, 1332, 1334, 1336] rfl
def x_ty0 : Nat → FieldType := fun k => match k with
  | 0 => .int
  | 1 => (.array .long)
  | 2 => (.array .long)
  | _ => (.object "LeaderTerms$Fraction")
theorem x_tyok0 : ∀ k, k < 4 → parseFieldDescriptor (x_T0 k).2.2.1 = some (x_ty0 k) := by decide +kernel
theorem x_nm0 : ∀ a, a < 4 → ∀ b, b < 4 → a ≠ b → (x_T0 a).2.1 ≠ (x_T0 b).2.1 := by decide +kernel
def x_ty1 : Nat → FieldType := fun k => match k with
  | 0 => .int
  | 1 => .int
  | 2 => .int
  | 3 => .int
  | 4 => (.array .int)
  | 5 => (.array .int)
  | _ => (.array .int)
theorem x_tyok1 : ∀ k, k < 7 → parseFieldDescriptor (x_T1 k).2.2.1 = some (x_ty1 k) := by decide +kernel
theorem x_nm1 : ∀ a, a < 7 → ∀ b, b < 7 → a ≠ b → (x_T1 a).2.1 ≠ (x_T1 b).2.1 := by decide +kernel
def x_ty2 : Nat → FieldType := fun k => match k with
  | 0 => .long
  | _ => .long
theorem x_tyok2 : ∀ k, k < 2 → parseFieldDescriptor (x_T2 k).2.2.1 = some (x_ty2 k) := by decide +kernel
theorem x_nm2 : ∀ a, a < 2 → ∀ b, b < 2 → a ≠ b → (x_T2 a).2.1 ≠ (x_T2 b).2.1 := by decide +kernel
def x_ty3 : Nat → FieldType := fun k => match k with
  | 0 => (.object "LeaderTerms$World")
  | 1 => (.array (.object "LeaderTerms$Plans"))
  | 2 => (.object "LeaderTerms$Breaks")
  | 3 => (.object "LeaderTerms$Fraction")
  | 4 => (.object "LeaderTerms$Fraction")
  | 5 => .int
  | 6 => (.object "LeaderTerms$Fraction")
  | _ => .long
theorem x_tyok3 : ∀ k, k < 8 → parseFieldDescriptor (x_T3 k).2.2.1 = some (x_ty3 k) := by decide +kernel
theorem x_nm3 : ∀ a, a < 8 → ∀ b, b < 8 → a ≠ b → (x_T3 a).2.1 ≠ (x_T3 b).2.1 := by decide +kernel
def x_ty4 : Nat → FieldType := fun k => match k with
  | 0 => (.object "LeaderTerms$Follower")
  | 1 => (.object "LeaderTerms$Square")
  | 2 => .int
  | 3 => (.array .long)
  | 4 => (.array .long)
  | 5 => (.array .int)
  | 6 => (.array .long)
  | 7 => (.array .long)
  | 8 => (.array .long)
  | 9 => (.array .long)
  | 10 => (.array .long)
  | 11 => .long
  | _ => .int
theorem x_tyok4 : ∀ k, k < 13 → parseFieldDescriptor (x_T4 k).2.2.1 = some (x_ty4 k) := by decide +kernel
theorem x_nm4 : ∀ a, a < 13 → ∀ b, b < 13 → a ≠ b → (x_T4 a).2.1 ≠ (x_T4 b).2.1 := by decide +kernel
def x_ty5 : Nat → FieldType := fun k => match k with
  | 0 => (.object "LeaderTerms$Square")
  | 1 => .int
  | 2 => .int
  | 3 => .int
  | 4 => .long
  | 5 => (.array .long)
  | 6 => (.array .long)
  | 7 => (.array .int)
  | _ => (.array .long)
theorem x_tyok5 : ∀ k, k < 9 → parseFieldDescriptor (x_T5 k).2.2.1 = some (x_ty5 k) := by decide +kernel
theorem x_nm5 : ∀ a, a < 9 → ∀ b, b < 9 → a ≠ b → (x_T5 a).2.1 ≠ (x_T5 b).2.1 := by decide +kernel
def x_ty6 : Nat → FieldType := fun k => match k with
  | 0 => .int
  | _ => (.array .long)
theorem x_tyok6 : ∀ k, k < 2 → parseFieldDescriptor (x_T6 k).2.2.1 = some (x_ty6 k) := by decide +kernel
theorem x_nm6 : ∀ a, a < 2 → ∀ b, b < 2 → a ≠ b → (x_T6 a).2.1 ≠ (x_T6 b).2.1 := by decide +kernel
def x_ty7 : Nat → FieldType := fun k => match k with
  | 0 => .int
  | 1 => .int
  | _ => (.object "LeaderTerms$Row")
theorem x_tyok7 : ∀ k, k < 3 → parseFieldDescriptor (x_T7 k).2.2.1 = some (x_ty7 k) := by decide +kernel
theorem x_nm7 : ∀ a, a < 3 → ∀ b, b < 3 → a ≠ b → (x_T7 a).2.1 ≠ (x_T7 b).2.1 := by decide +kernel
def x_ty8 : Nat → FieldType := fun k => match k with
  | 0 => (.array .long)
  | 1 => (.array .long)
  | 2 => (.array .long)
  | _ => .long
theorem x_tyok8 : ∀ k, k < 4 → parseFieldDescriptor (x_T8 k).2.2.1 = some (x_ty8 k) := by decide +kernel
theorem x_nm8 : ∀ a, a < 4 → ∀ b, b < 4 → a ≠ b → (x_T8 a).2.1 ≠ (x_T8 b).2.1 := by decide +kernel
def x_ty9 : Nat → FieldType := fun k => match k with
  | 0 => .int
  | 1 => .int
  | 2 => .int
  | 3 => .int
  | 4 => .long
  | 5 => (.object "LeaderTerms$Fraction")
  | _ => (.array (.object "LeaderTerms$Follower"))
theorem x_tyok9 : ∀ k, k < 7 → parseFieldDescriptor (x_T9 k).2.2.1 = some (x_ty9 k) := by decide +kernel
theorem x_nm9 : ∀ a, a < 7 → ∀ b, b < 7 → a ≠ b → (x_T9 a).2.1 ≠ (x_T9 b).2.1 := by decide +kernel
def x_ty10 : Nat → FieldType := fun k => match k with
  | 0 => (.object "LeaderTerms$World")
  | 1 => (.object "LeaderTerms$World")
  | 2 => .boolean
  | 3 => (.object "LeaderTerms$Market")
  | 4 => (.object "LeaderTerms$Prices")
  | 5 => (.object "LeaderTerms$Follower")
  | 6 => (.array .int)
  | 7 => (.object "LeaderTerms$Fraction")
  | 8 => (.object "LeaderTerms$Fraction")
  | 9 => (.array (.object "LeaderTerms$Row"))
  | 10 => (.array (.object "LeaderTerms$Spot"))
  | 11 => (.array .long)
  | 12 => .int
  | 13 => (.array .long)
  | _ => (.array .int)
theorem x_tyok10 : ∀ k, k < 15 → parseFieldDescriptor (x_T10 k).2.2.1 = some (x_ty10 k) := by decide +kernel
theorem x_nm10 : ∀ a, a < 15 → ∀ b, b < 15 → a ≠ b → (x_T10 a).2.1 ≠ (x_T10 b).2.1 := by decide +kernel
def x_ty11 : Nat → FieldType := fun k => match k with
  | 0 => .int
  | 1 => (.array .int)
  | 2 => (.array .int)
  | 3 => (.array .int)
  | 4 => (.array .int)
  | 5 => (.array (.array (.array .int)))
  | 6 => (.array (.array (.array .int)))
  | 7 => (.array (.array .int))
  | 8 => .int
  | 9 => .long
  | 10 => .long
  | 11 => .long
  | 12 => .int
  | 13 => .int
  | 14 => (.array .int)
  | 15 => .long
  | 16 => .long
  | 17 => .int
  | 18 => (.array (.array .long))
  | 19 => (.array .long)
  | 20 => (.array .long)
  | 21 => (.array .int)
  | 22 => (.array (.array (.array .long)))
  | 23 => (.array (.array .long))
  | 24 => (.array (.array .int))
  | 25 => .int
  | 26 => (.array .long)
  | 27 => (.array .long)
  | 28 => .long
  | 29 => .long
  | 30 => .long
  | 31 => .long
  | 32 => .int
  | 33 => .int
  | 34 => (.array (.array .long))
  | 35 => (.array .long)
  | 36 => (.array .int)
  | 37 => .long
  | 38 => .long
  | 39 => .int
  | 40 => (.array .int)
  | 41 => (.array (.array .int))
  | 42 => .int
  | 43 => (.array (.array .long))
  | 44 => (.array .int)
  | 45 => (.array .int)
  | 46 => (.array (.array .long))
  | 47 => (.array .long)
  | 48 => (.array .int)
  | 49 => (.array .int)
  | 50 => (.array .int)
  | 51 => .boolean
  | 52 => .int
  | 53 => (.array (.array .int))
  | 54 => (.array (.array (.array .int)))
  | 55 => (.array (.array (.array .int)))
  | 56 => (.array (.array .int))
  | _ => (.array .long)
theorem x_tyok11 : ∀ k, k < 58 → parseFieldDescriptor (x_T11 k).2.2.1 = some (x_ty11 k) := by decide +kernel
theorem x_nm11 : ∀ a, a < 58 → ∀ b, b < 58 → a ≠ b → (x_T11 a).2.1 ≠ (x_T11 b).2.1 := by decide +kernel
