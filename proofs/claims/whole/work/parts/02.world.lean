/-! THE CLAIM'S DATA: classes, the objects in the order in which the constructors make them, their refs, the times at which these are set -/
def fa_F0 : u_T := fun k => match k with
  | 0 => ("FlowApply", "tape", "LFlowApply$Row;", true)
  | 1 => ("FlowApply", "shown", "LFlowApply$Row;", true)
  | 2 => ("FlowApply", "fields", "LFlowApply$Row;", true)
  | 3 => ("FlowApply", "reader", "LFlowApply$Reader;", true)
  | 4 => ("FlowApply", "writer", "LFlowApply$Writer;", true)
  | 5 => ("FlowApply", "machine", "LFlowApply$Machine;", true)
  | 6 => ("FlowApply", "now", "LFlowApply$Scene;", false)
  | 7 => ("FlowApply", "spare", "LFlowApply$Scene;", false)
  | _ => ("FlowApply", "faultAt", "I", false)
def fa_F1 : u_T := fun k => match k with
  | 0 => ("FlowApply$Flow", "comes", "LFlowApply$Row;", true)
  | 1 => ("FlowApply$Flow", "held", "LFlowApply$Row;", true)
  | 2 => ("FlowApply$Flow", "calls", "LFlowApply$Row;", true)
  | 3 => ("FlowApply$Flow", "reached", "LFlowApply$Row;", true)
  | 4 => ("FlowApply$Flow", "rings", "LFlowApply$Row;", true)
  | 5 => ("FlowApply$Flow", "made", "I", false)
  | 6 => ("FlowApply$Flow", "called", "I", false)
  | _ => ("FlowApply$Flow", "changed", "Z", false)
def fa_F2 : u_T := fun k => match k with
  | 0 => ("FlowApply$Groups", "sets", "LFlowApply$Row;", true)
  | 1 => ("FlowApply$Groups", "manies", "LFlowApply$Row;", true)
  | _ => ("FlowApply$Groups", "mates", "LFlowApply$Row;", true)
def fa_F3 : u_T := fun k => match k with
  | 0 => ("FlowApply$Machine", "frames", "LFlowApply$Row;", true)
  | 1 => ("FlowApply$Machine", "tasks", "LFlowApply$Row;", true)
  | 2 => ("FlowApply$Machine", "values", "LFlowApply$Row;", true)
  | 3 => ("FlowApply$Machine", "inside", "LFlowApply$Row;", true)
  | 4 => ("FlowApply$Machine", "framesInside", "LFlowApply$Row;", true)
  | 5 => ("FlowApply$Machine", "performed", "I", false)
  | 6 => ("FlowApply$Machine", "applicable", "I", false)
  | 7 => ("FlowApply$Machine", "ending", "I", false)
  | 8 => ("FlowApply$Machine", "result", "I", false)
  | 9 => ("FlowApply$Machine", "steps", "I", false)
  | 10 => ("FlowApply$Machine", "deep", "I", false)
  | _ => ("FlowApply$Machine", "entered", "I", false)
def fa_F4 : u_T := fun k => match k with
  | 0 => ("FlowApply$Program", "kinds", "LFlowApply$Row;", true)
  | 1 => ("FlowApply$Program", "values", "LFlowApply$Row;", true)
  | 2 => ("FlowApply$Program", "owners", "LFlowApply$Row;", true)
  | 3 => ("FlowApply$Program", "starts", "LFlowApply$Row;", true)
  | 4 => ("FlowApply$Program", "parts", "LFlowApply$Row;", true)
  | 5 => ("FlowApply$Program", "siteThings", "LFlowApply$Row;", true)
  | 6 => ("FlowApply$Program", "varNames", "LFlowApply$Row;", true)
  | 7 => ("FlowApply$Program", "binders", "LFlowApply$Row;", true)
  | 8 => ("FlowApply$Program", "globalNames", "LFlowApply$Row;", true)
  | 9 => ("FlowApply$Program", "bodies", "LFlowApply$Row;", true)
  | 10 => ("FlowApply$Program", "newFunctions", "LFlowApply$Row;", true)
  | 11 => ("FlowApply$Program", "newThings", "LFlowApply$Row;", true)
  | 12 => ("FlowApply$Program", "newSites", "LFlowApply$Row;", true)
  | 13 => ("FlowApply$Program", "globals", "I", false)
  | 14 => ("FlowApply$Program", "functions", "I", false)
  | 15 => ("FlowApply$Program", "sites", "I", false)
  | _ => ("FlowApply$Program", "main", "I", false)
def fa_F5 : u_T := fun k => match k with
  | 0 => ("FlowApply$Reader", "raw", "LFlowApply$Program;", true)
  | 1 => ("FlowApply$Reader", "text", "LFlowApply$Row;", true)
  | 2 => ("FlowApply$Reader", "scope", "LFlowApply$Row;", true)
  | 3 => ("FlowApply$Reader", "place", "I", false)
  | 4 => ("FlowApply$Reader", "token", "I", false)
  | 5 => ("FlowApply$Reader", "tokenStart", "I", false)
  | 6 => ("FlowApply$Reader", "tokenValue", "I", false)
  | 7 => ("FlowApply$Reader", "wrongAt", "I", false)
  | 8 => ("FlowApply$Reader", "nested", "I", false)
  | 9 => ("FlowApply$Reader", "things", "I", false)
  | 10 => ("FlowApply$Reader", "lambdas", "I", false)
  | 11 => ("FlowApply$Reader", "lets", "I", false)
  | _ => ("FlowApply$Reader", "owner", "I", false)
def fa_F6 : u_T := fun k => match k with
  | 0 => ("FlowApply$Row", "cells", "[I", true)
  | _ => ("FlowApply$Row", "size", "I", false)
def fa_F7 : u_T := fun k => match k with
  | 0 => ("FlowApply$Scene", "program", "LFlowApply$Program;", true)
  | 1 => ("FlowApply$Scene", "typing", "LFlowApply$Typing;", true)
  | 2 => ("FlowApply$Scene", "flow", "LFlowApply$Flow;", true)
  | _ => ("FlowApply$Scene", "groups", "LFlowApply$Groups;", true)
def fa_F8 : u_T := fun k => match k with
  | 0 => ("FlowApply$Typing", "links", "LFlowApply$Row;", true)
  | 1 => ("FlowApply$Typing", "takes", "LFlowApply$Row;", true)
  | 2 => ("FlowApply$Typing", "gives", "LFlowApply$Row;", true)
  | 3 => ("FlowApply$Typing", "shapes", "LFlowApply$Row;", true)
  | 4 => ("FlowApply$Typing", "ofThing", "LFlowApply$Row;", true)
  | 5 => ("FlowApply$Typing", "ofVar", "LFlowApply$Row;", true)
  | 6 => ("FlowApply$Typing", "ofFunction", "LFlowApply$Row;", true)
  | 7 => ("FlowApply$Typing", "pairs", "LFlowApply$Row;", true)
  | _ => ("FlowApply$Typing", "clash", "Z", false)
def fa_F9 : u_T := fun k => match k with
  | 0 => ("FlowApply$Writer", "out", "LFlowApply$Row;", true)
  | 1 => ("FlowApply$Writer", "waiting", "LFlowApply$Row;", true)
  | 2 => ("FlowApply$Writer", "openTypes", "LFlowApply$Row;", true)
  | 3 => ("FlowApply$Writer", "fields", "LFlowApply$Row;", true)
  | _ => ("FlowApply$Writer", "formSplit", "I", false)
def fa_F10 : u_T := fun k => match k with
  | 0 => ("FlowApplyModel", "thrown", "I", false)
  | 1 => ("FlowApplyModel", "tape", "[B", true)
  | 2 => ("FlowApplyModel", "taped", "I", false)
  | 3 => ("FlowApplyModel", "five", "[I", true)
  | 4 => ("FlowApplyModel", "kind", "[I", true)
  | 5 => ("FlowApplyModel", "one", "[I", true)
  | 6 => ("FlowApplyModel", "two", "[I", true)
  | 7 => ("FlowApplyModel", "three", "[I", true)
  | 8 => ("FlowApplyModel", "told", "[I", true)
  | 9 => ("FlowApplyModel", "body", "[I", true)
  | 10 => ("FlowApplyModel", "name", "[I", true)
  | 11 => ("FlowApplyModel", "homeOf", "[I", true)
  | 12 => ("FlowApplyModel", "binderName", "[I", true)
  | 13 => ("FlowApplyModel", "binderHome", "[I", true)
  | 14 => ("FlowApplyModel", "siteNode", "[I", true)
  | 15 => ("FlowApplyModel", "siteHome", "[I", true)
  | 16 => ("FlowApplyModel", "nodes", "I", false)
  | 17 => ("FlowApplyModel", "globals", "I", false)
  | 18 => ("FlowApplyModel", "lambdas", "I", false)
  | 19 => ("FlowApplyModel", "lets", "I", false)
  | 20 => ("FlowApplyModel", "sites", "I", false)
  | 21 => ("FlowApplyModel", "main", "I", false)
  | 22 => ("FlowApplyModel", "source", "[B", true)
  | 23 => ("FlowApplyModel", "text", "[B", true)
  | 24 => ("FlowApplyModel", "sourceMany", "I", false)
  | 25 => ("FlowApplyModel", "size", "I", false)
  | 26 => ("FlowApplyModel", "point", "I", false)
  | 27 => ("FlowApplyModel", "begin", "I", false)
  | 28 => ("FlowApplyModel", "faultAt", "I", false)
  | 29 => ("FlowApplyModel", "within", "I", false)
  | 30 => ("FlowApplyModel", "here", "I", false)
  | 31 => ("FlowApplyModel", "isFree", "Z", false)
  | 32 => ("FlowApplyModel", "seen", "[I", true)
  | 33 => ("FlowApplyModel", "seenMany", "I", false)
  | 34 => ("FlowApplyModel", "wordMany", "I", false)
  | 35 => ("FlowApplyModel", "things", "I", false)
  | 36 => ("FlowApplyModel", "typeSort", "[I", true)
  | 37 => ("FlowApplyModel", "typeLeft", "[I", true)
  | 38 => ("FlowApplyModel", "typeRight", "[I", true)
  | 39 => ("FlowApplyModel", "typeUp", "[I", true)
  | 40 => ("FlowApplyModel", "nodeType", "[I", true)
  | 41 => ("FlowApplyModel", "binderType", "[I", true)
  | 42 => ("FlowApplyModel", "wayMark", "[I", true)
  | 43 => ("FlowApplyModel", "types", "I", false)
  | 44 => ("FlowApplyModel", "typesWell", "Z", false)
  | 45 => ("FlowApplyModel", "ownType", "[I", true)
  | 46 => ("FlowApplyModel", "varHas", "[I", true)
  | 47 => ("FlowApplyModel", "comesOf", "[I", true)
  | 48 => ("FlowApplyModel", "siteBy", "[I", true)
  | 49 => ("FlowApplyModel", "siteWith", "[I", true)
  | 50 => ("FlowApplyModel", "siteOf", "[I", true)
  | 51 => ("FlowApplyModel", "isLooked", "[Z", true)
  | 52 => ("FlowApplyModel", "made", "I", false)
  | 53 => ("FlowApplyModel", "called", "I", false)
  | 54 => ("FlowApplyModel", "escapes", "I", false)
  | 55 => ("FlowApplyModel", "found", "I", false)
  | 56 => ("FlowApplyModel", "fields", "[I", true)
  | 57 => ("FlowApplyModel", "fieldMany", "[I", true)
  | 58 => ("FlowApplyModel", "groupOf", "[I", true)
  | 59 => ("FlowApplyModel", "groupMany", "[I", true)
  | 60 => ("FlowApplyModel", "calls", "[I", true)
  | 61 => ("FlowApplyModel", "ways", "[I", true)
  | 62 => ("FlowApplyModel", "ringOf", "[I", true)
  | 63 => ("FlowApplyModel", "ringSet", "[I", true)
  | 64 => ("FlowApplyModel", "rings", "I", false)
  | 65 => ("FlowApplyModel", "code", "[I", true)
  | 66 => ("FlowApplyModel", "codeBy", "[I", true)
  | 67 => ("FlowApplyModel", "entry", "[I", true)
  | 68 => ("FlowApplyModel", "codes", "I", false)
  | 69 => ("FlowApplyModel", "fault", "I", false)
  | 70 => ("FlowApplyModel", "shown", "I", false)
  | 71 => ("FlowApplyModel", "kept", "[B", true)
  | 72 => ("FlowApplyModel", "keptMany", "I", false)
  | 73 => ("FlowApplyModel", "openAs", "[I", true)
  | 74 => ("FlowApplyModel", "opens", "I", false)
  | 75 => ("FlowApplyModel", "value", "[I", true)
  | 76 => ("FlowApplyModel", "valueOf", "[I", true)
  | 77 => ("FlowApplyModel", "valueIn", "[I", true)
  | 78 => ("FlowApplyModel", "held", "[I", true)
  | 79 => ("FlowApplyModel", "heldOf", "[I", true)
  | 80 => ("FlowApplyModel", "heldIn", "[I", true)
  | 81 => ("FlowApplyModel", "frameOf", "[I", true)
  | 82 => ("FlowApplyModel", "frameUp", "[I", true)
  | 83 => ("FlowApplyModel", "stackAt", "[I", true)
  | 84 => ("FlowApplyModel", "stackFrame", "[I", true)
  | 85 => ("FlowApplyModel", "blamed", "[I", true)
  | 86 => ("FlowApplyModel", "tops", "I", false)
  | 87 => ("FlowApplyModel", "frames", "I", false)
  | 88 => ("FlowApplyModel", "deep", "I", false)
  | 89 => ("FlowApplyModel", "steps", "I", false)
  | 90 => ("FlowApplyModel", "most", "I", false)
  | 91 => ("FlowApplyModel", "entered", "I", false)
  | 92 => ("FlowApplyModel", "ends", "I", false)
  | _ => ("FlowApplyModel", "endWith", "I", false)
abbrev fa_cls : List vw_C := [("FlowApply", fa_F0, 9), ("FlowApply$Flow", fa_F1, 8), ("FlowApply$Groups", fa_F2, 3), ("FlowApply$Machine", fa_F3, 12), ("FlowApply$Program", fa_F4, 17), ("FlowApply$Reader", fa_F5, 13), ("FlowApply$Row", fa_F6, 2), ("FlowApply$Scene", fa_F7, 4), ("FlowApply$Typing", fa_F8, 9), ("FlowApply$Writer", fa_F9, 5), ("FlowApplyModel", fa_F10, 94)]
def fa_nfL : List Nat := [9, 8, 3, 12, 17, 13, 2, 4, 9, 5, 94]
def fa_fkL : List (List Nat) := [[1, 1, 1, 1, 1, 1, 2, 2, 0], [1, 1, 1, 1, 1, 0, 0, 3], [1, 1, 1], [1, 1, 1, 1, 1, 0, 0, 0, 0, 0, 0, 0], [1, 1, 1, 1, 1, 1, 1, 1, 1, 1, 1, 1, 1, 0, 0, 0, 0], [1, 1, 1, 0, 0, 0, 0, 0, 0, 0, 0, 0, 0], [1, 0], [1, 1, 1, 1], [1, 1, 1, 1, 1, 1, 1, 1, 3], [1, 1, 1, 1, 0], [0, 1, 0, 1, 1, 1, 1, 1, 1, 1, 1, 1, 1, 1, 1, 1, 0, 0, 0, 0, 0, 0, 1, 1, 0, 0, 0, 0, 0, 0, 0, 3, 1, 0, 0, 0, 1, 1, 1, 1, 1, 1, 1, 0, 3, 1, 1, 1, 1, 1, 1, 1, 0, 0, 0, 0, 1, 1, 1, 1, 1, 1, 1, 1, 0, 1, 1, 1, 0, 0, 0, 1, 0, 1, 0, 1, 1, 1, 1, 1, 1, 1, 1, 1, 1, 1, 0, 0, 0, 0, 0, 0, 0, 0]]
def fa_shL : List (Nat × Nat) := [(0, 0), (6, 0), (100, 400), (6, 0), (100, 7000), (6, 0), (100, 74), (5, 0), (4, 0), (6, 0), (100, 100), (6, 0), (100, 100), (6, 0), (100, 100), (6, 0), (100, 100), (6, 0), (100, 300), (6, 0), (100, 100), (6, 0), (100, 74), (6, 0), (100, 74), (6, 0), (100, 6), (6, 0), (100, 24), (6, 0), (100, 24), (6, 0), (100, 100), (6, 0), (100, 100), (6, 0), (100, 21), (9, 0), (6, 0), (100, 1200), (6, 0), (100, 300), (6, 0), (100, 74), (3, 0), (6, 0), (100, 7474), (6, 0), (100, 5252), (6, 0), (100, 5252), (6, 0), (100, 100), (6, 0), (100, 100), (7, 0), (4, 0), (6, 0), (100, 100), (6, 0), (100, 100), (6, 0), (100, 100), (6, 0), (100, 100), (6, 0), (100, 300), (6, 0), (100, 100), (6, 0), (100, 74), (6, 0), (100, 74), (6, 0), (100, 6), (6, 0), (100, 24), (6, 0), (100, 24), (6, 0), (100, 100), (6, 0), (100, 100), (8, 0), (6, 0), (100, 400), (6, 0), (100, 400), (6, 0), (100, 400), (6, 0), (100, 400), (6, 0), (100, 100), (6, 0), (100, 74), (6, 0), (100, 24), (6, 0), (100, 400), (1, 0), (6, 0), (100, 100), (6, 0), (100, 74), (6, 0), (100, 24), (6, 0), (100, 24), (6, 0), (100, 24), (2, 0), (6, 0), (100, 72), (6, 0), (100, 3), (6, 0), (100, 24), (7, 0), (4, 0), (6, 0), (100, 100), (6, 0), (100, 100), (6, 0), (100, 100), (6, 0), (100, 100), (6, 0), (100, 300), (6, 0), (100, 100), (6, 0), (100, 74), (6, 0), (100, 74), (6, 0), (100, 6), (6, 0), (100, 24), (6, 0), (100, 24), (6, 0), (100, 100), (6, 0), (100, 100), (8, 0), (6, 0), (100, 400), (6, 0), (100, 400), (6, 0), (100, 400), (6, 0), (100, 400), (6, 0), (100, 100), (6, 0), (100, 74), (6, 0), (100, 24), (6, 0), (100, 400), (1, 0), (6, 0), (100, 100), (6, 0), (100, 74), (6, 0), (100, 24), (6, 0), (100, 24), (6, 0), (100, 24), (2, 0), (6, 0), (100, 72), (6, 0), (100, 3), (6, 0), (100, 24), (10, 0), (101, 400), (100, 5), (100, 101), (100, 101), (100, 101), (100, 101), (100, 101), (100, 24), (100, 6), (100, 24), (100, 124), (100, 124), (100, 101), (100, 101), (101, 40000), (101, 40000), (100, 124), (100, 1200), (100, 1200), (100, 1200), (100, 1200), (100, 101), (100, 124), (100, 1200), (100, 24), (100, 124), (100, 24), (100, 101), (100, 101), (100, 101), (102, 101), (100, 2976), (100, 24), (100, 72), (100, 3), (100, 24), (100, 24), (100, 24), (100, 24), (100, 500), (100, 500), (100, 25), (101, 40000), (100, 1200), (100, 55000), (100, 55000), (100, 55000), (100, 13640), (100, 13640), (100, 13640), (100, 110), (100, 110), (100, 110), (100, 110), (100, 110), (103, 1)]
def fa_rfL : List (List Nat) := [[1, 3, 5, 7, 37, 44, 55, 118, 0], [2, 0], [], [4, 0], [], [6, 0], [], [8, 1, 35, 0, 0, 0, 0, 0, 0, 0, 0, 0, 0], [9, 11, 13, 15, 17, 19, 21, 23, 25, 27, 29, 31, 33, 0, 0, 0, 0], [10, 0], [], [12, 0], [], [14, 0], [], [16, 0], [], [18, 0], [], [20, 0], [], [22, 0], [], [24, 0], [], [26, 0], [], [28, 0], [], [30, 0], [], [32, 0], [], [34, 0], [], [36, 0], [], [3, 38, 40, 42, 0], [39, 0], [], [41, 0], [], [43, 0], [], [45, 47, 49, 51, 53, 0, 0, 0, 0, 0, 0, 0], [46, 0], [], [48, 0], [], [50, 0], [], [52, 0], [], [54, 0], [], [56, 83, 100, 111], [57, 59, 61, 63, 65, 67, 69, 71, 73, 75, 77, 79, 81, 0, 0, 0, 0], [58, 0], [], [60, 0], [], [62, 0], [], [64, 0], [], [66, 0], [], [68, 0], [], [70, 0], [], [72, 0], [], [74, 0], [], [76, 0], [], [78, 0], [], [80, 0], [], [82, 0], [], [84, 86, 88, 90, 92, 94, 96, 98, 0], [85, 0], [], [87, 0], [], [89, 0], [], [91, 0], [], [93, 0], [], [95, 0], [], [97, 0], [], [99, 0], [], [101, 103, 105, 107, 109, 0, 0, 0], [102, 0], [], [104, 0], [], [106, 0], [], [108, 0], [], [110, 0], [], [112, 114, 116], [113, 0], [], [115, 0], [], [117, 0], [], [119, 146, 163, 174], [120, 122, 124, 126, 128, 130, 132, 134, 136, 138, 140, 142, 144, 0, 0, 0, 0], [121, 0], [], [123, 0], [], [125, 0], [], [127, 0], [], [129, 0], [], [131, 0], [], [133, 0], [], [135, 0], [], [137, 0], [], [139, 0], [], [141, 0], [], [143, 0], [], [145, 0], [], [147, 149, 151, 153, 155, 157, 159, 161, 0], [148, 0], [], [150, 0], [], [152, 0], [], [154, 0], [], [156, 0], [], [158, 0], [], [160, 0], [], [162, 0], [], [164, 166, 168, 170, 172, 0, 0, 0], [165, 0], [], [167, 0], [], [169, 0], [], [171, 0], [], [173, 0], [], [175, 177, 179], [176, 0], [], [178, 0], [], [180, 0], [], [0, 182, 0, 183, 184, 185, 186, 187, 188, 189, 190, 191, 192, 193, 194, 195, 0, 0, 0, 0, 0, 0, 196, 197, 0, 0, 0, 0, 0, 0, 0, 0, 198, 0, 0, 0, 199, 200, 201, 202, 203, 204, 205, 0, 0, 206, 207, 208, 209, 210, 211, 212, 0, 0, 0, 0, 213, 214, 215, 216, 217, 218, 219, 220, 0, 221, 222, 223, 0, 0, 0, 224, 0, 225, 0, 226, 227, 228, 229, 230, 231, 232, 233, 234, 235, 236, 0, 0, 0, 0, 0, 0, 0, 0], [], [], [], [], [], [], [], [], [], [], [], [], [], [], [], [], [], [], [], [], [], [], [], [], [], [], [], [], [], [], [], [], [], [], [], [], [], [], [], [], [], [], [], [], [], [], [], [], [], [], [], [], [], [], [], []]
def fa_tmL : List (List Nat) := [[1, 3, 5, 36, 44, 55, 118, 181, 0], [0, 0], [], [2, 0], [], [4, 0], [], [32, 35, 34, 0, 0, 0, 0, 0, 0, 0, 0, 0, 0], [7, 9, 11, 13, 15, 17, 19, 21, 23, 25, 27, 29, 31, 0, 0, 0, 0], [6, 0], [], [8, 0], [], [10, 0], [], [12, 0], [], [14, 0], [], [16, 0], [], [18, 0], [], [20, 0], [], [22, 0], [], [24, 0], [], [26, 0], [], [28, 0], [], [30, 0], [], [33, 0], [], [43, 38, 40, 42, 0], [37, 0], [], [39, 0], [], [41, 0], [], [46, 48, 50, 52, 54, 0, 0, 0, 0, 0, 0, 0], [45, 0], [], [47, 0], [], [49, 0], [], [51, 0], [], [53, 0], [], [82, 99, 110, 117], [57, 59, 61, 63, 65, 67, 69, 71, 73, 75, 77, 79, 81, 0, 0, 0, 0], [56, 0], [], [58, 0], [], [60, 0], [], [62, 0], [], [64, 0], [], [66, 0], [], [68, 0], [], [70, 0], [], [72, 0], [], [74, 0], [], [76, 0], [], [78, 0], [], [80, 0], [], [84, 86, 88, 90, 92, 94, 96, 98, 0], [83, 0], [], [85, 0], [], [87, 0], [], [89, 0], [], [91, 0], [], [93, 0], [], [95, 0], [], [97, 0], [], [101, 103, 105, 107, 109, 0, 0, 0], [100, 0], [], [102, 0], [], [104, 0], [], [106, 0], [], [108, 0], [], [112, 114, 116], [111, 0], [], [113, 0], [], [115, 0], [], [145, 162, 173, 180], [120, 122, 124, 126, 128, 130, 132, 134, 136, 138, 140, 142, 144, 0, 0, 0, 0], [119, 0], [], [121, 0], [], [123, 0], [], [125, 0], [], [127, 0], [], [129, 0], [], [131, 0], [], [133, 0], [], [135, 0], [], [137, 0], [], [139, 0], [], [141, 0], [], [143, 0], [], [147, 149, 151, 153, 155, 157, 159, 161, 0], [146, 0], [], [148, 0], [], [150, 0], [], [152, 0], [], [154, 0], [], [156, 0], [], [158, 0], [], [160, 0], [], [164, 166, 168, 170, 172, 0, 0, 0], [163, 0], [], [165, 0], [], [167, 0], [], [169, 0], [], [171, 0], [], [175, 177, 179], [174, 0], [], [176, 0], [], [178, 0], [], [0, 182, 0, 183, 184, 185, 186, 187, 188, 189, 190, 191, 192, 193, 194, 195, 0, 0, 0, 0, 0, 0, 196, 197, 0, 0, 0, 0, 0, 0, 0, 0, 198, 0, 0, 0, 199, 200, 201, 202, 203, 204, 205, 0, 0, 206, 207, 208, 209, 210, 211, 212, 0, 0, 0, 0, 213, 214, 215, 216, 217, 218, 219, 220, 0, 221, 222, 223, 0, 0, 0, 224, 0, 225, 0, 226, 227, 228, 229, 230, 231, 232, 233, 234, 235, 236, 0, 0, 0, 0, 0, 0, 0, 0], [], [], [], [], [], [], [], [], [], [], [], [], [], [], [], [], [], [], [], [], [], [], [], [], [], [], [], [], [], [], [], [], [], [], [], [], [], [], [], [], [], [], [], [], [], [], [], [], [], [], [], [], [], [], [], []]
def fa_sc (z : Int) : Nat := if z = 0 then 55 else 118
def fa_nestI : List Nat := [59, 71, 72, 73, 75, 76, 77, 80, 81, 83, 84, 85, 86, 87, 92, 93, 94, 95, 97, 98, 99, 100, 101, 103, 104, 105, 106, 108, 109, 110, 111, 112, 151, 243, 245, 247, 249, 251, 279, 284, 287, 298, 299, 302, 326, 333, 335, 337, 340, 342, 343, 345, 346, 347, 368, 385, 386, 387, 389, 390, 392, 393, 394, 396, 397, 398, 530, 543, 598, 600, 620, 729, 880, 927, 1085, 1086, 1087, 1088, 1089, 1090, 1091, 1157, 1186, 1215, 1293, 1381, 1393, 1405, 1435, 2238, 2239, 2240, 2241, 2242, 2243, 2244, 2245, 2246, 2247, 2248, 2249, 2250, 2251, 2252, 2253, 2254]
def fa_strI : List (String × Nat × String × Nat) := [("FlowApply$Writer", 54, "fun ", 0), ("FlowApply$Writer", 67, " ", 1), ("FlowApply$Writer", 72, "=", 2), ("FlowApply$Writer", 81, ";", 3), ("FlowApply$Writer", 122, "", 4), ("FlowApply$Writer", 124, "}", 5), ("FlowApply$Writer", 126, "|", 6), ("FlowApply$Writer", 128, "a", 7), ("FlowApply$Writer", 133, ":{", 8), ("FlowApply$Writer", 139, ".", 9), ("FlowApply$Writer", 182, "dead", 10), ("FlowApply$Writer", 184, "(\\", 11), ("FlowApply$Writer", 186, ")", 12), ("FlowApply$Writer", 188, "C", 13), ("FlowApply$Writer", 190, "(", 14), ("FlowApply$Writer", 196, ",", 15), ("FlowApply$Writer", 198, "(if ", 16), ("FlowApply$Writer", 200, " then ", 17), ("FlowApply$Writer", 202, " else ", 18), ("FlowApply$Writer", 204, "(let ", 19), ("FlowApply$Writer", 206, " in ", 20), ("FlowApply$Writer", 212, "an", 21), ("FlowApply", 95, "the text is wrong", 22), ("FlowApply", 112, "the program does not type", 23), ("FlowApply", 192, "no such what of a function", 24), ("FlowApply", 197, "no such function", 25), ("FlowApply", 204, "no such field", 26), ("FlowApply", 240, "no such site", 27), ("FlowApply", 269, "no such what of a site", 28), ("FlowApply", 271, "no such what of a split", 29), ("FlowApply", 285, "no such split", 30), ("FlowApply", 287, "no such group", 31), ("FlowApply", 295, "no such what of a run", 32), ("FlowApply", 316, "no such how", 33), ("FlowApply", 335, "no such ring", 34)]
def fa_lens : List Nat := [4, 1, 1, 1, 0, 1, 1, 1, 2, 1, 4, 2, 1, 1, 1, 1, 4, 6, 6, 5, 4, 2, 17, 25, 26, 16, 13, 12, 22, 23, 13, 13, 21, 11, 12]
def fa_byts : List (List Int32) := [[102, 117, 110, 32], [32], [61], [59], [], [125], [124], [97], [58, 123], [46], [100, 101, 97, 100], [40, 92], [41], [67], [40], [44], [40, 105, 102, 32], [32, 116, 104, 101, 110, 32], [32, 101, 108, 115, 101, 32], [40, 108, 101, 116, 32], [32, 105, 110, 32], [97, 110], [116, 104, 101, 32, 116, 101, 120, 116, 32, 105, 115, 32, 119, 114, 111, 110, 103], [116, 104, 101, 32, 112, 114, 111, 103, 114, 97, 109, 32, 100, 111, 101, 115, 32, 110, 111, 116, 32, 116, 121, 112, 101], [110, 111, 32, 115, 117, 99, 104, 32, 119, 104, 97, 116, 32, 111, 102, 32, 97, 32, 102, 117, 110, 99, 116, 105, 111, 110], [110, 111, 32, 115, 117, 99, 104, 32, 102, 117, 110, 99, 116, 105, 111, 110], [110, 111, 32, 115, 117, 99, 104, 32, 102, 105, 101, 108, 100], [110, 111, 32, 115, 117, 99, 104, 32, 115, 105, 116, 101], [110, 111, 32, 115, 117, 99, 104, 32, 119, 104, 97, 116, 32, 111, 102, 32, 97, 32, 115, 105, 116, 101], [110, 111, 32, 115, 117, 99, 104, 32, 119, 104, 97, 116, 32, 111, 102, 32, 97, 32, 115, 112, 108, 105, 116], [110, 111, 32, 115, 117, 99, 104, 32, 115, 112, 108, 105, 116], [110, 111, 32, 115, 117, 99, 104, 32, 103, 114, 111, 117, 112], [110, 111, 32, 115, 117, 99, 104, 32, 119, 104, 97, 116, 32, 111, 102, 32, 97, 32, 114, 117, 110], [110, 111, 32, 115, 117, 99, 104, 32, 104, 111, 119], [110, 111, 32, 115, 117, 99, 104, 32, 114, 105, 110, 103]]
def fa_ncL : List (String × String) := [("FlowApply", "java/lang/IllegalArgumentException"), ("FlowApply", "java/lang/IllegalStateException"), ("FlowApply", "java/lang/IndexOutOfBoundsException"), ("FlowApply", "java/util/NoSuchElementException"), ("FlowApply$Flow", "java/lang/IllegalArgumentException"), ("FlowApply$Flow", "java/lang/IllegalStateException"), ("FlowApply$Flow", "java/lang/IndexOutOfBoundsException"), ("FlowApply$Flow", "java/util/NoSuchElementException"), ("FlowApply$Groups", "java/lang/IllegalArgumentException"), ("FlowApply$Groups", "java/lang/IllegalStateException"), ("FlowApply$Groups", "java/lang/IndexOutOfBoundsException"), ("FlowApply$Groups", "java/util/NoSuchElementException"), ("FlowApply$Machine", "java/lang/IllegalArgumentException"), ("FlowApply$Machine", "java/lang/IllegalStateException"), ("FlowApply$Machine", "java/lang/IndexOutOfBoundsException"), ("FlowApply$Machine", "java/util/NoSuchElementException"), ("FlowApply$Program", "java/lang/IllegalArgumentException"), ("FlowApply$Program", "java/lang/IllegalStateException"), ("FlowApply$Program", "java/lang/IndexOutOfBoundsException"), ("FlowApply$Program", "java/util/NoSuchElementException"), ("FlowApply$Reader", "java/lang/IllegalArgumentException"), ("FlowApply$Reader", "java/lang/IllegalStateException"), ("FlowApply$Reader", "java/lang/IndexOutOfBoundsException"), ("FlowApply$Reader", "java/util/NoSuchElementException"), ("FlowApply$Row", "java/lang/IllegalArgumentException"), ("FlowApply$Row", "java/lang/IllegalStateException"), ("FlowApply$Row", "java/lang/IndexOutOfBoundsException"), ("FlowApply$Row", "java/util/NoSuchElementException"), ("FlowApply$Scene", "java/lang/IllegalArgumentException"), ("FlowApply$Scene", "java/lang/IllegalStateException"), ("FlowApply$Scene", "java/lang/IndexOutOfBoundsException"), ("FlowApply$Scene", "java/util/NoSuchElementException"), ("FlowApply$Typing", "java/lang/IllegalArgumentException"), ("FlowApply$Typing", "java/lang/IllegalStateException"), ("FlowApply$Typing", "java/lang/IndexOutOfBoundsException"), ("FlowApply$Typing", "java/util/NoSuchElementException"), ("FlowApply$Writer", "java/lang/IllegalArgumentException"), ("FlowApply$Writer", "java/lang/IllegalStateException"), ("FlowApply$Writer", "java/lang/IndexOutOfBoundsException"), ("FlowApply$Writer", "java/util/NoSuchElementException"), ("FlowApplyModel", "java/lang/IllegalArgumentException"), ("FlowApplyModel", "java/lang/IllegalStateException"), ("FlowApplyModel", "java/lang/IndexOutOfBoundsException"), ("FlowApplyModel", "java/util/NoSuchElementException"), ("java/lang/IllegalArgumentException", "java/lang/IllegalStateException"), ("java/lang/IllegalArgumentException", "java/lang/IndexOutOfBoundsException"), ("java/lang/IllegalArgumentException", "java/util/NoSuchElementException"), ("java/lang/IllegalStateException", "java/lang/IllegalArgumentException"), ("java/lang/IllegalStateException", "java/lang/IndexOutOfBoundsException"), ("java/lang/IllegalStateException", "java/util/NoSuchElementException"), ("java/lang/IndexOutOfBoundsException", "java/lang/IllegalArgumentException"), ("java/lang/IndexOutOfBoundsException", "java/lang/IllegalStateException"), ("java/lang/IndexOutOfBoundsException", "java/util/NoSuchElementException"), ("java/util/NoSuchElementException", "java/lang/IllegalArgumentException"), ("java/util/NoSuchElementException", "java/lang/IllegalStateException"), ("java/util/NoSuchElementException", "java/lang/IndexOutOfBoundsException")]
def fa_stat : List (String × Int32) := [("FUN", 4955), ("IFS", 249), ("THEN", 399641), ("ELSE", 107681), ("LETS_IN", 257), ("LET_WORD", 8903), ("DEADS", 82408)]
/-! THE WORLD: every object and array by its number; Int contents; a word list -/
def fa_nf (ci : Nat) : Nat := fa_nfL.getD ci 0
def fa_fk (ci k : Nat) : Nat := (fa_fkL.getD ci []).getD k 0
def fa_sh (o : Nat) : Nat × Nat := fa_shL.getD o (99, 0)
def fa_rf (o k : Nat) : Nat := (fa_rfL.getD o []).getD k 0
def fa_tm (o k : Nat) : Nat := (fa_tmL.getD o []).getD k 0
abbrev fa_W : Type := Nat → Nat → Int
abbrev fa_I (x : Int) : Int32 := Int32.ofInt x
def fa_wr (x : Int) : Int := (fa_I x).toInt
theorem fa_I_wr (x : Int) : fa_I (fa_wr x) = fa_I x := Int32.ofInt_toInt _
def fa_bi (b : Bool) : Int := if b then 1 else 0
def fa_st (w : fa_W) (o k : Nat) (v : Int) : fa_W := fun o' k' => if o' = o ∧ k' = k then v else w o' k'
theorem fa_st_eq (w : fa_W) (o k : Nat) (v : Int) : fa_st w o k v o k = v := by simp [fa_st]
theorem fa_st_ne {w : fa_W} {o k : Nat} {v : Int} {o' k' : Nat} (h : ¬ (o' = o ∧ k' = k)) : fa_st w o k v o' k' = w o' k' := by simp only [fa_st, if_neg h]
theorem fa_st_row {w : fa_W} {o k : Nat} {v : Int} {o' : Nat} (h : o' ≠ o) : fa_st w o k v o' = w o' := by
  funext k'
  exact fa_st_ne (fun q => h q.1)
def fa_fv (ci b T : Nat) (w : fa_W) (o k : Nat) : Value := match fa_fk ci k with
  | 0 => .int (fa_I (w o k))
  | 1 => if fa_tm o k < T then .ref (b + fa_rf o k) else .null
  | 2 => if fa_tm o k < T then .ref (b + fa_sc (w o k)) else .null
  | _ => .int (fa_I (fa_bi (decide (w o k ≠ 0))))
def fa_fs (ci b T : Nat) (w : fa_W) (o : Nat) : List Value := (List.range (fa_nf ci)).map (fun k => fa_fv ci b T w o k)
def fa_ent (b : Nat) (aC : Nat → ClassId) (T : Nat) (w : fa_W) (o : Nat) : va_E := match (fa_sh o).1 with
  | 100 => .inl (aC 0, (fa_sh o).2, .inl (fun j => fa_I (w o j)))
  | 101 => .inl (aC 1, (fa_sh o).2, .inl (fun j => fa_I (w o j)))
  | 102 => .inl (aC 2, (fa_sh o).2, .inl (fun j => fa_I (fa_bi (decide (w o j ≠ 0)))))
  | 103 => .inl (aC 3, (fa_sh o).2, .inr (.inl (fun j => Int64.ofInt (w o j))))
  | ci => .inr (ci, fa_fs ci b T w o)
def fa_ws (b : Nat) (aC : Nat → ClassId) (N T : Nat) (w : fa_W) : va_W := (List.range N).map (fun o => (b + o, fa_ent b aC T w o))
def fa_tys (aC : Nat → ClassId) : List (ClassId × FieldType) := [(aC 0, .int), (aC 1, .byte), (aC 2, .boolean), (aC 3, .long)]
theorem fa_ws_get {b : Nat} {aC : Nat → ClassId} {N T : Nat} {w : fa_W} {o : Nat} (h : o < N) : (fa_ws b aC N T w)[o]? = some (b + o, fa_ent b aC T w o) := by
  simp [fa_ws, h]
theorem fa_ws_len (b : Nat) (aC : Nat → ClassId) (N T : Nat) (w : fa_W) : (fa_ws b aC N T w).length = N := by simp [fa_ws]
theorem fa_ws_set {b : Nat} {aC : Nat → ClassId} {N T : Nat} {w w' : fa_W} {o : Nat} {e : va_E} (he : fa_ent b aC T w' o = e) (hw : ∀ o', o' ≠ o → w' o' = w o') : (fa_ws b aC N T w).set o (b + o, e) = fa_ws b aC N T w' := by
  apply List.ext_getElem?
  intro j
  by_cases hj : j < N
  · by_cases hjo : j = o
    · subst hjo
      rw [fa_ws_get hj, List.getElem?_set_self (by rw [fa_ws_len]; exact hj), he]
    · rw [List.getElem?_set_ne (fun q => hjo q.symm), fa_ws_get hj, fa_ws_get hj]
      have h2 := hw j hjo
      simp only [fa_ent, fa_fs, fa_fv, h2]
  · rw [List.getElem?_eq_none (by rw [List.length_set, fa_ws_len]; omega), List.getElem?_eq_none (by rw [fa_ws_len]; omega)]
theorem fa_D (b : Nat) (aC : Nat → ClassId) (N T : Nat) (w : fa_W) : va_D (fun q => b ≤ q) (fa_ws b aC N T w) := by
  constructor
  · intro i j p q hp hq e
    have hi : i < N := by have := (List.getElem?_eq_some_iff.mp hp).1; rwa [fa_ws_len] at this
    have hj : j < N := by have := (List.getElem?_eq_some_iff.mp hq).1; rwa [fa_ws_len] at this
    rw [fa_ws_get hi] at hp
    rw [fa_ws_get hj] at hq
    cases hp
    cases hq
    exact Nat.add_left_cancel e
  · intro k q hk
    have hi : k < N := by have := (List.getElem?_eq_some_iff.mp hk).1; rwa [fa_ws_len] at this
    rw [fa_ws_get hi] at hk
    cases hk
    exact Nat.le_add_right _ _
theorem fa_ent_obj {b : Nat} {aC : Nat → ClassId} {T : Nat} {w : fa_W} {o ci : Nat} (h : (fa_sh o).1 = ci) (hc : ci < 100) : fa_ent b aC T w o = .inr (ci, fa_fs ci b T w o) := by
  unfold fa_ent
  subst h
  split <;> first | omega | rfl
theorem fa_fs_get {ci b T : Nat} {w : fa_W} {o k : Nat} (h : k < fa_nf ci) : (fa_fs ci b T w o)[k]? = some (fa_fv ci b T w o k) := by simp [fa_fs, h]
theorem fa_fs_set {ci b T T' : Nat} {w w' : fa_W} {o k : Nat} {v : Value} (hv : fa_fv ci b T' w' o k = v) (ho : ∀ j, j < fa_nf ci → j ≠ k → fa_fv ci b T' w' o j = fa_fv ci b T w o j) : (fa_fs ci b T w o).set k v = fa_fs ci b T' w' o := by
  apply List.ext_getElem?
  intro j
  by_cases hj : j < fa_nf ci
  · by_cases hjo : j = k
    · subst hjo
      rw [fa_fs_get hj, List.getElem?_set_self (by simpa [fa_fs] using hj), hv]
    · rw [List.getElem?_set_ne (fun q => hjo q.symm), fa_fs_get hj, fa_fs_get hj, ho j hj hjo]
  · rw [List.getElem?_eq_none (by simp [fa_fs]; omega), List.getElem?_eq_none (by simp [fa_fs]; omega)]
def fa_GS (D : va_G) (b : Nat) (aC : Nat → ClassId) (H0 : Heap) (N T : Nat) (w : fa_W) (H : Heap) : Prop :=
  va_P D fa_cls (fa_ws b aC N T w) H ∧ b + N ≤ H.size ∧ ∀ q, q < b → H[q]? = H0[q]?
/-- the tables' words that hold wherever classes are as they are -/
def fa_wG : List Cond := lw_tbl.filter goodWord
theorem fa_in {w : Cond} (h : w ∈ lw_tbl) (g : goodWord w = true) : w ∈ fa_wG := List.mem_filter.mpr ⟨h, g⟩
theorem fa_it {w : Cond} (h : w ∈ tables_1) (g : goodWord w = true) : w ∈ fa_wG := fa_in (List.mem_append_right _ h) g
theorem fa_good : GoodIn fa_wG fa_wG := fun _ h => ⟨h, good_of_word (List.mem_filter.mp h).2⟩
def fa_nest : List Cond := fa_nestI.filterMap (fun i => tables_1[i]?)
/-- the text constants: where they lie, what they hold -/
def fa_ST (D : va_G) (A : Nat → Prop) (U : State) (H : Heap) : Prop := ∀ i, i < fa_lens.length → va_O "java/lang/String" (D.2 100 i) A U H ∧ va_OF "java/lang/String" "coder" "B" (.int 0) (D.2 100 i) A U H ∧ va_OF "java/lang/String" "value" "[B" (.ref (D.2 101 i)) (D.2 100 i) A U H ∧ va_T .byte (D.2 101 i) (fa_lens.getD i 0) (fun j => .int ((fa_byts.getD i []).getD j 0)) A U H
/-- what is known of the old heap -/
def fa_GH (D : va_G) (b : Nat) (U : State) (H : Heap) : Prop :=
  (∀ z ∈ fa_stat, va_Z "FlowApplyModel" z.1 "I" (.int z.2) (fun q => b ≤ q) U H) ∧ fa_ST D (fun q => b ≤ q) U H ∧ va_Z "java/lang/String" "COMPACT_STRINGS" "Z" (.int 1) (fun q => b ≤ q) U H ∧ va_Zq "jdk/internal/util/Preconditions" "SIOOBE_FORMATTER" "Ljava/util/function/BiFunction;" (fun q => b ≤ q) U H ∧ vx_Zq Bundle.tN "UNASSIGNED_STACK" Bundle.steD (fun q => b ≤ q) U H ∧ vx_Zq Bundle.tN "SUPPRESSED_SENTINEL" Bundle.listD (fun q => b ≤ q) U H
/-- what is known of the classes wherever the machine stands -/
def fa_GK (D : va_G) (b : Nat) (aC : Nat → ClassId) (U : State) : Prop :=
  va_K D fa_cls (fa_tys aC) U ∧ (∀ w ∈ fa_nest, va_Nw w U) ∧ fa_GH D b U U.heap ∧ (∀ r ∈ fa_strI, vk_R r.1 r.2.1 r.2.2.1 (D.2 100 r.2.2.2) U) ∧ ∀ q ∈ fa_ncL, va_Nc q.1 q.2 U
theorem fa_GH.moved {D : va_G} {b : Nat} {u U : State} {H : Heap} (hvm : u.vm.Alike U.vm) (h : fa_GH D b u H) : fa_GH D b U H :=
  ⟨fun z hz => va_Z.moved hvm (h.1 z hz), fun i hi => ⟨va_O.moved hvm (h.2.1 i hi).1, va_OF.moved hvm (h.2.1 i hi).2.1, va_OF.moved hvm (h.2.1 i hi).2.2.1, va_T.moved hvm (h.2.1 i hi).2.2.2⟩, va_Z.moved hvm h.2.2.1, va_Zq.moved hvm h.2.2.2.1, vx_Zq.moved hvm h.2.2.2.2.1, vx_Zq.moved hvm h.2.2.2.2.2⟩
theorem fa_GH.kept {D : va_G} {b : Nat} {U : State} {H H1 : Heap} (h : fa_GH D b U H) (hq : ∀ a : Nat, a < H.size → ¬ b ≤ a → H1[a]? = H[a]?) : fa_GH D b U H1 :=
  ⟨fun z hz => va_Z.kept (h.1 z hz) hq, fun i hi => ⟨va_O.kept (h.2.1 i hi).1 hq, va_OF.kept (h.2.1 i hi).2.1 hq, va_OF.kept (h.2.1 i hi).2.2.1 hq, va_T.kept (h.2.1 i hi).2.2.2 hq⟩, va_Z.kept h.2.2.1 hq, va_Zq.kept h.2.2.2.1 hq, vx_Zq.kept h.2.2.2.2.1 hq, vx_Zq.kept h.2.2.2.2.2 hq⟩
