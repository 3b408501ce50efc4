/-! tables, printed by wip/whole/gen/tabs.py -/
def TW : List Cond := lw_tbl.filter goodWord
def isNest : Cond → Bool
  | .fieldLinkNest .. => true
  | _ => false
def NWl : List Cond := lw_tbl.filter isNest
theorem tw_i {w : Cond} (i : Nat) (h : lw_tbl[i]? = some w) (g : goodWord w = true) : w ∈ TW := List.mem_filter.mpr ⟨List.mem_of_getElem? h, g⟩
theorem nw_i {w : Cond} (i : Nat) (h : lw_tbl[i]? = some w) (g : isNest w = true) : w ∈ NWl := List.mem_filter.mpr ⟨List.mem_of_getElem? h, g⟩
theorem tw_t1 {w : Cond} (i : Nat) (h : tables_1_1[i]? = some w) (g : goodWord w = true) : w ∈ TW := List.mem_filter.mpr ⟨List.mem_append_right _ (List.mem_append_left _ (List.mem_of_getElem? h)), g⟩
theorem tw_t2 {w : Cond} (i : Nat) (h : tables_1_2[i]? = some w) (g : goodWord w = true) : w ∈ TW := List.mem_filter.mpr ⟨List.mem_append_right _ (List.mem_append_right _ (List.mem_append_left _ (List.mem_of_getElem? h))), g⟩
theorem tw_t3 {w : Cond} (i : Nat) (h : tables_1_3[i]? = some w) (g : goodWord w = true) : w ∈ TW := List.mem_filter.mpr ⟨List.mem_append_right _ (List.mem_append_right _ (List.mem_append_right _ (List.mem_append_left _ (List.mem_of_getElem? h)))), g⟩
theorem tw_t4 {w : Cond} (i : Nat) (h : tables_1_4[i]? = some w) (g : goodWord w = true) : w ∈ TW := List.mem_filter.mpr ⟨List.mem_append_right _ (List.mem_append_right _ (List.mem_append_right _ (List.mem_append_right _ (List.mem_append_left _ (List.mem_of_getElem? h))))), g⟩
theorem tw_t5 {w : Cond} (i : Nat) (h : tables_1_5[i]? = some w) (g : goodWord w = true) : w ∈ TW := List.mem_filter.mpr ⟨List.mem_append_right _ (List.mem_append_right _ (List.mem_append_right _ (List.mem_append_right _ (List.mem_append_right _ (List.mem_append_left _ (List.mem_of_getElem? h)))))), g⟩
theorem tw_t6 {w : Cond} (i : Nat) (h : tables_1_6[i]? = some w) (g : goodWord w = true) : w ∈ TW := List.mem_filter.mpr ⟨List.mem_append_right _ (List.mem_append_right _ (List.mem_append_right _ (List.mem_append_right _ (List.mem_append_right _ (List.mem_append_right _ (List.mem_append_left _ (List.mem_of_getElem? h))))))), g⟩
theorem tw_t7 {w : Cond} (i : Nat) (h : tables_1_7[i]? = some w) (g : goodWord w = true) : w ∈ TW := List.mem_filter.mpr ⟨List.mem_append_right _ (List.mem_append_right _ (List.mem_append_right _ (List.mem_append_right _ (List.mem_append_right _ (List.mem_append_right _ (List.mem_append_right _ (List.mem_append_left _ (List.mem_of_getElem? h)))))))), g⟩
theorem tw_t8 {w : Cond} (i : Nat) (h : tables_1_8[i]? = some w) (g : goodWord w = true) : w ∈ TW := List.mem_filter.mpr ⟨List.mem_append_right _ (List.mem_append_right _ (List.mem_append_right _ (List.mem_append_right _ (List.mem_append_right _ (List.mem_append_right _ (List.mem_append_right _ (List.mem_append_right _ (List.mem_append_left _ (List.mem_of_getElem? h))))))))), g⟩
theorem tw_t9 {w : Cond} (i : Nat) (h : tables_1_9[i]? = some w) (g : goodWord w = true) : w ∈ TW := List.mem_filter.mpr ⟨List.mem_append_right _ (List.mem_append_right _ (List.mem_append_right _ (List.mem_append_right _ (List.mem_append_right _ (List.mem_append_right _ (List.mem_append_right _ (List.mem_append_right _ (List.mem_append_right _ (List.mem_of_getElem? h))))))))), g⟩
theorem tw_p1 {q : MethodName × Nat} (i : Nat) (h : lw_privs_1[i]? = some q) : Cond.selects q.1.cls q.1 q.1 ∈ TW := List.mem_filter.mpr ⟨List.mem_append_left _ (List.mem_map.mpr ⟨q, List.mem_append_left _ (List.mem_of_getElem? h), rfl⟩), rfl⟩
theorem tw_p2 {q : MethodName × Nat} (i : Nat) (h : lw_privs_2[i]? = some q) : Cond.selects q.1.cls q.1 q.1 ∈ TW := List.mem_filter.mpr ⟨List.mem_append_left _ (List.mem_map.mpr ⟨q, List.mem_append_right _ (List.mem_append_left _ (List.mem_of_getElem? h)), rfl⟩), rfl⟩
theorem tw_p3 {q : MethodName × Nat} (i : Nat) (h : lw_privs_3[i]? = some q) : Cond.selects q.1.cls q.1 q.1 ∈ TW := List.mem_filter.mpr ⟨List.mem_append_left _ (List.mem_map.mpr ⟨q, List.mem_append_right _ (List.mem_append_right _ (List.mem_append_left _ (List.mem_of_getElem? h))), rfl⟩), rfl⟩
theorem tw_p4 {q : MethodName × Nat} (i : Nat) (h : lw_privs_4[i]? = some q) : Cond.selects q.1.cls q.1 q.1 ∈ TW := List.mem_filter.mpr ⟨List.mem_append_left _ (List.mem_map.mpr ⟨q, List.mem_append_right _ (List.mem_append_right _ (List.mem_append_right _ (List.mem_append_left _ (List.mem_of_getElem? h)))), rfl⟩), rfl⟩
theorem tw_p5 {q : MethodName × Nat} (i : Nat) (h : lw_privs_5[i]? = some q) : Cond.selects q.1.cls q.1 q.1 ∈ TW := List.mem_filter.mpr ⟨List.mem_append_left _ (List.mem_map.mpr ⟨q, List.mem_append_right _ (List.mem_append_right _ (List.mem_append_right _ (List.mem_append_right _ (List.mem_append_left _ (List.mem_of_getElem? h))))), rfl⟩), rfl⟩
theorem tw_p6 {q : MethodName × Nat} (i : Nat) (h : lw_privs_6[i]? = some q) : Cond.selects q.1.cls q.1 q.1 ∈ TW := List.mem_filter.mpr ⟨List.mem_append_left _ (List.mem_map.mpr ⟨q, List.mem_append_right _ (List.mem_append_right _ (List.mem_append_right _ (List.mem_append_right _ (List.mem_append_right _ (List.mem_append_left _ (List.mem_of_getElem? h)))))), rfl⟩), rfl⟩
theorem tw_p7 {q : MethodName × Nat} (i : Nat) (h : lw_privs_7[i]? = some q) : Cond.selects q.1.cls q.1 q.1 ∈ TW := List.mem_filter.mpr ⟨List.mem_append_left _ (List.mem_map.mpr ⟨q, List.mem_append_right _ (List.mem_append_right _ (List.mem_append_right _ (List.mem_append_right _ (List.mem_append_right _ (List.mem_append_right _ (List.mem_append_left _ (List.mem_of_getElem? h))))))), rfl⟩), rfl⟩
theorem tw_p8 {q : MethodName × Nat} (i : Nat) (h : lw_privs_8[i]? = some q) : Cond.selects q.1.cls q.1 q.1 ∈ TW := List.mem_filter.mpr ⟨List.mem_append_left _ (List.mem_map.mpr ⟨q, List.mem_append_right _ (List.mem_append_right _ (List.mem_append_right _ (List.mem_append_right _ (List.mem_append_right _ (List.mem_append_right _ (List.mem_append_right _ (List.mem_of_getElem? h))))))), rfl⟩), rfl⟩
def cn (k : Nat) : String := match k with
  | 0 => "CoachWaits"
  | 1 => "CoachWaits$Tokens"
  | 2 => "CoachWaits$Road"
  | 3 => "CoachWaits$Reader"
  | 4 => "CoachWaits$Stand"
  | 5 => "CoachWaits$Going"
  | 6 => "CoachWaits$Law"
  | 7 => "CoachWaits$Rings"
  | 8 => "CoachWaits$Branches"
  | 9 => "CoachWaits$Past"
  | 10 => "CoachWaits$Tray"
  | 11 => "CoachWaitsModel"
  | 12 => "CoachWaitsLaw"
  | 20 => "java/lang/String"
  | 21 => "java/lang/StringLatin1"
  | 22 => "java/lang/Math"
  | 23 => "java/lang/Integer"
  | 24 => "java/util/Arrays"
  | 25 => "java/lang/System"
  | 26 => "java/lang/StringUTF16"
  | 27 => "jdk/internal/util/Preconditions"
  | _ => ""
def mT0 : u_T := fun k => match k with
  | 0 => ("CoachWaits", "tape", "LCoachWaits$Tokens;", true)
  | 1 => ("CoachWaits", "told", "LCoachWaits$Road;", true)
  | 2 => ("CoachWaits", "draft", "LCoachWaits$Road;", true)
  | 3 => ("CoachWaits", "reader", "LCoachWaits$Reader;", true)
  | 4 => ("CoachWaits", "now", "LCoachWaits$Stand;", true)
  | 5 => ("CoachWaits", "ahead", "LCoachWaits$Stand;", true)
  | 6 => ("CoachWaits", "probe", "LCoachWaits$Stand;", true)
  | 7 => ("CoachWaits", "going", "LCoachWaits$Going;", true)
  | 8 => ("CoachWaits", "ringed", "LCoachWaits$Rings;", true)
  | 9 => ("CoachWaits", "branches", "LCoachWaits$Branches;", true)
  | 10 => ("CoachWaits", "past", "LCoachWaits$Past;", true)
  | 11 => ("CoachWaits", "trays", "[LCoachWaits$Tray;", true)
  | 12 => ("CoachWaits", "imageRoads", "[LCoachWaits$Road;", true)
  | 13 => ("CoachWaits", "imageStands", "[LCoachWaits$Stand;", true)
  | 14 => ("CoachWaits", "imageMade", "[Z", true)
  | _ => ("CoachWaits", "firstLate", "[I", true)
def mT1 : u_T := fun k => match k with
  | 0 => ("CoachWaits$Tokens", "bytes", "[B", true)
  | 1 => ("CoachWaits$Tokens", "filled", "I", false)
  | 2 => ("CoachWaits$Tokens", "end", "I", false)
  | 3 => ("CoachWaits$Tokens", "start", "I", false)
  | 4 => ("CoachWaits$Tokens", "next", "I", false)
  | 5 => ("CoachWaits$Tokens", "kind", "I", false)
  | _ => ("CoachWaits$Tokens", "value", "I", false)
def mT2 : u_T := fun k => match k with
  | 0 => ("CoachWaits$Road", "hour", "[I", true)
  | 1 => ("CoachWaits$Road", "patience", "[I", true)
  | 2 => ("CoachWaits$Road", "from", "[I", true)
  | 3 => ("CoachWaits$Road", "to", "[I", true)
  | 4 => ("CoachWaits$Road", "takes", "[I", true)
  | 5 => ("CoachWaits$Road", "lag", "[I", true)
  | 6 => ("CoachWaits$Road", "code", "[I", true)
  | 7 => ("CoachWaits$Road", "codeSize", "I", false)
  | 8 => ("CoachWaits$Road", "period", "I", false)
  | 9 => ("CoachWaits$Road", "firstMud", "I", false)
  | 10 => ("CoachWaits$Road", "coaches", "I", false)
  | 11 => ("CoachWaits$Road", "waits", "I", false)
  | 12 => ("CoachWaits$Road", "lines", "I", false)
  | 13 => ("CoachWaits$Road", "takesBegin", "I", false)
  | 14 => ("CoachWaits$Road", "takesEnd", "I", false)
  | 15 => ("CoachWaits$Road", "waitsBegin", "I", false)
  | _ => ("CoachWaits$Road", "waitsEnd", "I", false)
def mT3 : u_T := fun k => match k with
  | 0 => ("CoachWaits$Reader", "tokens", "LCoachWaits$Tokens;", true)
  | 1 => ("CoachWaits$Reader", "into", "LCoachWaits$Road;", true)
  | 2 => ("CoachWaits$Reader", "kind", "I", false)
  | 3 => ("CoachWaits$Reader", "place", "I", false)
  | _ => ("CoachWaits$Reader", "inWaits", "Z", false)
def mT4 : u_T := fun k => match k with
  | 0 => ("CoachWaits$Stand", "last", "[I", true)
  | 1 => ("CoachWaits$Stand", "earlier", "[I", true)
  | 2 => ("CoachWaits$Stand", "held", "[I", true)
  | 3 => ("CoachWaits$Stand", "mudNow", "I", false)
  | _ => ("CoachWaits$Stand", "roundsMade", "I", false)
def mT5 : u_T := fun k => match k with
  | 0 => ("CoachWaits$Going", "road", "LCoachWaits$Road;", true)
  | 1 => ("CoachWaits$Going", "law", "LCoachWaits$Law;", true)
  | 2 => ("CoachWaits$Going", "time", "[I", true)
  | 3 => ("CoachWaits$Going", "gap", "[I", true)
  | 4 => ("CoachWaits$Going", "order", "[I", true)
  | 5 => ("CoachWaits$Going", "fresh", "[I", true)
  | 6 => ("CoachWaits$Going", "cause", "[I", true)
  | 7 => ("CoachWaits$Going", "known", "[I", true)
  | _ => ("CoachWaits$Going", "mudReckoned", "I", false)
def mT6 : u_T := fun k => match k with
  | 0 => ("CoachWaits$Law", "names", "[I", true)
  | 1 => ("CoachWaits$Law", "stack", "[I", true)
  | _ => ("CoachWaits$Law", "top", "I", false)
def mT7 : u_T := fun k => match k with
  | 0 => ("CoachWaits$Rings", "road", "LCoachWaits$Road;", true)
  | 1 => ("CoachWaits$Rings", "going", "LCoachWaits$Going;", true)
  | 2 => ("CoachWaits$Rings", "now", "LCoachWaits$Stand;", true)
  | 3 => ("CoachWaits$Rings", "rings", "[I", true)
  | 4 => ("CoachWaits$Rings", "over", "[I", true)
  | 5 => ("CoachWaits$Rings", "hours", "[I", true)
  | _ => ("CoachWaits$Rings", "found", "I", false)
def mT8 : u_T := fun k => match k with
  | 0 => ("CoachWaits$Branches", "road", "LCoachWaits$Road;", true)
  | 1 => ("CoachWaits$Branches", "going", "LCoachWaits$Going;", true)
  | 2 => ("CoachWaits$Branches", "levels", "[LCoachWaits$Stand;", true)
  | _ => ("CoachWaits$Branches", "deeds", "[I", true)
def mT9 : u_T := fun k => match k with
  | 0 => ("CoachWaits$Past", "stands", "[LCoachWaits$Stand;", true)
  | 1 => ("CoachWaits$Past", "eldest", "I", false)
  | _ => ("CoachWaits$Past", "kept", "I", false)
def mT10 : u_T := fun k => match k with
  | 0 => ("CoachWaits$Tray", "numbers", "[J", true)
  | 1 => ("CoachWaits$Tray", "sort", "I", false)
  | _ => ("CoachWaits$Tray", "places", "I", false)
def mT11 : u_T := fun k => match k with
  | 0 => ("CoachWaitsModel", "thrown", "I", false)
  | 1 => ("CoachWaitsModel", "all", "[I", true)
  | 2 => ("CoachWaitsModel", "hasImage", "[Z", true)
  | 3 => ("CoachWaitsModel", "tape", "[I", true)
  | 4 => ("CoachWaitsModel", "fresh", "[I", true)
  | 5 => ("CoachWaitsModel", "taped", "I", false)
  | 6 => ("CoachWaitsModel", "at", "I", false)
  | 7 => ("CoachWaitsModel", "behind", "I", false)
  | 8 => ("CoachWaitsModel", "size", "I", false)
  | 9 => ("CoachWaitsModel", "kind", "I", false)
  | 10 => ("CoachWaitsModel", "number", "I", false)
  | 11 => ("CoachWaitsModel", "wrong", "I", false)
  | 12 => ("CoachWaitsModel", "wrongAt", "I", false)
  | 13 => ("CoachWaitsModel", "faultKind", "I", false)
  | 14 => ("CoachWaitsModel", "faultPlace", "I", false)
  | 15 => ("CoachWaitsModel", "reading", "I", false)
  | 16 => ("CoachWaitsModel", "reckoned", "[I", true)
  | 17 => ("CoachWaitsModel", "words", "[I", true)
  | 18 => ("CoachWaitsModel", "times", "[I", true)
  | 19 => ("CoachWaitsModel", "lates", "[I", true)
  | 20 => ("CoachWaitsModel", "heldNow", "[I", true)
  | 21 => ("CoachWaitsModel", "mudNow", "I", false)
  | 22 => ("CoachWaitsModel", "latestFor", "I", false)
  | 23 => ("CoachWaitsModel", "was", "[I", true)
  | 24 => ("CoachWaitsModel", "toldWhy", "I", false)
  | 25 => ("CoachWaitsModel", "x", "I", false)
  | 26 => ("CoachWaitsModel", "ringTime", "I", false)
  | 27 => ("CoachWaitsModel", "ringLag", "I", false)
  | 28 => ("CoachWaitsModel", "slowTime", "I", false)
  | 29 => ("CoachWaitsModel", "slowLag", "I", false)
  | 30 => ("CoachWaitsModel", "slowWho", "I", false)
  | 31 => ("CoachWaitsModel", "ringMany", "I", false)
  | 32 => ("CoachWaitsModel", "hours", "[I", true)
  | 33 => ("CoachWaitsModel", "found", "[I", true)
  | 34 => ("CoachWaitsModel", "lateBy", "[I", true)
  | 35 => ("CoachWaitsModel", "calmSum", "J", false)
  | 36 => ("CoachWaitsModel", "lateSum", "J", false)
  | 37 => ("CoachWaitsModel", "rowSort", "[I", true)
  | 38 => ("CoachWaitsModel", "rowMany", "[I", true)
  | _ => ("CoachWaitsModel", "numbers", "[J", true)
def Tf (c : Nat) : u_T := match c with
  | 0 => mT0
  | 1 => mT1
  | 2 => mT2
  | 3 => mT3
  | 4 => mT4
  | 5 => mT5
  | 6 => mT6
  | 7 => mT7
  | 8 => mT8
  | 9 => mT9
  | 10 => mT10
  | _ => mT11
def FKl : List (List Nat) := [[3, 3, 3, 3, 3, 3, 3, 3, 3, 3, 3, 4, 4, 4, 4, 4], [4, 0, 0, 0, 0, 0, 0], [4, 4, 4, 4, 4, 4, 4, 0, 0, 0, 0, 0, 0, 0, 0, 0, 0], [3, 3, 0, 0, 1], [4, 4, 4, 0, 0], [3, 3, 4, 4, 4, 4, 4, 4, 0], [4, 4, 0], [3, 3, 3, 4, 4, 4, 0], [3, 3, 4, 4], [4, 0, 0], [4, 0, 0], [0, 4, 4, 4, 4, 0, 0, 0, 0, 0, 0, 0, 0, 0, 0, 0, 4, 4, 4, 4, 4, 0, 0, 4, 0, 0, 0, 0, 0, 0, 0, 0, 4, 4, 4, 2, 2, 4, 4, 4]]
def nF (r : Nat) : Nat := (FKl.getD (r / 64) []).length
def fK (r j : Nat) : Nat := (FKl.getD (r / 64) []).getD j 9
def AKl : List (List (Nat × Nat)) := [[(9, 0), (9, 0), (9, 0), (9, 0), (9, 0), (9, 0), (9, 0), (9, 0), (9, 0), (9, 0), (9, 0), (5, 4), (6, 2), (4, 2), (2, 2), (0, 60)], [(1, 900), (9, 0), (9, 0), (9, 0), (9, 0), (9, 0), (9, 0)], [(0, 6), (0, 6), (0, 10), (0, 10), (0, 10), (0, 10), (0, 900), (9, 0), (9, 0), (9, 0), (9, 0), (9, 0), (9, 0), (9, 0), (9, 0), (9, 0), (9, 0)], [(9, 0), (9, 0), (9, 0), (9, 0), (9, 0)], [(0, 6), (0, 6), (0, 6), (9, 0), (9, 0)], [(9, 0), (9, 0), (0, 10), (0, 10), (0, 10), (0, 6), (0, 6), (0, 640), (9, 0)], [(0, 5), (0, 64), (9, 0)], [(9, 0), (9, 0), (9, 0), (0, 1024), (0, 1024), (0, 6), (9, 0)], [(9, 0), (9, 0), (4, 6), (0, 5)], [(4, 10), (9, 0), (9, 0)], [(3, 40), (9, 0), (9, 0)], [(9, 0), (0, 3552), (2, 2), (0, 900), (0, 1184), (9, 0), (9, 0), (9, 0), (9, 0), (9, 0), (9, 0), (9, 0), (9, 0), (9, 0), (9, 0), (9, 0), (0, 900), (0, 6), (0, 10), (0, 6006), (0, 6), (9, 0), (9, 0), (0, 20), (9, 0), (9, 0), (9, 0), (9, 0), (9, 0), (9, 0), (9, 0), (9, 0), (0, 6), (0, 5), (0, 60), (9, 0), (9, 0), (0, 4), (0, 4), (3, 160)]]
def aK (r : Nat) : Nat × Nat := (AKl.getD (r / 64) []).getD (r % 64 - 1) (9, 0)
def ORl : List (List (Nat × Nat)) := [[(64, 0), (128, 0), (128, 1), (192, 0), (256, 0), (256, 1), (256, 2), (320, 0), (448, 0), (512, 0), (576, 0), (0, 0), (0, 0), (0, 0), (0, 0), (0, 0)], [(0, 0), (0, 0), (0, 0), (0, 0), (0, 0), (0, 0), (0, 0)], [(0, 0), (0, 0), (0, 0), (0, 0), (0, 0), (0, 0), (0, 0), (0, 0), (0, 0), (0, 0), (0, 0), (0, 0), (0, 0), (0, 0), (0, 0), (0, 0), (0, 0)], [(64, 0), (128, 1), (0, 0), (0, 0), (0, 0)], [(0, 0), (0, 0), (0, 0), (0, 0), (0, 0)], [(128, 0), (384, 0), (0, 0), (0, 0), (0, 0), (0, 0), (0, 0), (0, 0), (0, 0)], [(0, 0), (0, 0), (0, 0)], [(128, 0), (320, 0), (256, 0), (0, 0), (0, 0), (0, 0), (0, 0)], [(128, 0), (320, 0), (0, 0), (0, 0)], [(0, 0), (0, 0), (0, 0)], [(0, 0), (0, 0), (0, 0)], [(0, 0), (0, 0), (0, 0), (0, 0), (0, 0), (0, 0), (0, 0), (0, 0), (0, 0), (0, 0), (0, 0), (0, 0), (0, 0), (0, 0), (0, 0), (0, 0), (0, 0), (0, 0), (0, 0), (0, 0), (0, 0), (0, 0), (0, 0), (0, 0), (0, 0), (0, 0), (0, 0), (0, 0), (0, 0), (0, 0), (0, 0), (0, 0), (0, 0), (0, 0), (0, 0), (0, 0), (0, 0), (0, 0), (0, 0), (0, 0)]]
def oR (r j : Nat) : Nat × Nat := (ORl.getD (r / 64) []).getD j (0, 0)
def ERl : List (List (Nat × Nat)) := [[(0, 0), (0, 0), (0, 0), (0, 0), (0, 0), (0, 0), (0, 0), (0, 0), (0, 0), (0, 0), (0, 0), (640, 0), (128, 2), (256, 19), (0, 0), (0, 0)], [(0, 0), (0, 0), (0, 0), (0, 0), (0, 0), (0, 0), (0, 0)], [(0, 0), (0, 0), (0, 0), (0, 0), (0, 0), (0, 0), (0, 0), (0, 0), (0, 0), (0, 0), (0, 0), (0, 0), (0, 0), (0, 0), (0, 0), (0, 0), (0, 0)], [(0, 0), (0, 0), (0, 0), (0, 0), (0, 0)], [(0, 0), (0, 0), (0, 0), (0, 0), (0, 0)], [(0, 0), (0, 0), (0, 0), (0, 0), (0, 0), (0, 0), (0, 0), (0, 0), (0, 0)], [(0, 0), (0, 0), (0, 0)], [(0, 0), (0, 0), (0, 0), (0, 0), (0, 0), (0, 0), (0, 0)], [(0, 0), (0, 0), (256, 3), (0, 0)], [(256, 9), (0, 0), (0, 0)], [(0, 0), (0, 0), (0, 0)], [(0, 0), (0, 0), (0, 0), (0, 0), (0, 0), (0, 0), (0, 0), (0, 0), (0, 0), (0, 0), (0, 0), (0, 0), (0, 0), (0, 0), (0, 0), (0, 0), (0, 0), (0, 0), (0, 0), (0, 0), (0, 0), (0, 0), (0, 0), (0, 0), (0, 0), (0, 0), (0, 0), (0, 0), (0, 0), (0, 0), (0, 0), (0, 0), (0, 0), (0, 0), (0, 0), (0, 0), (0, 0), (0, 0), (0, 0), (0, 0)]]
def eR (r : Nat) : Nat × Nat := (ERl.getD (r / 64) []).getD (r % 64 - 1) (0, 0)
def cNl : List Nat := [1, 1, 4, 1, 21, 1, 1, 1, 1, 1, 4, 1]
/-- how many there are of a role -/
def cnt (r : Nat) : Nat := if r = 4000 ∨ r = 4001 then 23 else if r = 4002 ∨ r = 4004 then 1 else if 768 ≤ r then 0 else if r % 64 = 0 then cNl.getD (r / 64) 0 else if (aK r).1 = 9 then 0 else cNl.getD (r / 64) 0
def CE : List (Nat × Nat) := (List.range 768).flatMap (fun r => (List.range (cnt r)).map (fun i => (r, i)))
def CL : List vw_C := (List.range 12).map (fun c => (cn c, Tf c, nF (64 * c)))
def sTx : List String := [";:+-*()[]=<>", "road", "period", "mud", "coach", "at", "patience", "wait", "takes", "lag", "if", "not", "and", "or", "then", "else", "end", "from", "to", "late", "time", "waits", " road period mud coach at patience wait takes lag waits if then else end from to time late and or not "]
def sLen : List Nat := [12, 4, 6, 3, 5, 2, 8, 4, 5, 3, 2, 3, 3, 2, 4, 4, 3, 4, 2, 4, 4, 5, 102]
def sByt : List (List Int32) := [[59, 58, 43, 45, 42, 40, 41, 91, 93, 61, 60, 62], [114, 111, 97, 100], [112, 101, 114, 105, 111, 100], [109, 117, 100], [99, 111, 97, 99, 104], [97, 116], [112, 97, 116, 105, 101, 110, 99, 101], [119, 97, 105, 116], [116, 97, 107, 101, 115], [108, 97, 103], [105, 102], [110, 111, 116], [97, 110, 100], [111, 114], [116, 104, 101, 110], [101, 108, 115, 101], [101, 110, 100], [102, 114, 111, 109], [116, 111], [108, 97, 116, 101], [116, 105, 109, 101], [119, 97, 105, 116, 115], [32, 114, 111, 97, 100, 32, 112, 101, 114, 105, 111, 100, 32, 109, 117, 100, 32, 99, 111, 97, 99, 104, 32, 97, 116, 32, 112, 97, 116, 105, 101, 110, 99, 101, 32, 119, 97, 105, 116, 32, 116, 97, 107, 101, 115, 32, 108, 97, 103, 32, 119, 97, 105, 116, 115, 32, 105, 102, 32, 116, 104, 101, 110, 32, 101, 108, 115, 101, 32, 101, 110, 100, 32, 102, 114, 111, 109, 32, 116, 111, 32, 116, 105, 109, 101, 32, 108, 97, 116, 101, 32, 97, 110, 100, 32, 111, 114, 32, 110, 111, 116, 32]]
def IKi : List ((Nat × Nat × Int32) × Nat) := [((0, 286, 1000000), 1264), ((0, 381, 1103515245), 1150), ((5, 132, 100000), 1030), ((6, 57, 1000000), 980), ((6, 60, -1000000), 982), ((7, 119, 2147483647), 1262), ((11, 237, 100000), 1769), ((11, 317, 1103515245), 1870), ((11, 377, 268435456), 1942), ((11, 378, 1000000), 1943), ((23, 265, 1431655765), 883), ((23, 266, 858993459), 884), ((23, 267, 252645135), 885), ((26, 227, 65536), 597)]
def IKl : List (Nat × Nat × Int32) := IKi.map (·.1)
def LKi : List ((Nat × Nat × Int64) × Nat) := [((0, 337, -2), 1403), ((0, 339, -3), 1404), ((0, 344, -6), 1420), ((0, 346, -7), 1421), ((0, 367, 20), 1060), ((0, 369, 29), 1061), ((0, 371, 100), 1062), ((0, 373, 199), 1063), ((0, 394, 10), 1398), ((6, 55, 1000000), 979), ((6, 58, -1000000), 981), ((11, 199, 1000000), 1732), ((11, 201, -1000000), 1733), ((11, 279, 99), 1805), ((11, 281, 9), 1810), ((11, 283, 10), 1819), ((11, 285, 20), 1837), ((11, 287, 29), 1838), ((11, 289, 100), 1839), ((11, 291, 199), 1840), ((11, 303, 3), 1824), ((11, 324, 40), 1861), ((11, 329, 999), 1875), ((11, 394, 4), 1988), ((11, 396, 8), 2001), ((11, 434, -2), 2039), ((11, 436, -3), 2040), ((11, 438, -7), 2049), ((12, 163, 4294967295), 2069)]
def LKl : List (Nat × Nat × Int64) := LKi.map (·.1)
def SKl : List (Nat × Nat × Nat) := [(1, 57, 0), (3, 87, 1), (3, 93, 2), (3, 101, 3), (3, 106, 4), (3, 129, 5), (3, 131, 6), (3, 111, 7), (3, 116, 8), (3, 139, 9), (3, 203, 10), (3, 185, 11), (3, 183, 12), (3, 173, 13), (3, 214, 14), (3, 216, 15), (3, 221, 16), (3, 223, 17), (3, 225, 18), (3, 227, 19), (3, 229, 20), (3, 121, 21), (11, 77, 22), (11, 115, 0)]
def FLi : List ((Nat × Nat × Nat × Nat) × Nat) := [((0, 10, 0, 0), 457), ((0, 19, 0, 1), 458), ((0, 23, 0, 2), 459), ((0, 31, 0, 3), 460), ((0, 38, 0, 4), 461), ((0, 42, 0, 5), 462), ((0, 45, 0, 6), 463), ((0, 53, 0, 7), 464), ((0, 62, 0, 8), 465), ((0, 71, 0, 9), 466), ((0, 78, 0, 10), 467), ((0, 84, 0, 11), 468), ((0, 88, 0, 12), 469), ((0, 92, 0, 13), 470), ((0, 96, 0, 14), 471), ((0, 100, 0, 15), 472), ((0, 129, 128, 9), 205), ((0, 139, 128, 12), 220), ((0, 176, 256, 3), 302), ((0, 244, 128, 8), 203), ((0, 247, 256, 4), 307), ((0, 354, 128, 10), 212), ((0, 357, 128, 11), 218), ((8, 13, 512, 2), 408), ((8, 17, 512, 3), 409), ((8, 21, 512, 0), 406), ((8, 25, 512, 1), 407), ((8, 67, 128, 11), 216), ((8, 82, 128, 10), 210), ((5, 12, 320, 1), 342), ((5, 18, 320, 2), 343), ((5, 22, 320, 3), 344), ((5, 25, 320, 4), 345), ((5, 28, 320, 5), 346), ((5, 31, 320, 6), 347), ((5, 34, 320, 7), 348), ((5, 37, 320, 8), 349), ((5, 41, 320, 0), 341), ((5, 51, 128, 10), 208), ((5, 56, 128, 11), 214), ((5, 81, 128, 13), 223), ((5, 84, 128, 14), 226), ((5, 109, 128, 8), 200), ((5, 116, 256, 4), 306), ((5, 121, 256, 3), 304), ((5, 152, 128, 15), 229), ((5, 155, 128, 16), 232), ((6, 9, 384, 0), 331), ((6, 15, 384, 1), 332), ((6, 30, 384, 2), 333), ((9, 11, 576, 0), 427), ((9, 18, 576, 2), 429), ((9, 22, 576, 1), 428), ((3, 9, 192, 3), 279), ((3, 15, 192, 0), 276), ((3, 19, 192, 1), 277), ((3, 23, 192, 2), 278), ((3, 84, 128, 12), 221), ((3, 99, 128, 8), 201), ((3, 103, 128, 9), 206), ((3, 126, 128, 10), 211), ((3, 137, 128, 11), 217), ((3, 145, 192, 4), 280), ((3, 149, 128, 7), 198), ((3, 152, 128, 13), 224), ((3, 158, 128, 14), 227), ((3, 161, 128, 15), 230), ((3, 167, 128, 16), 233), ((7, 11, 448, 3), 378), ((7, 15, 448, 4), 379), ((7, 18, 448, 5), 380), ((7, 21, 448, 0), 375), ((7, 25, 448, 1), 376), ((7, 29, 448, 2), 377), ((7, 33, 448, 6), 381), ((7, 37, 128, 10), 209), ((7, 46, 128, 11), 215), ((7, 68, 256, 3), 303), ((7, 120, 128, 8), 202), ((2, 9, 128, 0), 190), ((2, 15, 128, 1), 191), ((2, 18, 128, 2), 192), ((2, 21, 128, 3), 193), ((2, 24, 128, 4), 194), ((2, 27, 128, 5), 195), ((2, 30, 128, 6), 196), ((2, 33, 128, 8), 199), ((2, 37, 128, 7), 197), ((2, 40, 128, 9), 204), ((2, 43, 128, 10), 207), ((2, 46, 128, 11), 213), ((2, 49, 128, 12), 219), ((2, 52, 128, 13), 222), ((2, 55, 128, 14), 225), ((2, 58, 128, 15), 228), ((2, 61, 128, 16), 231), ((4, 9, 256, 0), 298), ((4, 15, 256, 1), 299), ((4, 18, 256, 2), 300), ((4, 27, 256, 3), 301), ((4, 31, 256, 4), 305), ((1, 9, 64, 0), 161), ((1, 15, 64, 1), 162), ((1, 28, 64, 2), 163), ((1, 31, 64, 4), 165), ((1, 41, 64, 3), 164), ((1, 44, 64, 5), 166), ((1, 54, 64, 6), 167), ((10, 9, 640, 0), 445), ((10, 15, 640, 2), 447), ((10, 25, 640, 1), 446), ((11, 1, 704, 0), 1455), ((11, 13, 704, 1), 1456), ((11, 17, 704, 2), 1457), ((11, 21, 704, 3), 1458), ((11, 24, 704, 4), 1459), ((11, 27, 704, 14), 1469), ((11, 30, 704, 16), 1471), ((11, 33, 704, 17), 1472), ((11, 36, 704, 18), 1473), ((11, 39, 704, 19), 1474), ((11, 42, 704, 20), 1475), ((11, 45, 704, 23), 1478), ((11, 48, 704, 32), 1487), ((11, 51, 704, 33), 1488), ((11, 54, 704, 34), 1489), ((11, 57, 704, 37), 1492), ((11, 60, 704, 38), 1493), ((11, 63, 704, 39), 1494), ((11, 71, 704, 5), 1460), ((11, 74, 704, 8), 1463), ((11, 89, 704, 6), 1461), ((11, 92, 704, 7), 1462), ((11, 99, 704, 9), 1464), ((11, 112, 704, 10), 1465), ((11, 117, 704, 11), 1466), ((11, 120, 704, 12), 1467), ((11, 137, 704, 15), 1470), ((11, 196, 704, 13), 1468), ((11, 218, 704, 21), 1476), ((11, 227, 704, 22), 1477), ((11, 293, 704, 24), 1479), ((11, 318, 704, 25), 1480), ((11, 340, 704, 26), 1481), ((11, 343, 704, 27), 1482), ((11, 353, 704, 29), 1484), ((11, 356, 704, 28), 1483), ((11, 359, 704, 30), 1485), ((11, 362, 704, 31), 1486), ((11, 407, 704, 35), 1490), ((11, 411, 704, 36), 1491)]
def FLl : List (Nat × Nat × Nat × Nat) := FLi.map (·.1)
def SFi : List ((Nat × Nat × Nat) × Nat) := [((20, 9, 4), 2071), ((20, 15, 5), 2070)]
def SFl : List (Nat × Nat × Nat) := SFi.map (·.1)
def GSi : List ((Nat × Nat) × Nat) := [((20, 38), 571)]
def GSl : List (Nat × Nat) := GSi.map (·.1)
def GZi : List ((Nat × Nat) × Nat) := [((20, 1053), 610)]
def GZl : List (Nat × Nat) := GZi.map (·.1)
def ACi : List ((Nat × Nat) × Nat) := [((2, 64), 836)]
def ACl : List (Nat × Nat) := ACi.map (·.1)
def LYl : List (List Nat) := [[473, 475, 477, 479, 481, 483, 485, 487, 489, 491, 493, 495, 497, 499, 501, 503], [168, 170, 172, 174, 176, 178, 180], [234, 236, 238, 240, 242, 244, 246, 248, 250, 252, 254, 256, 258, 260, 262, 264, 266], [281, 283, 285, 287, 289], [308, 310, 312, 314, 316], [350, 352, 354, 356, 358, 360, 362, 364, 366], [334, 336, 338], [382, 384, 386, 388, 390, 392, 394], [410, 412, 414, 416], [430, 432, 434], [448, 450, 452], [1495, 1497, 1499, 1501, 1503, 1505, 1507, 1509, 1511, 1513, 1515, 1517, 1519, 1521, 1523, 1525, 1527, 1529, 1531, 1533, 1535, 1537, 1539, 1541, 1543, 1545, 1547, 1549, 1551, 1553, 1555, 1557, 1559, 1561, 1563, 1565, 1567, 1569, 1571, 1573]]
def tyF (c k : Nat) : FieldType := (parseFieldDescriptor (Tf c k).2.2.1).getD .int
theorem CL_at {c : Nat} (h : c < 12) : CL[c]? = some (cn c, Tf c, nF (64 * c)) := by simp [CL, h]
theorem LY_ck : ((List.range 12).all fun c => (List.range (nF (64 * c))).all fun j => decide (lw_tbl[(LYl.getD c []).getD j 0]? = some (u_lay (cn c) (Tf c) j)) && goodWord (u_lay (cn c) (Tf c) j)) = true := by decide +kernel
theorem CL_in {c : Nat} (h : c < 12) : ∀ w ∈ u_ws (cn c) (Tf c) (nF (64 * c)), w ∈ TW := by
  intro w hw
  obtain ⟨j, hj, rfl⟩ := List.mem_map.mp hw
  have h1 := List.all_eq_true.mp (List.all_eq_true.mp LY_ck c (List.mem_range.mpr h)) j hj
  simp only [Bool.and_eq_true, decide_eq_true_eq] at h1
  exact tw_i _ h1.1 h1.2
theorem ty_ck : ((List.range 12).all fun c => (List.range (nF (64 * c))).all fun j => decide (parseFieldDescriptor (Tf c j).2.2.1 = some (tyF c j)) && (match fK (64 * c) j with | 0 => decide (tyF c j = .int) | 1 => decide (tyF c j = .boolean) | 2 => decide (tyF c j = .long) | _ => true)) = true := by decide +kernel
theorem nm_ck : ((List.range 12).all fun c => (List.range (nF (64 * c))).all fun a => (List.range (nF (64 * c))).all fun b => decide (a = b) || decide ((Tf c a).2.1 ≠ (Tf c b).2.1)) = true := by decide +kernel
theorem dc_ck : ((List.range 12).all fun c => (List.range (nF (64 * c))).all fun a => decide ((Tf c a).1 = cn c)) = true := by decide +kernel
def fLw (q : Nat × Nat × Nat × Nat) : Cond := .fieldLink (cn q.1) q.2.1 (cn (q.2.2.1 / 64)) (Tf (q.2.2.1 / 64) q.2.2.2).2.1 (Tf (q.2.2.1 / 64) q.2.2.2).2.2.1
def fNw (q : Nat × Nat × Nat × Nat) : Cond := .fieldLinkNest (cn q.1) q.2.1 (cn (q.2.2.1 / 64)) (Tf (q.2.2.1 / 64) q.2.2.2).2.1 (Tf (q.2.2.1 / 64) q.2.2.2).2.2.1 "CoachWaits"
theorem FL_ck : (FLi.all fun e => (decide (lw_tbl[e.2]? = some (fLw e.1)) && goodWord (fLw e.1)) || decide (lw_tbl[e.2]? = some (fNw e.1))) = true := by decide +kernel
theorem FL_ok {q : Nat × Nat × Nat × Nat} (h : q ∈ FLl) : fLw q ∈ TW ∨ fNw q ∈ NWl := by
  obtain ⟨e, he, rfl⟩ := List.mem_map.mp h
  have h1 := List.all_eq_true.mp FL_ck e he
  simp only [Bool.or_eq_true, Bool.and_eq_true, decide_eq_true_eq] at h1
  rcases h1 with h1 | h1
  · exact Or.inl (tw_i _ h1.1 h1.2)
  · exact Or.inr (nw_i _ h1 rfl)
theorem IK_ck : (IKi.all fun e => decide (lw_tbl[e.2]? = some (.constant (cn e.1.1) e.1.2.1 e.1.2.2))) = true := by decide +kernel
theorem IK_ok {q : Nat × Nat × Int32} (h : q ∈ IKl) : Cond.constant (cn q.1) q.2.1 q.2.2 ∈ TW := by
  obtain ⟨e, he, rfl⟩ := List.mem_map.mp h
  have h1 := List.all_eq_true.mp IK_ck e he
  simp only [decide_eq_true_eq] at h1
  exact tw_i _ h1 rfl
theorem LK_ck : (LKi.all fun e => decide (lw_tbl[e.2]? = some (.constantLong (cn e.1.1) e.1.2.1 e.1.2.2))) = true := by decide +kernel
theorem LK_ok {q : Nat × Nat × Int64} (h : q ∈ LKl) : Cond.constantLong (cn q.1) q.2.1 q.2.2 ∈ TW := by
  obtain ⟨e, he, rfl⟩ := List.mem_map.mp h
  have h1 := List.all_eq_true.mp LK_ck e he
  simp only [decide_eq_true_eq] at h1
  exact tw_i _ h1 rfl
def sFw (q : Nat × Nat × Nat) : Cond := if q.2.2 = 4 then .fieldLink (cn q.1) q.2.1 "java/lang/String" "value" "[B" else .fieldLink (cn q.1) q.2.1 "java/lang/String" "coder" "B"
theorem SF_ck : (SFi.all fun e => decide (lw_tbl[e.2]? = some (sFw e.1)) && goodWord (sFw e.1)) = true := by decide +kernel
theorem SF_ok {q : Nat × Nat × Nat} (h : q ∈ SFl) : sFw q ∈ TW := by
  obtain ⟨e, he, rfl⟩ := List.mem_map.mp h
  have h1 := List.all_eq_true.mp SF_ck e he
  simp only [Bool.and_eq_true, decide_eq_true_eq] at h1
  exact tw_i _ h1.1 h1.2
theorem GS_ck : (GSi.all fun e => decide (lw_tbl[e.2]? = some (.fieldLink (cn e.1.1) e.1.2 "java/lang/String" "COMPACT_STRINGS" "Z"))) = true := by decide +kernel
theorem GS_ok {q : Nat × Nat} (h : q ∈ GSl) : Cond.fieldLink (cn q.1) q.2 "java/lang/String" "COMPACT_STRINGS" "Z" ∈ TW := by
  obtain ⟨e, he, rfl⟩ := List.mem_map.mp h
  have h1 := List.all_eq_true.mp GS_ck e he
  simp only [decide_eq_true_eq] at h1
  exact tw_i _ h1 rfl
theorem GZ_ck : (GZi.all fun e => decide (lw_tbl[e.2]? = some (.fieldLink (cn e.1.1) e.1.2 "jdk/internal/util/Preconditions" "SIOOBE_FORMATTER" "Ljava/util/function/BiFunction;"))) = true := by decide +kernel
theorem GZ_ok {q : Nat × Nat} (h : q ∈ GZl) : Cond.fieldLink (cn q.1) q.2 "jdk/internal/util/Preconditions" "SIOOBE_FORMATTER" "Ljava/util/function/BiFunction;" ∈ TW := by
  obtain ⟨e, he, rfl⟩ := List.mem_map.mp h
  have h1 := List.all_eq_true.mp GZ_ck e he
  simp only [decide_eq_true_eq] at h1
  exact tw_i _ h1 rfl
theorem AC_ck : (ACi.all fun e => decide (lw_tbl[e.2]? = some (.methodLink (cn e.1.1) e.1.2 arraycopyName))) = true := by decide +kernel
theorem AC_ok {q : Nat × Nat} (h : q ∈ ACl) : Cond.methodLink (cn q.1) q.2 arraycopyName ∈ TW := by
  obtain ⟨e, he, rfl⟩ := List.mem_map.mp h
  have h1 := List.all_eq_true.mp AC_ck e he
  simp only [decide_eq_true_eq] at h1
  exact tw_i _ h1 rfl
theorem ac_nat : Cond.native arraycopyName ∈ TW := tw_i 838 (by decide +kernel) rfl
theorem ac_stt : Cond.static arraycopyName ∈ TW := tw_i 837 (by decide +kernel) rfl
theorem ac_ini : Cond.initialized "java/lang/System" ∈ TW := tw_i 144 (by decide +kernel) rfl
theorem CE_in {r i : Nat} (hr : r < 768) (h : i < cnt r) : (r, i) ∈ CE := List.mem_flatMap.mpr ⟨r, List.mem_range.mpr hr, List.mem_map.mpr ⟨i, List.mem_range.mpr h, rfl⟩⟩
theorem CE_of {q : Nat × Nat} (h : q ∈ CE) : q.1 < 768 ∧ q.2 < cnt q.1 := by
  obtain ⟨r, hr, h⟩ := List.mem_flatMap.mp h
  obtain ⟨i, hi, rfl⟩ := List.mem_map.mp h
  exact ⟨List.mem_range.mp hr, List.mem_range.mp hi⟩
theorem CE_nd : CE.Nodup := by decide +kernel
