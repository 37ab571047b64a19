/-! the abstract machine: its types and tables (printed by wip/gen/emit_tab.py) -/
abbrev AV : Type := Int32 ⊕ (Int64 ⊕ (Nat × Nat × Nat))
abbrev AH : Type := (Nat → Nat → Int32) × ((Nat → Nat → Int64) × (Nat → Nat → Nat))
abbrev vi (x : Int32) : AV := Sum.inl x
abbrev vl (x : Int64) : AV := Sum.inr (Sum.inl x)
abbrev vr (k n o : Nat) : AV := Sum.inr (Sum.inr (k, n, o))
abbrev ii (n : Int) : Int32 := Int32.ofInt n
def up2 {α : Type} (f : Nat → Nat → α) (o : Nat) (g : Nat → α) : Nat → Nat → α := fun o' => if o' = o then g else f o'
def wI (h : AH) (o j : Nat) (v : Int32) : AH := (up2 h.1 o (upd (h.1 o) j v), h.2)
def wL (h : AH) (o j : Nat) (v : Int64) : AH := (h.1, up2 h.2.1 o (vp_updL (h.2.1 o) j v), h.2.2)
def wR (h : AH) (o j v : Nat) : AH := (h.1, h.2.1, up2 h.2.2 o (va_up (h.2.2 o) j v))
def wA (h : AH) (o : Nat) (g : Nat → Int32) : AH := (up2 h.1 o g, h.2)
def inb (i : Int32) (n : Nat) : Bool := decide (0 ≤ i) && decide (i.toNatClampNeg < n)
def F_HF : u_T := fun k => match k with
  | 0 => ("HeathForks", "tape", "LHeathForks$Tape;", true)
  | 1 => ("HeathForks", "heathReader", "LHeathForks$HeathReader;", true)
  | 2 => ("HeathForks", "lawReader", "LHeathForks$LawReader;", true)
  | 3 => ("HeathForks", "walksReader", "LHeathForks$WalksReader;", true)
  | 4 => ("HeathForks", "laws", "[LHeathForks$Law;", true)
  | 5 => ("HeathForks", "walksTold", "[LHeathForks$Walks;", true)
  | 6 => ("HeathForks", "letters", "[I", true)
  | 7 => ("HeathForks", "moor", "LHeathForks$Moor;", true)
  | 8 => ("HeathForks", "kept", "LHeathForks$Moor;", true)
  | 9 => ("HeathForks", "apart", "LHeathForks$Moor;", true)
  | 10 => ("HeathForks", "acts", "LHeathForks$Acts;", true)
  | 11 => ("HeathForks", "heard", "LHeathForks$Heard;", true)
  | 12 => ("HeathForks", "plan", "LHeathForks$WellPlan;", true)
  | 13 => ("HeathForks", "heath", "LHeathForks$Heath;", false)
  | 14 => ("HeathForks", "lawCount", "I", false)
  | 15 => ("HeathForks", "walksCount", "I", false)
  | 16 => ("HeathForks", "holding", "I", false)
  | _ => ("HeathForks", "imaged", "Z", false)
def T_HF : Nat → FieldType := fun k => match k with
  | 0 => (.object "HeathForks$Tape")
  | 1 => (.object "HeathForks$HeathReader")
  | 2 => (.object "HeathForks$LawReader")
  | 3 => (.object "HeathForks$WalksReader")
  | 4 => (.array (.object "HeathForks$Law"))
  | 5 => (.array (.object "HeathForks$Walks"))
  | 6 => (.array .int)
  | 7 => (.object "HeathForks$Moor")
  | 8 => (.object "HeathForks$Moor")
  | 9 => (.object "HeathForks$Moor")
  | 10 => (.object "HeathForks$Acts")
  | 11 => (.object "HeathForks$Heard")
  | 12 => (.object "HeathForks$WellPlan")
  | 13 => (.object "HeathForks$Heath")
  | 14 => .int
  | 15 => .int
  | 16 => .int
  | _ => .boolean
def F_Tape : u_T := fun k => match k with
  | 0 => ("HeathForks$Tape", "bytes", "[I", true)
  | 1 => ("HeathForks$Tape", "length", "I", false)
  | _ => ("HeathForks$Tape", "at", "I", false)
def T_Tape : Nat → FieldType := fun k => match k with
  | 0 => (.array .int)
  | 1 => .int
  | _ => .int
def F_HR : u_T := fun k => match k with
  | 0 => ("HeathForks$HeathReader", "found", "[I", true)
  | 1 => ("HeathForks$HeathReader", "items", "[I", true)
  | 2 => ("HeathForks$HeathReader", "course", "[I", true)
  | 3 => ("HeathForks$HeathReader", "courseLength", "[I", true)
  | _ => ("HeathForks$HeathReader", "made", "LHeathForks$Heath;", false)
def T_HR : Nat → FieldType := fun k => match k with
  | 0 => (.array .int)
  | 1 => (.array .int)
  | 2 => (.array .int)
  | 3 => (.array .int)
  | _ => (.object "HeathForks$Heath")
def F_Heath : u_T := fun k => match k with
  | 0 => ("HeathForks$Heath", "depths", "[I", true)
  | 1 => ("HeathForks$Heath", "irons", "[I", true)
  | 2 => ("HeathForks$Heath", "rocks", "[I", true)
  | 3 => ("HeathForks$Heath", "beside", "[I", true)
  | 4 => ("HeathForks$Heath", "traits", "[I", true)
  | 5 => ("HeathForks$Heath", "width", "I", false)
  | 6 => ("HeathForks$Heath", "height", "I", false)
  | 7 => ("HeathForks$Heath", "deeper", "I", false)
  | 8 => ("HeathForks$Heath", "foot", "I", false)
  | 9 => ("HeathForks$Heath", "cells", "I", false)
  | 10 => ("HeathForks$Heath", "forks", "I", false)
  | 11 => ("HeathForks$Heath", "veins", "I", false)
  | 12 => ("HeathForks$Heath", "veined", "I", false)
  | _ => ("HeathForks$Heath", "meeting", "I", false)
def T_Heath : Nat → FieldType := fun k => match k with
  | 0 => (.array .int)
  | 1 => (.array .int)
  | 2 => (.array .int)
  | 3 => (.array .int)
  | 4 => (.array .int)
  | 5 => .int
  | 6 => .int
  | 7 => .int
  | 8 => .int
  | 9 => .int
  | 10 => .int
  | 11 => .int
  | 12 => .int
  | _ => .int
def F_LR : u_T := fun k => match k with
  | _ => ("HeathForks$LawReader", "made", "LHeathForks$Law;", false)
def T_LR : Nat → FieldType := fun k => match k with
  | _ => (.object "HeathForks$Law")
def F_Law : u_T := fun k => match k with
  | 0 => ("HeathForks$Law", "code", "[I", true)
  | 1 => ("HeathForks$Law", "stack", "[I", true)
  | 2 => ("HeathForks$Law", "length", "I", false)
  | _ => ("HeathForks$Law", "top", "I", false)
def T_Law : Nat → FieldType := fun k => match k with
  | 0 => (.array .int)
  | 1 => (.array .int)
  | 2 => .int
  | _ => .int
def F_WR : u_T := fun k => match k with
  | _ => ("HeathForks$WalksReader", "made", "LHeathForks$Walks;", false)
def T_WR : Nat → FieldType := fun k => match k with
  | _ => (.object "HeathForks$Walks")
def F_Walks : u_T := fun k => match k with
  | 0 => ("HeathForks$Walks", "steps", "[I", true)
  | _ => ("HeathForks$Walks", "length", "I", false)
def T_Walks : Nat → FieldType := fun k => match k with
  | 0 => (.array .int)
  | _ => .int
def F_Moor : u_T := fun k => match k with
  | 0 => ("HeathForks$Moor", "places", "[I", true)
  | 1 => ("HeathForks$Moor", "pays", "[I", true)
  | 2 => ("HeathForks$Moor", "trails", "[I", true)
  | 3 => ("HeathForks$Moor", "pages", "[I", true)
  | 4 => ("HeathForks$Moor", "depths", "[I", true)
  | 5 => ("HeathForks$Moor", "written", "I", false)
  | 6 => ("HeathForks$Moor", "wells", "I", false)
  | 7 => ("HeathForks$Moor", "spent", "I", false)
  | _ => ("HeathForks$Moor", "season", "I", false)
def T_Moor : Nat → FieldType := fun k => match k with
  | 0 => (.array .int)
  | 1 => (.array .int)
  | 2 => (.array .int)
  | 3 => (.array .int)
  | 4 => (.array .int)
  | 5 => .int
  | 6 => .int
  | 7 => .int
  | _ => .int
def F_Acts : u_T := fun k => match k with
  | 0 => ("HeathForks$Acts", "row", "[I", true)
  | 1 => ("HeathForks$Acts", "number", "I", false)
  | _ => ("HeathForks$Acts", "next", "I", false)
def T_Acts : Nat → FieldType := fun k => match k with
  | 0 => (.array .int)
  | 1 => .int
  | _ => .int
def F_Heard : u_T := fun k => match k with
  | 0 => ("HeathForks$Heard", "forks", "[I", true)
  | 1 => ("HeathForks$Heard", "cells", "[I", true)
  | 2 => ("HeathForks$Heard", "waters", "[Z", true)
  | 3 => ("HeathForks$Heard", "codes", "[I", true)
  | 4 => ("HeathForks$Heard", "tallies", "[I", true)
  | 5 => ("HeathForks$Heard", "number", "I", false)
  | 6 => ("HeathForks$Heard", "yes", "I", false)
  | 7 => ("HeathForks$Heard", "no", "I", false)
  | 8 => ("HeathForks$Heard", "fitting", "I", false)
  | _ => ("HeathForks$Heard", "common", "I", false)
def T_Heard : Nat → FieldType := fun k => match k with
  | 0 => (.array .int)
  | 1 => (.array .int)
  | 2 => (.array .boolean)
  | 3 => (.array .int)
  | 4 => (.array .int)
  | 5 => .int
  | 6 => .int
  | 7 => .int
  | 8 => .int
  | _ => .int
def F_Plan : u_T := fun k => match k with
  | 0 => ("HeathForks$WellPlan", "yields", "[I", true)
  | 1 => ("HeathForks$WellPlan", "prices", "[I", true)
  | 2 => ("HeathForks$WellPlan", "beside", "[I", true)
  | 3 => ("HeathForks$WellPlan", "cells", "I", false)
  | 4 => ("HeathForks$WellPlan", "wells", "I", false)
  | 5 => ("HeathForks$WellPlan", "open", "I", false)
  | 6 => ("HeathForks$WellPlan", "wanted", "I", false)
  | 7 => ("HeathForks$WellPlan", "found", "Z", false)
  | 8 => ("HeathForks$WellPlan", "bestSet", "I", false)
  | 9 => ("HeathForks$WellPlan", "bestPrice", "I", false)
  | _ => ("HeathForks$WellPlan", "bestSize", "I", false)
def T_Plan : Nat → FieldType := fun k => match k with
  | 0 => (.array .int)
  | 1 => (.array .int)
  | 2 => (.array .int)
  | 3 => .int
  | 4 => .int
  | 5 => .int
  | 6 => .int
  | 7 => .boolean
  | 8 => .int
  | 9 => .int
  | _ => .int
def F_R : u_T := fun k => match k with
  | 0 => ("HeathForksModel", "thrown", "I", false)
  | 1 => ("HeathForksModel", "tape", "[B", true)
  | 2 => ("HeathForksModel", "texts", "[B", true)
  | 3 => ("HeathForksModel", "textLong", "[I", true)
  | 4 => ("HeathForksModel", "letters", "[I", true)
  | 5 => ("HeathForksModel", "text", "[B", false)
  | 6 => ("HeathForksModel", "length", "I", false)
  | 7 => ("HeathForksModel", "lawMany", "I", false)
  | 8 => ("HeathForksModel", "begins", "I", false)
  | 9 => ("HeathForksModel", "ends", "I", false)
  | 10 => ("HeathForksModel", "at", "I", false)
  | 11 => ("HeathForksModel", "fault", "I", false)
  | 12 => ("HeathForksModel", "deep", "I", false)
  | 13 => ("HeathForksModel", "label", "I", false)
  | 14 => ("HeathForksModel", "found", "I", false)
  | 15 => ("HeathForksModel", "labels", "Ljava/lang/String;", true)
  | 16 => ("HeathForksModel", "allowed", "Ljava/lang/String;", true)
  | 17 => ("HeathForksModel", "hasFound", "Z", false)
  | 18 => ("HeathForksModel", "rule", "[I", true)
  | 19 => ("HeathForksModel", "ruleRead", "[I", true)
  | 20 => ("HeathForksModel", "vein", "[I", true)
  | 21 => ("HeathForksModel", "veinRead", "[I", true)
  | 22 => ("HeathForksModel", "iron", "[I", true)
  | 23 => ("HeathForksModel", "ironRead", "[I", true)
  | 24 => ("HeathForksModel", "rock", "[I", true)
  | 25 => ("HeathForksModel", "rockRead", "[I", true)
  | 26 => ("HeathForksModel", "fork", "[I", true)
  | 27 => ("HeathForksModel", "forkRead", "[I", true)
  | 28 => ("HeathForksModel", "walk", "[I", true)
  | 29 => ("HeathForksModel", "walkLong", "[I", true)
  | 30 => ("HeathForksModel", "veins", "I", false)
  | 31 => ("HeathForksModel", "irons", "I", false)
  | 32 => ("HeathForksModel", "rocks", "I", false)
  | 33 => ("HeathForksModel", "forks", "I", false)
  | 34 => ("HeathForksModel", "cells", "I", false)
  | 35 => ("HeathForksModel", "veinsRead", "I", false)
  | 36 => ("HeathForksModel", "ironsRead", "I", false)
  | 37 => ("HeathForksModel", "rocksRead", "I", false)
  | 38 => ("HeathForksModel", "forksRead", "I", false)
  | 39 => ("HeathForksModel", "walks", "I", false)
  | 40 => ("HeathForksModel", "hasRules", "Z", false)
  | 41 => ("HeathForksModel", "now", "[I", true)
  | 42 => ("HeathForksModel", "trial", "[I", true)
  | 43 => ("HeathForksModel", "law", "I", false)
  | 44 => ("HeathForksModel", "undoRow", "[I", true)
  | 45 => ("HeathForksModel", "acts", "I", false)
  | 46 => ("HeathForksModel", "x", "J", false)
  | 47 => ("HeathForksModel", "cheapSet", "I", false)
  | 48 => ("HeathForksModel", "cheapCost", "I", false)
  | 49 => ("HeathForksModel", "heardFork", "[I", true)
  | 50 => ("HeathForksModel", "heardCell", "[I", true)
  | 51 => ("HeathForksModel", "heardWater", "[Z", true)
  | 52 => ("HeathForksModel", "heards", "I", false)
  | 53 => ("HeathForksModel", "leans", "[I", true)
  | 54 => ("HeathForksModel", "imageRow", "[I", true)
  | _ => ("HeathForksModel", "hasImage", "Z", false)
def T_R : Nat → FieldType := fun k => match k with
  | 0 => .int
  | 1 => (.array .byte)
  | 2 => (.array .byte)
  | 3 => (.array .int)
  | 4 => (.array .int)
  | 5 => (.array .byte)
  | 6 => .int
  | 7 => .int
  | 8 => .int
  | 9 => .int
  | 10 => .int
  | 11 => .int
  | 12 => .int
  | 13 => .int
  | 14 => .int
  | 15 => (.object "java/lang/String")
  | 16 => (.object "java/lang/String")
  | 17 => .boolean
  | 18 => (.array .int)
  | 19 => (.array .int)
  | 20 => (.array .int)
  | 21 => (.array .int)
  | 22 => (.array .int)
  | 23 => (.array .int)
  | 24 => (.array .int)
  | 25 => (.array .int)
  | 26 => (.array .int)
  | 27 => (.array .int)
  | 28 => (.array .int)
  | 29 => (.array .int)
  | 30 => .int
  | 31 => .int
  | 32 => .int
  | 33 => .int
  | 34 => .int
  | 35 => .int
  | 36 => .int
  | 37 => .int
  | 38 => .int
  | 39 => .int
  | 40 => .boolean
  | 41 => (.array .int)
  | 42 => (.array .int)
  | 43 => .int
  | 44 => (.array .int)
  | 45 => .int
  | 46 => .long
  | 47 => .int
  | 48 => .int
  | 49 => (.array .int)
  | 50 => (.array .int)
  | 51 => (.array .boolean)
  | 52 => .int
  | 53 => (.array .int)
  | 54 => (.array .int)
  | _ => .boolean
abbrev am_cl : List vw_C := [("HeathForks", F_HF, 18), ("HeathForks$Tape", F_Tape, 3), ("HeathForks$HeathReader", F_HR, 5), ("HeathForks$Heath", F_Heath, 14), ("HeathForks$LawReader", F_LR, 1), ("HeathForks$Law", F_Law, 4), ("HeathForks$WalksReader", F_WR, 1), ("HeathForks$Walks", F_Walks, 2), ("HeathForks$Moor", F_Moor, 9), ("HeathForks$Acts", F_Acts, 3), ("HeathForks$Heard", F_Heard, 10), ("HeathForks$WellPlan", F_Plan, 11), ("HeathForksModel", F_R, 56)]
def am_own : List String := ["HeathForks", "HeathForks$Tape", "HeathForks$HeathReader", "HeathForks$Heath", "HeathForks$LawReader", "HeathForks$Law", "HeathForks$WalksReader", "HeathForks$Walks", "HeathForks$Moor", "HeathForks$Acts", "HeathForks$Heard", "HeathForks$WellPlan", "HeathForksModel", "java/lang/String", "java/lang/StringLatin1", "java/lang/Math", "java/lang/Integer", "HeathForksLaw"]
def am_sh : List (Nat × Nat) := [(0, 0), (1, 0), (20, 240), (2, 0), (20, 5), (20, 180), (20, 32), (20, 4), (4, 0), (6, 0), (24, 4), (25, 4), (20, 6), (8, 0), (20, 6), (20, 6), (20, 2), (20, 100), (20, 30), (8, 0), (20, 6), (20, 6), (20, 2), (20, 100), (20, 30), (8, 0), (20, 6), (20, 6), (20, 2), (20, 100), (20, 30), (9, 0), (20, 160), (10, 0), (20, 12), (20, 12), (22, 12), (20, 480), (20, 30), (11, 0), (20, 30), (20, 30), (20, 30), (3, 0), (20, 30), (20, 30), (20, 30), (20, 30), (20, 36), (3, 0), (20, 30), (20, 30), (20, 30), (20, 30), (20, 36), (5, 0), (20, 240), (20, 64), (5, 0), (20, 240), (20, 64), (5, 0), (20, 240), (20, 64), (5, 0), (20, 240), (20, 64), (5, 0), (20, 240), (20, 64), (7, 0), (20, 64), (7, 0), (20, 64), (7, 0), (20, 64), (7, 0), (20, 64), (7, 0), (20, 64), (12, 0), (21, 240), (21, 960), (20, 4), (20, 128), (20, 4), (20, 4), (20, 52), (20, 52), (20, 12), (20, 12), (20, 12), (20, 12), (20, 36), (20, 36), (20, 640), (20, 5), (20, 227), (20, 227), (20, 9080), (20, 12), (20, 12), (22, 12), (20, 30), (20, 227), (23, 1)]
def am_fk : List (List (Nat × Nat × Nat × Nat)) := [[(2, 1, 0, 1), (2, 2, 0, 3), (2, 4, 0, 8), (2, 6, 0, 9), (2, 24, 4, 10), (2, 25, 4, 11), (2, 20, 6, 12), (2, 8, 0, 13), (2, 8, 0, 19), (2, 8, 0, 25), (2, 9, 0, 31), (2, 10, 0, 33), (2, 11, 0, 39), (3, 3, 0, 0), (0, 0, 0, 0), (0, 0, 0, 0), (0, 0, 0, 0), (6, 0, 0, 0)],
  [(2, 20, 240, 1), (0, 0, 0, 0), (0, 0, 0, 0)],
  [(2, 20, 5, 1), (2, 20, 180, 2), (2, 20, 32, 3), (2, 20, 4, 4), (3, 3, 0, 0)],
  [(2, 20, 30, 1), (2, 20, 30, 2), (2, 20, 30, 3), (2, 20, 30, 4), (2, 20, 36, 5), (0, 0, 0, 0), (0, 0, 0, 0), (0, 0, 0, 0), (0, 0, 0, 0), (0, 0, 0, 0), (0, 0, 0, 0), (0, 0, 0, 0), (0, 0, 0, 0), (0, 0, 0, 0)],
  [(3, 5, 0, 0)],
  [(2, 20, 240, 1), (2, 20, 64, 2), (0, 0, 0, 0), (0, 0, 0, 0)],
  [(3, 7, 0, 0)],
  [(2, 20, 64, 1), (0, 0, 0, 0)],
  [(2, 20, 6, 1), (2, 20, 6, 2), (2, 20, 2, 3), (2, 20, 100, 4), (2, 20, 30, 5), (0, 0, 0, 0), (0, 0, 0, 0), (0, 0, 0, 0), (0, 0, 0, 0)],
  [(2, 20, 160, 1), (0, 0, 0, 0), (0, 0, 0, 0)],
  [(2, 20, 12, 1), (2, 20, 12, 2), (2, 22, 12, 3), (2, 20, 480, 4), (2, 20, 30, 5), (0, 0, 0, 0), (0, 0, 0, 0), (0, 0, 0, 0), (0, 0, 0, 0), (0, 0, 0, 0)],
  [(2, 20, 30, 1), (2, 20, 30, 2), (2, 20, 30, 3), (0, 0, 0, 0), (0, 0, 0, 0), (0, 0, 0, 0), (0, 0, 0, 0), (6, 0, 0, 0), (0, 0, 0, 0), (0, 0, 0, 0), (0, 0, 0, 0)],
  [(0, 0, 0, 0), (2, 21, 240, 1), (2, 21, 960, 2), (2, 20, 4, 3), (2, 20, 128, 4), (5, 21, 0, 0), (0, 0, 0, 0), (0, 0, 0, 0), (0, 0, 0, 0), (0, 0, 0, 0), (0, 0, 0, 0), (0, 0, 0, 0), (0, 0, 0, 0), (0, 0, 0, 0), (0, 0, 0, 0), (4, 31, 0, 9), (4, 31, 0, 7), (6, 0, 0, 0), (2, 20, 4, 5), (2, 20, 4, 6), (2, 20, 52, 7), (2, 20, 52, 8), (2, 20, 12, 9), (2, 20, 12, 10), (2, 20, 12, 11), (2, 20, 12, 12), (2, 20, 36, 13), (2, 20, 36, 14), (2, 20, 640, 15), (2, 20, 5, 16), (0, 0, 0, 0), (0, 0, 0, 0), (0, 0, 0, 0), (0, 0, 0, 0), (0, 0, 0, 0), (0, 0, 0, 0), (0, 0, 0, 0), (0, 0, 0, 0), (0, 0, 0, 0), (0, 0, 0, 0), (6, 0, 0, 0), (2, 20, 227, 17), (2, 20, 227, 18), (0, 0, 0, 0), (2, 20, 9080, 19), (0, 0, 0, 0), (1, 0, 0, 0), (0, 0, 0, 0), (0, 0, 0, 0), (2, 20, 12, 20), (2, 20, 12, 21), (2, 22, 12, 22), (0, 0, 0, 0), (2, 20, 30, 23), (2, 20, 227, 24), (6, 0, 0, 0)]]
/-- field links: index, class, field, nest mate's, the word's place -/
def am_cpf : List (List (Nat × Nat × Nat × Nat × Nat)) := [[(114, 1, 1, 1, 42), (141, 3, 5, 1, 74), (144, 3, 6, 1, 76), (147, 3, 7, 1, 78), (150, 3, 8, 1, 81), (359, 3, 9, 1, 85), (246, 3, 10, 1, 88), (388, 3, 11, 1, 90), (379, 3, 13, 1, 93), (286, 7, 1, 1, 184), (170, 8, 6, 1, 212), (397, 8, 7, 1, 214), (157, 8, 8, 1, 216), (253, 9, 1, 1, 244), (339, 10, 5, 1, 265), (350, 10, 8, 1, 269), (356, 10, 9, 1, 271), (315, 11, 7, 1, 308), (318, 11, 8, 1, 310), (321, 11, 9, 1, 312), (10, 0, 0, 0, 341), (19, 0, 1, 0, 342), (26, 0, 2, 0, 343), (33, 0, 3, 0, 344), (39, 0, 4, 0, 345), (45, 0, 5, 0, 346), (49, 0, 6, 0, 347), (56, 0, 7, 0, 348), (60, 0, 8, 0, 349), (63, 0, 9, 0, 350), (69, 0, 10, 0, 351), (76, 0, 11, 0, 352), (83, 0, 12, 0, 353), (90, 0, 13, 0, 354), (94, 0, 14, 0, 355), (98, 0, 15, 0, 356), (101, 0, 16, 0, 357), (104, 0, 17, 0, 358)],
  [(9, 1, 0, 0, 40), (15, 1, 1, 0, 41), (19, 1, 2, 0, 44)],
  [(57, 1, 1, 1, 43), (31, 1, 2, 1, 45), (137, 3, 10, 1, 87), (9, 2, 0, 0, 123), (15, 2, 1, 0, 124), (18, 2, 2, 0, 125), (21, 2, 3, 0, 126), (27, 2, 4, 0, 127)],
  [(9, 3, 0, 0, 68), (15, 3, 1, 0, 69), (18, 3, 2, 0, 70), (21, 3, 3, 0, 71), (24, 3, 4, 0, 72), (27, 3, 5, 0, 73), (31, 3, 6, 0, 75), (34, 3, 7, 0, 77), (37, 3, 8, 0, 79), (40, 3, 9, 0, 82), (43, 3, 10, 0, 86), (46, 3, 11, 0, 89), (49, 3, 12, 0, 91), (52, 3, 13, 0, 92)],
  [(18, 1, 2, 1, 46), (24, 5, 2, 1, 154), (12, 4, 0, 0, 165)],
  [(9, 5, 0, 0, 151), (15, 5, 1, 0, 152), (18, 5, 2, 0, 153), (22, 5, 3, 0, 155)],
  [(18, 1, 2, 1, 47), (24, 7, 1, 1, 183), (12, 6, 0, 0, 190)],
  [(9, 7, 0, 0, 181), (15, 7, 1, 0, 182)],
  [(9, 8, 0, 0, 204), (15, 8, 1, 0, 205), (18, 8, 2, 0, 206), (21, 8, 3, 0, 207), (24, 8, 4, 0, 208), (27, 8, 5, 0, 209), (31, 8, 6, 0, 210), (34, 8, 7, 0, 213), (37, 8, 8, 0, 215)],
  [(11, 9, 0, 0, 242), (15, 9, 1, 0, 243), (19, 9, 2, 0, 245)],
  [(54, 3, 9, 1, 84), (9, 10, 0, 0, 259), (15, 10, 1, 0, 260), (18, 10, 2, 0, 261), (22, 10, 3, 0, 262), (25, 10, 4, 0, 263), (28, 10, 5, 0, 264), (32, 10, 6, 0, 266), (35, 10, 7, 0, 267), (38, 10, 8, 0, 268), (41, 10, 9, 0, 270)],
  [(70, 3, 8, 1, 80), (47, 3, 9, 1, 83), (56, 8, 6, 1, 211), (9, 11, 0, 0, 300), (15, 11, 1, 0, 301), (18, 11, 2, 0, 302), (21, 11, 3, 0, 303), (25, 11, 4, 0, 304), (28, 11, 5, 0, 305), (31, 11, 6, 0, 306), (34, 11, 7, 0, 307), (38, 11, 8, 0, 309), (41, 11, 9, 0, 311), (44, 11, 10, 0, 313)],
  [(102, 12, 0, 0, 1316), (9, 12, 1, 0, 1317), (13, 12, 2, 0, 1318), (16, 12, 3, 0, 1319), (20, 12, 4, 0, 1320), (23, 12, 5, 0, 1321), (115, 12, 6, 0, 1322), (311, 12, 7, 0, 1323), (131, 12, 8, 0, 1324), (128, 12, 9, 0, 1325), (125, 12, 10, 0, 1326), (134, 12, 11, 0, 1327), (137, 12, 12, 0, 1328), (207, 12, 13, 0, 1329), (210, 12, 14, 0, 1330), (28, 12, 15, 0, 1331), (34, 12, 16, 0, 1332), (203, 12, 17, 0, 1333), (37, 12, 18, 0, 1334), (40, 12, 19, 0, 1335), (43, 12, 20, 0, 1336), (46, 12, 21, 0, 1337), (49, 12, 22, 0, 1338), (52, 12, 23, 0, 1339), (55, 12, 24, 0, 1340), (58, 12, 25, 0, 1341), (61, 12, 26, 0, 1342), (64, 12, 27, 0, 1343), (67, 12, 28, 0, 1344), (70, 12, 29, 0, 1345), (319, 12, 30, 0, 1346), (322, 12, 31, 0, 1347), (325, 12, 32, 0, 1348), (328, 12, 33, 0, 1349), (335, 12, 34, 0, 1350), (250, 12, 35, 0, 1351), (266, 12, 36, 0, 1352), (269, 12, 37, 0, 1353), (272, 12, 38, 0, 1354), (314, 12, 39, 0, 1355), (263, 12, 40, 0, 1356), (73, 12, 41, 0, 1357), (76, 12, 42, 0, 1358), (79, 12, 43, 0, 1359), (83, 12, 44, 0, 1360), (344, 12, 45, 0, 1361), (410, 12, 46, 0, 1362), (439, 12, 47, 0, 1363), (442, 12, 48, 0, 1364), (86, 12, 49, 0, 1365), (89, 12, 50, 0, 1366), (92, 12, 51, 0, 1367), (341, 12, 52, 0, 1368), (96, 12, 53, 0, 1369), (99, 12, 54, 0, 1370), (347, 12, 55, 0, 1371)],
  [(15, 31, 1, 0, 1985), (9, 31, 0, 0, 1986)],
  [],
  [],
  [],
  []]
def am_cps : List (List (Nat × Nat × Nat × Nat × Nat)) := [[], [], [(118, 0, 3, 1, 423), (66, 0, 0, 1, 527), (106, 0, 2, 1, 555), (109, 0, 1, 1, 557)], [], [], [], [], [], [], [], [], [], [], [(38, 1, 1, 0, 453)], [], [], [], []]
def am_cpc : List (List (Nat × Nat × Int × Nat)) := [[(293, 0, (-1000000), 995), (185, 1, 8, 1282)], [], [(60, 1, 0, 433), (77, 1, 1, 536), (79, 1, 2, 537), (81, 1, 3, 538), (83, 1, 4, 539), (85, 1, 5, 540), (116, 1, 6, 568)], [], [(68, 1, 7, 655)], [(41, 0, (-1000000), 831), (42, 0, 1000000, 832)], [(42, 1, 6, 694)], [], [], [], [], [], [(26, 1, 9, 1314), (32, 1, 7, 1315), (275, 1, 1, 1535), (253, 1, 2, 1589), (248, 1, 6, 1594), (280, 1, 3, 1595), (282, 1, 4, 1596), (284, 1, 5, 1597), (426, 0, (-1000000), 1816)], [], [], [], [(265, 0, 1431655765, 917), (266, 0, 858993459, 918), (267, 0, 252645135, 919)], []]
def am_cpl : List (List (Nat × Int × Nat)) := [[(419, 6364136223846793005, 940), (421, 1442695040888963407, 941), (368, 1000000, 1152)], [], [], [], [], [], [], [], [], [], [], [], [(300, 2, 1508), (147, (-1000000), 1655), (149, 1000000, 1656), (370, 3, 1690), (375, 4, 1699), (380, 6, 1728), (418, 60, 1789), (414, 6364136223846793005, 1794), (416, 1442695040888963407, 1795), (449, 40, 1837), (451, 9, 1847), (453, 5, 1868)], [], [], [], [], [(76, 4294967295, 1966)]]
def am_str : List (List Int32) := [[115, 118, 105, 107, 102], [119, 104, 97, 121], [99, 100, 102], [99, 100], [99, 112], [99, 119, 105, 120, 101, 103], [114, 100, 108, 117], [100, 109, 105, 120, 115, 111], [110, 111, 32, 115, 117, 99, 104, 32, 102, 111, 114, 107, 44, 32, 111, 114, 32, 110, 111, 116, 104, 105, 110, 103, 32, 111, 102, 32, 97, 32, 102, 111, 114, 107], [121]]
def am_strT : List String := ["svikf", "whay", "cdf", "cd", "cp", "cwixeg", "rdlu", "dmixso", "no such fork, or nothing of a fork", "y"]
def am_sta : List (List Int) := [[1, 4, 6, 6, 6], [1, 1, 0, 1, 0, 0, 0, 1, 0, 0, 0, 0, 0, 1, 0, 0, 0, 0, 0, 1, 0, 0, 0, 0, 0, 0, 0, 0, 0, 0], [6, 5, 9, 9, 0, 0, 29, 60, 9, 0, 0, 0, 29, 9, 0, 0, 0, 0, 29, 9, 0, 0, 0, 0, 29, 60, 9, 30, 9, 1], [5, 4, 2, 1, 0, 0, 0, 20, 0, 0, 0, 0, 0, 2, 0, 0, 0, 0, 0, 1, 0, 0, 0, 0, 0, 30, 0, 30, 0, 0]]
def am_staN : List String := ["KIND_MOST", "ITEM_LEAST", "ITEM_MOST", "ITEM_WITHOUT"]
theorem nm_HF : ∀ a, a < 18 → ∀ b, b < 18 → a ≠ b → (F_HF a).2.1 ≠ (F_HF b).2.1 := by decide +kernel
theorem ty_HF : ∀ k, k < 18 → parseFieldDescriptor (F_HF k).2.2.1 = some (T_HF k) := by decide +kernel
theorem nm_Tape : ∀ a, a < 3 → ∀ b, b < 3 → a ≠ b → (F_Tape a).2.1 ≠ (F_Tape b).2.1 := by decide +kernel
theorem ty_Tape : ∀ k, k < 3 → parseFieldDescriptor (F_Tape k).2.2.1 = some (T_Tape k) := by decide +kernel
theorem nm_HR : ∀ a, a < 5 → ∀ b, b < 5 → a ≠ b → (F_HR a).2.1 ≠ (F_HR b).2.1 := by decide +kernel
theorem ty_HR : ∀ k, k < 5 → parseFieldDescriptor (F_HR k).2.2.1 = some (T_HR k) := by decide +kernel
theorem nm_Heath : ∀ a, a < 14 → ∀ b, b < 14 → a ≠ b → (F_Heath a).2.1 ≠ (F_Heath b).2.1 := by decide +kernel
theorem ty_Heath : ∀ k, k < 14 → parseFieldDescriptor (F_Heath k).2.2.1 = some (T_Heath k) := by decide +kernel
theorem nm_LR : ∀ a, a < 1 → ∀ b, b < 1 → a ≠ b → (F_LR a).2.1 ≠ (F_LR b).2.1 := by decide +kernel
theorem ty_LR : ∀ k, k < 1 → parseFieldDescriptor (F_LR k).2.2.1 = some (T_LR k) := by decide +kernel
theorem nm_Law : ∀ a, a < 4 → ∀ b, b < 4 → a ≠ b → (F_Law a).2.1 ≠ (F_Law b).2.1 := by decide +kernel
theorem ty_Law : ∀ k, k < 4 → parseFieldDescriptor (F_Law k).2.2.1 = some (T_Law k) := by decide +kernel
theorem nm_WR : ∀ a, a < 1 → ∀ b, b < 1 → a ≠ b → (F_WR a).2.1 ≠ (F_WR b).2.1 := by decide +kernel
theorem ty_WR : ∀ k, k < 1 → parseFieldDescriptor (F_WR k).2.2.1 = some (T_WR k) := by decide +kernel
theorem nm_Walks : ∀ a, a < 2 → ∀ b, b < 2 → a ≠ b → (F_Walks a).2.1 ≠ (F_Walks b).2.1 := by decide +kernel
theorem ty_Walks : ∀ k, k < 2 → parseFieldDescriptor (F_Walks k).2.2.1 = some (T_Walks k) := by decide +kernel
theorem nm_Moor : ∀ a, a < 9 → ∀ b, b < 9 → a ≠ b → (F_Moor a).2.1 ≠ (F_Moor b).2.1 := by decide +kernel
theorem ty_Moor : ∀ k, k < 9 → parseFieldDescriptor (F_Moor k).2.2.1 = some (T_Moor k) := by decide +kernel
theorem nm_Acts : ∀ a, a < 3 → ∀ b, b < 3 → a ≠ b → (F_Acts a).2.1 ≠ (F_Acts b).2.1 := by decide +kernel
theorem ty_Acts : ∀ k, k < 3 → parseFieldDescriptor (F_Acts k).2.2.1 = some (T_Acts k) := by decide +kernel
theorem nm_Heard : ∀ a, a < 10 → ∀ b, b < 10 → a ≠ b → (F_Heard a).2.1 ≠ (F_Heard b).2.1 := by decide +kernel
theorem ty_Heard : ∀ k, k < 10 → parseFieldDescriptor (F_Heard k).2.2.1 = some (T_Heard k) := by decide +kernel
theorem nm_Plan : ∀ a, a < 11 → ∀ b, b < 11 → a ≠ b → (F_Plan a).2.1 ≠ (F_Plan b).2.1 := by decide +kernel
theorem ty_Plan : ∀ k, k < 11 → parseFieldDescriptor (F_Plan k).2.2.1 = some (T_Plan k) := by decide +kernel
theorem nm_R : ∀ a, a < 56 → ∀ b, b < 56 → a ≠ b → (F_R a).2.1 ≠ (F_R b).2.1 := by decide +kernel
theorem ty_R : ∀ k, k < 56 → parseFieldDescriptor (F_R k).2.2.1 = some (T_R k) := by decide +kernel
