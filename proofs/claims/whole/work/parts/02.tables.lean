/-! the words that hold through calls; names and fields of the classes; what the cells are (printed by wip/whole/gen_tables.py from the class files' listing) -/
def TG : List Cond := lw_tbl.filter goodWord
theorem tg_good : ∀ w ∈ TG, (w.onTables && w.keeps) = true ∨ ∃ ty, w = .arrayClass ty := fun w h => good_of_word (List.mem_filter.mp h).2
theorem tg_in {w : Cond} (i : Nat) (h : lw_tbl[i]? = some w) (hg : goodWord w = true) : w ∈ TG := List.mem_filter.mpr ⟨List.mem_of_getElem? h, hg⟩
theorem tg_sub {ws : List Cond} (ps : List Nat) (hp : ws = ps.filterMap (fun i => lw_tbl[i]?)) (h : ws.all goodWord = true) : ∀ w ∈ ws, w ∈ TG := by
  intro w hw
  have h1 := List.all_eq_true.mp h w hw
  rw [hp] at hw
  obtain ⟨i, -, hi⟩ := List.mem_filterMap.mp hw
  exact List.mem_filter.mpr ⟨List.mem_of_getElem? hi, h1⟩
def R_Main : String := "LostPlaces"
def F_Main : u_T := fun k => match k with
  | 0 => ("LostPlaces", "tape", "LLostPlaces$Tape;", true)
  | 1 => ("LostPlaces", "room", "LLostPlaces$Room;", true)
  | 2 => ("LostPlaces", "draft", "LLostPlaces$Room;", true)
  | 3 => ("LostPlaces", "roomReader", "LLostPlaces$RoomReader;", true)
  | 4 => ("LostPlaces", "tasteReader", "LLostPlaces$TasteReader;", true)
  | 5 => ("LostPlaces", "tastes", "[LLostPlaces$Taste;", true)
  | 6 => ("LostPlaces", "tasteCount", "I", false)
  | 7 => ("LostPlaces", "heldTaste", "I", false)
  | 8 => ("LostPlaces", "unrest", "I", false)
  | 9 => ("LostPlaces", "likings", "LLostPlaces$Likings;", true)
  | 10 => ("LostPlaces", "evening", "LLostPlaces$Evening;", true)
  | 11 => ("LostPlaces", "now", "LLostPlaces$Hall;", true)
  | 12 => ("LostPlaces", "past", "[LLostPlaces$Hall;", true)
  | 13 => ("LostPlaces", "acts", "I", false)
  | 14 => ("LostPlaces", "newest", "I", false)
  | 15 => ("LostPlaces", "pictured", "LLostPlaces$Hall;", true)
  | 16 => ("LostPlaces", "hasPicture", "Z", false)
  | 17 => ("LostPlaces", "guess", "LLostPlaces$Guess;", true)
  | 18 => ("LostPlaces", "game", "LLostPlaces$Game;", true)
  | _ => ("LostPlaces", "branches", "LLostPlaces$Branches;", true)
def t_Main : Nat → FieldType := fun k => match k with
  | 0 => .object "LostPlaces$Tape"
  | 1 => .object "LostPlaces$Room"
  | 2 => .object "LostPlaces$Room"
  | 3 => .object "LostPlaces$RoomReader"
  | 4 => .object "LostPlaces$TasteReader"
  | 5 => .array (.object "LostPlaces$Taste")
  | 6 => .int
  | 7 => .int
  | 8 => .int
  | 9 => .object "LostPlaces$Likings"
  | 10 => .object "LostPlaces$Evening"
  | 11 => .object "LostPlaces$Hall"
  | 12 => .array (.object "LostPlaces$Hall")
  | 13 => .int
  | 14 => .int
  | 15 => .object "LostPlaces$Hall"
  | 16 => .boolean
  | 17 => .object "LostPlaces$Guess"
  | 18 => .object "LostPlaces$Game"
  | _ => .object "LostPlaces$Branches"
theorem n_Main : ∀ a, a < 20 → ∀ b, b < 20 → a ≠ b → (F_Main a).2.1 ≠ (F_Main b).2.1 := by decide +kernel
theorem t_Main_ok : ∀ k, k < 20 → parseFieldDescriptor (F_Main k).2.2.1 = some (t_Main k) := by decide +kernel
set_option maxRecDepth 20000 in
theorem i_Main : ∀ w ∈ u_ws R_Main F_Main 20, w ∈ TG := tg_sub [605, 607, 609, 611, 613, 615, 617, 619, 621, 623, 625, 627, 629, 631, 633, 635, 637, 639, 641, 643] (by decide +kernel) (by decide +kernel)
def R_Branches : String := "LostPlaces$Branches"
def F_Branches : u_T := fun k => match k with
  | 0 => ("LostPlaces$Branches", "room", "LLostPlaces$Room;", true)
  | 1 => ("LostPlaces$Branches", "likings", "LLostPlaces$Likings;", true)
  | 2 => ("LostPlaces$Branches", "evening", "LLostPlaces$Evening;", true)
  | 3 => ("LostPlaces$Branches", "now", "LLostPlaces$Hall;", true)
  | 4 => ("LostPlaces$Branches", "halls", "[LLostPlaces$Hall;", true)
  | 5 => ("LostPlaces$Branches", "lasts", "I", false)
  | 6 => ("LostPlaces$Branches", "bestOrder", "I", false)
  | 7 => ("LostPlaces$Branches", "bestGap", "I", false)
  | 8 => ("LostPlaces$Branches", "toldWho", "[I", true)
  | 9 => ("LostPlaces$Branches", "toldWhere", "[I", true)
  | 10 => ("LostPlaces$Branches", "toldCount", "I", false)
  | 11 => ("LostPlaces$Branches", "coming", "[I", true)
  | 12 => ("LostPlaces$Branches", "comingCount", "I", false)
  | 13 => ("LostPlaces$Branches", "fits", "[Z", true)
  | 14 => ("LostPlaces$Branches", "asked", "LLostPlaces$Hall;", true)
  | 15 => ("LostPlaces$Branches", "askedLikings", "I", false)
  | _ => ("LostPlaces$Branches", "askedTold", "I", false)
def t_Branches : Nat → FieldType := fun k => match k with
  | 0 => .object "LostPlaces$Room"
  | 1 => .object "LostPlaces$Likings"
  | 2 => .object "LostPlaces$Evening"
  | 3 => .object "LostPlaces$Hall"
  | 4 => .array (.object "LostPlaces$Hall")
  | 5 => .int
  | 6 => .int
  | 7 => .int
  | 8 => .array .int
  | 9 => .array .int
  | 10 => .int
  | 11 => .array .int
  | 12 => .int
  | 13 => .array .boolean
  | 14 => .object "LostPlaces$Hall"
  | 15 => .int
  | _ => .int
theorem n_Branches : ∀ a, a < 17 → ∀ b, b < 17 → a ≠ b → (F_Branches a).2.1 ≠ (F_Branches b).2.1 := by decide +kernel
theorem t_Branches_ok : ∀ k, k < 17 → parseFieldDescriptor (F_Branches k).2.2.1 = some (t_Branches k) := by decide +kernel
set_option maxRecDepth 20000 in
theorem i_Branches : ∀ w ∈ u_ws R_Branches F_Branches 17, w ∈ TG := tg_sub [548, 550, 552, 554, 556, 558, 560, 562, 564, 566, 568, 570, 572, 574, 576, 578, 580] (by decide +kernel) (by decide +kernel)
def R_Evening : String := "LostPlaces$Evening"
def F_Evening : u_T := fun k => match k with
  | 0 => ("LostPlaces$Evening", "room", "LLostPlaces$Room;", true)
  | 1 => ("LostPlaces$Evening", "likings", "LLostPlaces$Likings;", true)
  | 2 => ("LostPlaces$Evening", "happening", "I", false)
  | 3 => ("LostPlaces$Evening", "moreWho", "I", false)
  | 4 => ("LostPlaces$Evening", "moreLeaves", "I", false)
  | 5 => ("LostPlaces$Evening", "moreLasts", "I", false)
  | _ => ("LostPlaces$Evening", "drawn", "J", false)
def t_Evening : Nat → FieldType := fun k => match k with
  | 0 => .object "LostPlaces$Room"
  | 1 => .object "LostPlaces$Likings"
  | 2 => .int
  | 3 => .int
  | 4 => .int
  | 5 => .int
  | _ => .long
theorem n_Evening : ∀ a, a < 7 → ∀ b, b < 7 → a ≠ b → (F_Evening a).2.1 ≠ (F_Evening b).2.1 := by decide +kernel
theorem t_Evening_ok : ∀ k, k < 7 → parseFieldDescriptor (F_Evening k).2.2.1 = some (t_Evening k) := by decide +kernel
set_option maxRecDepth 20000 in
theorem i_Evening : ∀ w ∈ u_ws R_Evening F_Evening 7, w ∈ TG := tg_sub [372, 374, 376, 378, 380, 382, 384] (by decide +kernel) (by decide +kernel)
def R_Game : String := "LostPlaces$Game"
def F_Game : u_T := fun k => match k with
  | 0 => ("LostPlaces$Game", "room", "LLostPlaces$Room;", true)
  | 1 => ("LostPlaces$Game", "evening", "LLostPlaces$Evening;", true)
  | 2 => ("LostPlaces$Game", "now", "LLostPlaces$Hall;", true)
  | 3 => ("LostPlaces$Game", "hall", "LLostPlaces$Hall;", true)
  | 4 => ("LostPlaces$Game", "here", "[I", true)
  | 5 => ("LostPlaces$Game", "size", "I", false)
  | 6 => ("LostPlaces$Game", "numbers", "[I", true)
  | _ => ("LostPlaces$Game", "joys", "[I", true)
def t_Game : Nat → FieldType := fun k => match k with
  | 0 => .object "LostPlaces$Room"
  | 1 => .object "LostPlaces$Evening"
  | 2 => .object "LostPlaces$Hall"
  | 3 => .object "LostPlaces$Hall"
  | 4 => .array .int
  | 5 => .int
  | 6 => .array .int
  | _ => .array .int
theorem n_Game : ∀ a, a < 8 → ∀ b, b < 8 → a ≠ b → (F_Game a).2.1 ≠ (F_Game b).2.1 := by decide +kernel
theorem t_Game_ok : ∀ k, k < 8 → parseFieldDescriptor (F_Game k).2.2.1 = some (t_Game k) := by decide +kernel
set_option maxRecDepth 20000 in
theorem i_Game : ∀ w ∈ u_ws R_Game F_Game 8, w ∈ TG := tg_sub [503, 505, 507, 509, 511, 513, 515, 517] (by decide +kernel) (by decide +kernel)
def R_Guess : String := "LostPlaces$Guess"
def F_Guess : u_T := fun k => match k with
  | 0 => ("LostPlaces$Guess", "room", "LLostPlaces$Room;", true)
  | 1 => ("LostPlaces$Guess", "likings", "LLostPlaces$Likings;", true)
  | 2 => ("LostPlaces$Guess", "evening", "LLostPlaces$Evening;", true)
  | 3 => ("LostPlaces$Guess", "now", "LLostPlaces$Hall;", true)
  | 4 => ("LostPlaces$Guess", "hall", "LLostPlaces$Hall;", true)
  | 5 => ("LostPlaces$Guess", "found", "I", false)
  | _ => ("LostPlaces$Guess", "value", "I", false)
def t_Guess : Nat → FieldType := fun k => match k with
  | 0 => .object "LostPlaces$Room"
  | 1 => .object "LostPlaces$Likings"
  | 2 => .object "LostPlaces$Evening"
  | 3 => .object "LostPlaces$Hall"
  | 4 => .object "LostPlaces$Hall"
  | 5 => .int
  | _ => .int
theorem n_Guess : ∀ a, a < 7 → ∀ b, b < 7 → a ≠ b → (F_Guess a).2.1 ≠ (F_Guess b).2.1 := by decide +kernel
theorem t_Guess_ok : ∀ k, k < 7 → parseFieldDescriptor (F_Guess k).2.2.1 = some (t_Guess k) := by decide +kernel
set_option maxRecDepth 20000 in
theorem i_Guess : ∀ w ∈ u_ws R_Guess F_Guess 7, w ∈ TG := tg_sub [472, 474, 476, 478, 480, 482, 484] (by decide +kernel) (by decide +kernel)
def R_Hall : String := "LostPlaces$Hall"
def F_Hall : u_T := fun k => match k with
  | 0 => ("LostPlaces$Hall", "where", "[I", true)
  | 1 => ("LostPlaces$Hall", "till", "[I", true)
  | 2 => ("LostPlaces$Hall", "keep", "[I", true)
  | 3 => ("LostPlaces$Hall", "joy", "[I", true)
  | 4 => ("LostPlaces$Hall", "on", "[I", true)
  | 5 => ("LostPlaces$Hall", "keptFor", "[I", true)
  | 6 => ("LostPlaces$Hall", "keptTill", "[I", true)
  | 7 => ("LostPlaces$Hall", "minute", "I", false)
  | 8 => ("LostPlaces$Hall", "moves", "I", false)
  | 9 => ("LostPlaces$Hall", "entries", "[I", true)
  | _ => ("LostPlaces$Hall", "settled", "I", false)
def t_Hall : Nat → FieldType := fun k => match k with
  | 0 => .array .int
  | 1 => .array .int
  | 2 => .array .int
  | 3 => .array .int
  | 4 => .array .int
  | 5 => .array .int
  | 6 => .array .int
  | 7 => .int
  | 8 => .int
  | 9 => .array .int
  | _ => .int
theorem n_Hall : ∀ a, a < 11 → ∀ b, b < 11 → a ≠ b → (F_Hall a).2.1 ≠ (F_Hall b).2.1 := by decide +kernel
theorem t_Hall_ok : ∀ k, k < 11 → parseFieldDescriptor (F_Hall k).2.2.1 = some (t_Hall k) := by decide +kernel
set_option maxRecDepth 20000 in
theorem i_Hall : ∀ w ∈ u_ws R_Hall F_Hall 11, w ∈ TG := tg_sub [430, 432, 434, 436, 438, 440, 442, 444, 446, 448, 450] (by decide +kernel) (by decide +kernel)
def R_Likings : String := "LostPlaces$Likings"
def F_Likings : u_T := fun k => match k with
  | 0 => ("LostPlaces$Likings", "room", "LLostPlaces$Room;", true)
  | 1 => ("LostPlaces$Likings", "table", "[I", true)
  | 2 => ("LostPlaces$Likings", "rows", "[I", true)
  | 3 => ("LostPlaces$Likings", "tills", "[I", true)
  | 4 => ("LostPlaces$Likings", "letters", "[I", true)
  | _ => ("LostPlaces$Likings", "renewals", "I", false)
def t_Likings : Nat → FieldType := fun k => match k with
  | 0 => .object "LostPlaces$Room"
  | 1 => .array .int
  | 2 => .array .int
  | 3 => .array .int
  | 4 => .array .int
  | _ => .int
theorem n_Likings : ∀ a, a < 6 → ∀ b, b < 6 → a ≠ b → (F_Likings a).2.1 ≠ (F_Likings b).2.1 := by decide +kernel
theorem t_Likings_ok : ∀ k, k < 6 → parseFieldDescriptor (F_Likings k).2.2.1 = some (t_Likings k) := by decide +kernel
set_option maxRecDepth 20000 in
theorem i_Likings : ∀ w ∈ u_ws R_Likings F_Likings 6, w ∈ TG := tg_sub [344, 346, 348, 350, 352, 354] (by decide +kernel) (by decide +kernel)
def R_Room : String := "LostPlaces$Room"
def F_Room : u_T := fun k => match k with
  | 0 => ("LostPlaces$Room", "seats", "I", false)
  | 1 => ("LostPlaces$Room", "sitters", "I", false)
  | 2 => ("LostPlaces$Room", "goings", "I", false)
  | 3 => ("LostPlaces$Room", "evenings", "I", false)
  | 4 => ("LostPlaces$Room", "worth", "[I", true)
  | 5 => ("LostPlaces$Room", "more", "[I", true)
  | 6 => ("LostPlaces$Room", "stands", "[I", true)
  | 7 => ("LostPlaces$Room", "begins", "[I", true)
  | 8 => ("LostPlaces$Room", "quick", "[I", true)
  | 9 => ("LostPlaces$Room", "step", "[I", true)
  | 10 => ("LostPlaces$Room", "keep", "[I", true)
  | 11 => ("LostPlaces$Room", "goer", "[I", true)
  | 12 => ("LostPlaces$Room", "leaves", "[I", true)
  | 13 => ("LostPlaces$Room", "lasts", "[I", true)
  | 14 => ("LostPlaces$Room", "film", "I", false)
  | _ => ("LostPlaces$Room", "ends", "I", false)
def t_Room : Nat → FieldType := fun k => match k with
  | 0 => .int
  | 1 => .int
  | 2 => .int
  | 3 => .int
  | 4 => .array .int
  | 5 => .array .int
  | 6 => .array .int
  | 7 => .array .int
  | 8 => .array .int
  | 9 => .array .int
  | 10 => .array .int
  | 11 => .array .int
  | 12 => .array .int
  | 13 => .array .int
  | 14 => .int
  | _ => .int
theorem n_Room : ∀ a, a < 16 → ∀ b, b < 16 → a ≠ b → (F_Room a).2.1 ≠ (F_Room b).2.1 := by decide +kernel
theorem t_Room_ok : ∀ k, k < 16 → parseFieldDescriptor (F_Room k).2.2.1 = some (t_Room k) := by decide +kernel
set_option maxRecDepth 20000 in
theorem i_Room : ∀ w ∈ u_ws R_Room F_Room 16, w ∈ TG := tg_sub [239, 241, 243, 245, 247, 249, 251, 253, 255, 257, 259, 261, 263, 265, 267, 269] (by decide +kernel) (by decide +kernel)
def R_RoomReader : String := "LostPlaces$RoomReader"
def F_RoomReader : u_T := fun k => match k with
  | 0 => ("LostPlaces$RoomReader", "tape", "LLostPlaces$Tape;", true)
  | _ => ("LostPlaces$RoomReader", "items", "[I", true)
def t_RoomReader : Nat → FieldType := fun k => match k with
  | 0 => .object "LostPlaces$Tape"
  | _ => .array .int
theorem n_RoomReader : ∀ a, a < 2 → ∀ b, b < 2 → a ≠ b → (F_RoomReader a).2.1 ≠ (F_RoomReader b).2.1 := by decide +kernel
theorem t_RoomReader_ok : ∀ k, k < 2 → parseFieldDescriptor (F_RoomReader k).2.2.1 = some (t_RoomReader k) := by decide +kernel
set_option maxRecDepth 20000 in
theorem i_RoomReader : ∀ w ∈ u_ws R_RoomReader F_RoomReader 2, w ∈ TG := tg_sub [280, 282] (by decide +kernel) (by decide +kernel)
def R_Tape : String := "LostPlaces$Tape"
def F_Tape : u_T := fun k => match k with
  | 0 => ("LostPlaces$Tape", "bytes", "[I", true)
  | 1 => ("LostPlaces$Tape", "length", "I", false)
  | 2 => ("LostPlaces$Tape", "next", "I", false)
  | _ => ("LostPlaces$Tape", "wrong", "I", false)
def t_Tape : Nat → FieldType := fun k => match k with
  | 0 => .array .int
  | 1 => .int
  | 2 => .int
  | _ => .int
theorem n_Tape : ∀ a, a < 4 → ∀ b, b < 4 → a ≠ b → (F_Tape a).2.1 ≠ (F_Tape b).2.1 := by decide +kernel
theorem t_Tape_ok : ∀ k, k < 4 → parseFieldDescriptor (F_Tape k).2.2.1 = some (t_Tape k) := by decide +kernel
set_option maxRecDepth 20000 in
theorem i_Tape : ∀ w ∈ u_ws R_Tape F_Tape 4, w ∈ TG := tg_sub [156, 158, 160, 162] (by decide +kernel) (by decide +kernel)
def R_Taste : String := "LostPlaces$Taste"
def F_Taste : u_T := fun k => match k with
  | 0 => ("LostPlaces$Taste", "codes", "[I", true)
  | 1 => ("LostPlaces$Taste", "length", "I", false)
  | 2 => ("LostPlaces$Taste", "stack", "[I", true)
  | _ => ("LostPlaces$Taste", "tellsMinute", "Z", false)
def t_Taste : Nat → FieldType := fun k => match k with
  | 0 => .array .int
  | 1 => .int
  | 2 => .array .int
  | _ => .boolean
theorem n_Taste : ∀ a, a < 4 → ∀ b, b < 4 → a ≠ b → (F_Taste a).2.1 ≠ (F_Taste b).2.1 := by decide +kernel
theorem t_Taste_ok : ∀ k, k < 4 → parseFieldDescriptor (F_Taste k).2.2.1 = some (t_Taste k) := by decide +kernel
set_option maxRecDepth 20000 in
theorem i_Taste : ∀ w ∈ u_ws R_Taste F_Taste 4, w ∈ TG := tg_sub [302, 304, 306, 308] (by decide +kernel) (by decide +kernel)
def R_TasteReader : String := "LostPlaces$TasteReader"
def F_TasteReader : u_T := fun k => match k with
  | 0 => ("LostPlaces$TasteReader", "tape", "LLostPlaces$Tape;", true)
  | _ => ("LostPlaces$TasteReader", "into", "LLostPlaces$Taste;", false)
def t_TasteReader : Nat → FieldType := fun k => match k with
  | 0 => .object "LostPlaces$Tape"
  | _ => .object "LostPlaces$Taste"
theorem n_TasteReader : ∀ a, a < 2 → ∀ b, b < 2 → a ≠ b → (F_TasteReader a).2.1 ≠ (F_TasteReader b).2.1 := by decide +kernel
theorem t_TasteReader_ok : ∀ k, k < 2 → parseFieldDescriptor (F_TasteReader k).2.2.1 = some (t_TasteReader k) := by decide +kernel
set_option maxRecDepth 20000 in
theorem i_TasteReader : ∀ w ∈ u_ws R_TasteReader F_TasteReader 2, w ∈ TG := tg_sub [313, 315] (by decide +kernel) (by decide +kernel)
def R_Model : String := "LostPlacesModel"
def F_Model : u_T := fun k => match k with
  | 0 => ("LostPlacesModel", "thrown", "I", false)
  | 1 => ("LostPlacesModel", "tape", "[B", true)
  | 2 => ("LostPlacesModel", "texts", "[B", true)
  | 3 => ("LostPlacesModel", "textLong", "[I", true)
  | 4 => ("LostPlacesModel", "letters", "[I", true)
  | 5 => ("LostPlacesModel", "text", "[B", false)
  | 6 => ("LostPlacesModel", "length", "I", false)
  | 7 => ("LostPlacesModel", "tasteMany", "I", false)
  | 8 => ("LostPlacesModel", "begins", "I", false)
  | 9 => ("LostPlacesModel", "ends", "I", false)
  | 10 => ("LostPlacesModel", "at", "I", false)
  | 11 => ("LostPlacesModel", "fault", "I", false)
  | 12 => ("LostPlacesModel", "deep", "I", false)
  | 13 => ("LostPlacesModel", "label", "I", false)
  | 14 => ("LostPlacesModel", "found", "I", false)
  | 15 => ("LostPlacesModel", "labels", "Ljava/lang/String;", true)
  | 16 => ("LostPlacesModel", "allowed", "Ljava/lang/String;", true)
  | 17 => ("LostPlacesModel", "hasFound", "Z", false)
  | 18 => ("LostPlacesModel", "seat", "[I", true)
  | 19 => ("LostPlacesModel", "seatRead", "[I", true)
  | 20 => ("LostPlacesModel", "sitter", "[I", true)
  | 21 => ("LostPlacesModel", "sitterRead", "[I", true)
  | 22 => ("LostPlacesModel", "going", "[I", true)
  | 23 => ("LostPlacesModel", "goingRead", "[I", true)
  | 24 => ("LostPlacesModel", "evening", "[I", true)
  | 25 => ("LostPlacesModel", "eveningRead", "[I", true)
  | 26 => ("LostPlacesModel", "seats", "I", false)
  | 27 => ("LostPlacesModel", "sitters", "I", false)
  | 28 => ("LostPlacesModel", "goings", "I", false)
  | 29 => ("LostPlacesModel", "seatsRead", "I", false)
  | 30 => ("LostPlacesModel", "sittersRead", "I", false)
  | 31 => ("LostPlacesModel", "goingsRead", "I", false)
  | 32 => ("LostPlacesModel", "hasEvening", "Z", false)
  | 33 => ("LostPlacesModel", "now", "[I", true)
  | 34 => ("LostPlacesModel", "trial", "[I", true)
  | 35 => ("LostPlacesModel", "taste", "I", false)
  | 36 => ("LostPlacesModel", "restless", "I", false)
  | 37 => ("LostPlacesModel", "memoKey", "[J", true)
  | 38 => ("LostPlacesModel", "memoWorth", "[I", true)
  | 39 => ("LostPlacesModel", "happens", "I", false)
  | 40 => ("LostPlacesModel", "extras", "I", false)
  | 41 => ("LostPlacesModel", "movesNow", "I", false)
  | 42 => ("LostPlacesModel", "extraWho", "[I", true)
  | 43 => ("LostPlacesModel", "extraWhen", "[I", true)
  | 44 => ("LostPlacesModel", "extraLong", "[I", true)
  | 45 => ("LostPlacesModel", "undoRow", "[I", true)
  | 46 => ("LostPlacesModel", "acts", "I", false)
  | 47 => ("LostPlacesModel", "x", "J", false)
  | 48 => ("LostPlacesModel", "hereRow", "[I", true)
  | 49 => ("LostPlacesModel", "numbers", "[I", true)
  | 50 => ("LostPlacesModel", "callJoy", "[I", true)
  | 51 => ("LostPlacesModel", "hereMany", "I", false)
  | 52 => ("LostPlacesModel", "orderRow", "[I", true)
  | 53 => ("LostPlacesModel", "fairBest", "I", false)
  | 54 => ("LostPlacesModel", "fairDigits", "I", false)
  | 55 => ("LostPlacesModel", "toldWho", "[I", true)
  | 56 => ("LostPlacesModel", "toldSeat", "[I", true)
  | 57 => ("LostPlacesModel", "told", "I", false)
  | 58 => ("LostPlacesModel", "imageRow", "[I", true)
  | _ => ("LostPlacesModel", "hasImage", "Z", false)
def t_Model : Nat → FieldType := fun k => match k with
  | 0 => .int
  | 1 => .array .byte
  | 2 => .array .byte
  | 3 => .array .int
  | 4 => .array .int
  | 5 => .array .byte
  | 6 => .int
  | 7 => .int
  | 8 => .int
  | 9 => .int
  | 10 => .int
  | 11 => .int
  | 12 => .int
  | 13 => .int
  | 14 => .int
  | 15 => .object "java/lang/String"
  | 16 => .object "java/lang/String"
  | 17 => .boolean
  | 18 => .array .int
  | 19 => .array .int
  | 20 => .array .int
  | 21 => .array .int
  | 22 => .array .int
  | 23 => .array .int
  | 24 => .array .int
  | 25 => .array .int
  | 26 => .int
  | 27 => .int
  | 28 => .int
  | 29 => .int
  | 30 => .int
  | 31 => .int
  | 32 => .boolean
  | 33 => .array .int
  | 34 => .array .int
  | 35 => .int
  | 36 => .int
  | 37 => .array .long
  | 38 => .array .int
  | 39 => .int
  | 40 => .int
  | 41 => .int
  | 42 => .array .int
  | 43 => .array .int
  | 44 => .array .int
  | 45 => .array .int
  | 46 => .int
  | 47 => .long
  | 48 => .array .int
  | 49 => .array .int
  | 50 => .array .int
  | 51 => .int
  | 52 => .array .int
  | 53 => .int
  | 54 => .int
  | 55 => .array .int
  | 56 => .array .int
  | 57 => .int
  | 58 => .array .int
  | _ => .boolean
theorem n_Model : ∀ a, a < 60 → ∀ b, b < 60 → a ≠ b → (F_Model a).2.1 ≠ (F_Model b).2.1 := by decide +kernel
theorem t_Model_ok : ∀ k, k < 60 → parseFieldDescriptor (F_Model k).2.2.1 = some (t_Model k) := by decide +kernel
set_option maxRecDepth 20000 in
theorem i_Model : ∀ w ∈ u_ws R_Model F_Model 60, w ∈ TG := tg_sub [1549, 1551, 1553, 1555, 1557, 1559, 1561, 1563, 1565, 1567, 1569, 1571, 1573, 1575, 1577, 1579, 1581, 1583, 1585, 1587, 1589, 1591, 1593, 1595, 1597, 1599, 1601, 1603, 1605, 1607, 1609, 1611, 1613, 1615, 1617, 1619, 1621, 1623, 1625, 1627, 1629, 1631, 1633, 1635, 1637, 1639, 1641, 1643, 1645, 1647, 1649, 1651, 1653, 1655, 1657, 1659, 1661, 1663, 1665, 1667] (by decide +kernel) (by decide +kernel)
abbrev xcl : List vw_C := [(R_Main, F_Main, 20), (R_Branches, F_Branches, 17), (R_Evening, F_Evening, 7), (R_Game, F_Game, 8), (R_Guess, F_Guess, 7), (R_Hall, F_Hall, 11), (R_Likings, F_Likings, 6), (R_Room, F_Room, 16), (R_RoomReader, F_RoomReader, 2), (R_Tape, F_Tape, 4), (R_Taste, F_Taste, 4), (R_TasteReader, F_TasteReader, 2), (R_Model, F_Model, 60)]
/-- kinds of fields: 0 int, 1 long, 2 a cell by its distance, 3 a cell by its number, 4 the first that changes, 5 the second, 6 a text -/
def xfk : Nat → List (Nat × Nat) := fun c => match c with
  | 0 => [(3, 2), (3, 4), (3, 15), (3, 26), (3, 28), (3, 32), (0, 0), (0, 0), (0, 0), (3, 33), (3, 38), (3, 39), (3, 48), (0, 0), (0, 0), (3, 49), (0, 0), (3, 58), (3, 68), (3, 81)]
  | 1 => [(3, 4), (3, 33), (3, 38), (3, 39), (3, 82), (0, 0), (0, 0), (0, 0), (3, 83), (3, 84), (0, 0), (3, 85), (0, 0), (3, 86), (3, 87), (0, 0), (0, 0)]
  | 2 => [(3, 4), (3, 33), (0, 0), (0, 0), (0, 0), (0, 0), (1, 0)]
  | 3 => [(3, 4), (3, 38), (3, 39), (3, 69), (3, 78), (0, 0), (3, 79), (3, 80)]
  | 4 => [(3, 4), (3, 33), (3, 38), (3, 39), (3, 59), (0, 0), (0, 0)]
  | 5 => [(2, 1), (2, 2), (2, 3), (2, 4), (2, 5), (2, 6), (2, 7), (0, 0), (0, 0), (2, 8), (0, 0)]
  | 6 => [(3, 4), (3, 34), (3, 35), (3, 36), (3, 37), (0, 0)]
  | 7 => [(0, 0), (0, 0), (0, 0), (0, 0), (2, 1), (2, 2), (2, 3), (2, 4), (2, 5), (2, 6), (2, 7), (2, 8), (2, 9), (2, 10), (0, 0), (0, 0)]
  | 8 => [(3, 2), (3, 27)]
  | 9 => [(3, 3), (0, 0), (0, 0), (0, 0)]
  | 10 => [(2, 1), (0, 0), (2, 2), (0, 0)]
  | 11 => [(3, 2), (4, 0)]
  | 12 => [(0, 0), (3, 571), (3, 572), (3, 573), (3, 574), (5, 0), (0, 0), (0, 0), (0, 0), (0, 0), (0, 0), (0, 0), (0, 0), (0, 0), (0, 0), (6, 9), (6, 0), (0, 0), (3, 575), (3, 576), (3, 577), (3, 578), (3, 579), (3, 580), (3, 581), (3, 582), (0, 0), (0, 0), (0, 0), (0, 0), (0, 0), (0, 0), (0, 0), (3, 583), (3, 584), (0, 0), (0, 0), (3, 585), (3, 586), (0, 0), (0, 0), (0, 0), (3, 587), (3, 588), (3, 589), (3, 590), (0, 0), (1, 0), (3, 591), (3, 592), (3, 593), (0, 0), (3, 594), (0, 0), (0, 0), (3, 595), (3, 596), (0, 0), (3, 597), (0, 0)]
  | _ => []
/-- kinds of cells: 1 an object of a class; arrays and their lengths: 2 int, 3 byte, 4 boolean, 5 long, 6 halls from one on, 7 tastes from one on -/
def xkL_0 : List (Nat × Nat × Nat) := [(0, 0, 0), (1, 0, 0), (1, 9, 0), (2, 240, 0), (1, 7, 0), (2, 8, 0), (2, 8, 0), (2, 8, 0), (2, 8, 0), (2, 8, 0), (2, 8, 0), (2, 8, 0), (2, 10, 0), (2, 10, 0), (2, 10, 0), (1, 7, 0), (2, 8, 0), (2, 8, 0), (2, 8, 0), (2, 8, 0), (2, 8, 0), (2, 8, 0), (2, 8, 0), (2, 10, 0), (2, 10, 0), (2, 10, 0), (1, 8, 0), (2, 4, 0), (1, 11, 0), (1, 10, 0), (2, 480, 0), (2, 64, 0), (7, 5, 195), (1, 6, 0), (2, 6400, 0), (2, 100, 0), (2, 100, 0), (2, 6, 0), (1, 2, 0), (1, 5, 0), (2, 8, 0), (2, 8, 0), (2, 8, 0), (2, 8, 0), (2, 8, 0), (2, 8, 0), (2, 8, 0), (2, 240, 0), (6, 40, 210), (1, 5, 0), (2, 8, 0), (2, 8, 0), (2, 8, 0), (2, 8, 0), (2, 8, 0), (2, 8, 0), (2, 8, 0), (2, 240, 0), (1, 4, 0), (1, 5, 0)]
def xkL_1 : List (Nat × Nat × Nat) := [(2, 8, 0), (2, 8, 0), (2, 8, 0), (2, 8, 0), (2, 8, 0), (2, 8, 0), (2, 8, 0), (2, 240, 0), (1, 3, 0), (1, 5, 0), (2, 8, 0), (2, 8, 0), (2, 8, 0), (2, 8, 0), (2, 8, 0), (2, 8, 0), (2, 8, 0), (2, 240, 0), (2, 4, 0), (2, 4, 0), (2, 68, 0), (1, 1, 0), (6, 11, 96), (2, 8, 0), (2, 8, 0), (2, 10, 0), (4, 1024, 0), (1, 5, 0), (2, 8, 0), (2, 8, 0), (2, 8, 0), (2, 8, 0), (2, 8, 0), (2, 8, 0), (2, 8, 0), (2, 240, 0), (1, 5, 0), (2, 8, 0), (2, 8, 0), (2, 8, 0), (2, 8, 0), (2, 8, 0), (2, 8, 0), (2, 8, 0), (2, 240, 0), (1, 5, 0), (2, 8, 0), (2, 8, 0), (2, 8, 0), (2, 8, 0), (2, 8, 0), (2, 8, 0), (2, 8, 0), (2, 240, 0), (1, 5, 0), (2, 8, 0), (2, 8, 0), (2, 8, 0), (2, 8, 0), (2, 8, 0)]
def xkL_2 : List (Nat × Nat × Nat) := [(2, 8, 0), (2, 8, 0), (2, 240, 0), (1, 5, 0), (2, 8, 0), (2, 8, 0), (2, 8, 0), (2, 8, 0), (2, 8, 0), (2, 8, 0), (2, 8, 0), (2, 240, 0), (1, 5, 0), (2, 8, 0), (2, 8, 0), (2, 8, 0), (2, 8, 0), (2, 8, 0), (2, 8, 0), (2, 8, 0), (2, 240, 0), (1, 5, 0), (2, 8, 0), (2, 8, 0), (2, 8, 0), (2, 8, 0), (2, 8, 0), (2, 8, 0), (2, 8, 0), (2, 240, 0), (1, 5, 0), (2, 8, 0), (2, 8, 0), (2, 8, 0), (2, 8, 0), (2, 8, 0), (2, 8, 0), (2, 8, 0), (2, 240, 0), (1, 5, 0), (2, 8, 0), (2, 8, 0), (2, 8, 0), (2, 8, 0), (2, 8, 0), (2, 8, 0), (2, 8, 0), (2, 240, 0), (1, 5, 0), (2, 8, 0), (2, 8, 0), (2, 8, 0), (2, 8, 0), (2, 8, 0), (2, 8, 0), (2, 8, 0), (2, 240, 0), (1, 5, 0), (2, 8, 0), (2, 8, 0)]
def xkL_3 : List (Nat × Nat × Nat) := [(2, 8, 0), (2, 8, 0), (2, 8, 0), (2, 8, 0), (2, 8, 0), (2, 240, 0), (1, 5, 0), (2, 8, 0), (2, 8, 0), (2, 8, 0), (2, 8, 0), (2, 8, 0), (2, 8, 0), (2, 8, 0), (2, 240, 0), (1, 10, 0), (2, 480, 0), (2, 64, 0), (1, 10, 0), (2, 480, 0), (2, 64, 0), (1, 10, 0), (2, 480, 0), (2, 64, 0), (1, 10, 0), (2, 480, 0), (2, 64, 0), (1, 10, 0), (2, 480, 0), (2, 64, 0), (1, 5, 0), (2, 8, 0), (2, 8, 0), (2, 8, 0), (2, 8, 0), (2, 8, 0), (2, 8, 0), (2, 8, 0), (2, 240, 0), (1, 5, 0), (2, 8, 0), (2, 8, 0), (2, 8, 0), (2, 8, 0), (2, 8, 0), (2, 8, 0), (2, 8, 0), (2, 240, 0), (1, 5, 0), (2, 8, 0), (2, 8, 0), (2, 8, 0), (2, 8, 0), (2, 8, 0), (2, 8, 0), (2, 8, 0), (2, 240, 0), (1, 5, 0), (2, 8, 0), (2, 8, 0)]
def xkL_4 : List (Nat × Nat × Nat) := [(2, 8, 0), (2, 8, 0), (2, 8, 0), (2, 8, 0), (2, 8, 0), (2, 240, 0), (1, 5, 0), (2, 8, 0), (2, 8, 0), (2, 8, 0), (2, 8, 0), (2, 8, 0), (2, 8, 0), (2, 8, 0), (2, 240, 0), (1, 5, 0), (2, 8, 0), (2, 8, 0), (2, 8, 0), (2, 8, 0), (2, 8, 0), (2, 8, 0), (2, 8, 0), (2, 240, 0), (1, 5, 0), (2, 8, 0), (2, 8, 0), (2, 8, 0), (2, 8, 0), (2, 8, 0), (2, 8, 0), (2, 8, 0), (2, 240, 0), (1, 5, 0), (2, 8, 0), (2, 8, 0), (2, 8, 0), (2, 8, 0), (2, 8, 0), (2, 8, 0), (2, 8, 0), (2, 240, 0), (1, 5, 0), (2, 8, 0), (2, 8, 0), (2, 8, 0), (2, 8, 0), (2, 8, 0), (2, 8, 0), (2, 8, 0), (2, 240, 0), (1, 5, 0), (2, 8, 0), (2, 8, 0), (2, 8, 0), (2, 8, 0), (2, 8, 0), (2, 8, 0), (2, 8, 0), (2, 240, 0)]
def xkL_5 : List (Nat × Nat × Nat) := [(1, 5, 0), (2, 8, 0), (2, 8, 0), (2, 8, 0), (2, 8, 0), (2, 8, 0), (2, 8, 0), (2, 8, 0), (2, 240, 0), (1, 5, 0), (2, 8, 0), (2, 8, 0), (2, 8, 0), (2, 8, 0), (2, 8, 0), (2, 8, 0), (2, 8, 0), (2, 240, 0), (1, 5, 0), (2, 8, 0), (2, 8, 0), (2, 8, 0), (2, 8, 0), (2, 8, 0), (2, 8, 0), (2, 8, 0), (2, 240, 0), (1, 5, 0), (2, 8, 0), (2, 8, 0), (2, 8, 0), (2, 8, 0), (2, 8, 0), (2, 8, 0), (2, 8, 0), (2, 240, 0), (1, 5, 0), (2, 8, 0), (2, 8, 0), (2, 8, 0), (2, 8, 0), (2, 8, 0), (2, 8, 0), (2, 8, 0), (2, 240, 0), (1, 5, 0), (2, 8, 0), (2, 8, 0), (2, 8, 0), (2, 8, 0), (2, 8, 0), (2, 8, 0), (2, 8, 0), (2, 240, 0), (1, 5, 0), (2, 8, 0), (2, 8, 0), (2, 8, 0), (2, 8, 0), (2, 8, 0)]
def xkL_6 : List (Nat × Nat × Nat) := [(2, 8, 0), (2, 8, 0), (2, 240, 0), (1, 5, 0), (2, 8, 0), (2, 8, 0), (2, 8, 0), (2, 8, 0), (2, 8, 0), (2, 8, 0), (2, 8, 0), (2, 240, 0), (1, 5, 0), (2, 8, 0), (2, 8, 0), (2, 8, 0), (2, 8, 0), (2, 8, 0), (2, 8, 0), (2, 8, 0), (2, 240, 0), (1, 5, 0), (2, 8, 0), (2, 8, 0), (2, 8, 0), (2, 8, 0), (2, 8, 0), (2, 8, 0), (2, 8, 0), (2, 240, 0), (1, 5, 0), (2, 8, 0), (2, 8, 0), (2, 8, 0), (2, 8, 0), (2, 8, 0), (2, 8, 0), (2, 8, 0), (2, 240, 0), (1, 5, 0), (2, 8, 0), (2, 8, 0), (2, 8, 0), (2, 8, 0), (2, 8, 0), (2, 8, 0), (2, 8, 0), (2, 240, 0), (1, 5, 0), (2, 8, 0), (2, 8, 0), (2, 8, 0), (2, 8, 0), (2, 8, 0), (2, 8, 0), (2, 8, 0), (2, 240, 0), (1, 5, 0), (2, 8, 0), (2, 8, 0)]
def xkL_7 : List (Nat × Nat × Nat) := [(2, 8, 0), (2, 8, 0), (2, 8, 0), (2, 8, 0), (2, 8, 0), (2, 240, 0), (1, 5, 0), (2, 8, 0), (2, 8, 0), (2, 8, 0), (2, 8, 0), (2, 8, 0), (2, 8, 0), (2, 8, 0), (2, 240, 0), (1, 5, 0), (2, 8, 0), (2, 8, 0), (2, 8, 0), (2, 8, 0), (2, 8, 0), (2, 8, 0), (2, 8, 0), (2, 240, 0), (1, 5, 0), (2, 8, 0), (2, 8, 0), (2, 8, 0), (2, 8, 0), (2, 8, 0), (2, 8, 0), (2, 8, 0), (2, 240, 0), (1, 5, 0), (2, 8, 0), (2, 8, 0), (2, 8, 0), (2, 8, 0), (2, 8, 0), (2, 8, 0), (2, 8, 0), (2, 240, 0), (1, 5, 0), (2, 8, 0), (2, 8, 0), (2, 8, 0), (2, 8, 0), (2, 8, 0), (2, 8, 0), (2, 8, 0), (2, 240, 0), (1, 5, 0), (2, 8, 0), (2, 8, 0), (2, 8, 0), (2, 8, 0), (2, 8, 0), (2, 8, 0), (2, 8, 0), (2, 240, 0)]
def xkL_8 : List (Nat × Nat × Nat) := [(1, 5, 0), (2, 8, 0), (2, 8, 0), (2, 8, 0), (2, 8, 0), (2, 8, 0), (2, 8, 0), (2, 8, 0), (2, 240, 0), (1, 5, 0), (2, 8, 0), (2, 8, 0), (2, 8, 0), (2, 8, 0), (2, 8, 0), (2, 8, 0), (2, 8, 0), (2, 240, 0), (1, 5, 0), (2, 8, 0), (2, 8, 0), (2, 8, 0), (2, 8, 0), (2, 8, 0), (2, 8, 0), (2, 8, 0), (2, 240, 0), (1, 5, 0), (2, 8, 0), (2, 8, 0), (2, 8, 0), (2, 8, 0), (2, 8, 0), (2, 8, 0), (2, 8, 0), (2, 240, 0), (1, 5, 0), (2, 8, 0), (2, 8, 0), (2, 8, 0), (2, 8, 0), (2, 8, 0), (2, 8, 0), (2, 8, 0), (2, 240, 0), (1, 5, 0), (2, 8, 0), (2, 8, 0), (2, 8, 0), (2, 8, 0), (2, 8, 0), (2, 8, 0), (2, 8, 0), (2, 240, 0), (1, 5, 0), (2, 8, 0), (2, 8, 0), (2, 8, 0), (2, 8, 0), (2, 8, 0)]
def xkL_9 : List (Nat × Nat × Nat) := [(2, 8, 0), (2, 8, 0), (2, 240, 0), (1, 5, 0), (2, 8, 0), (2, 8, 0), (2, 8, 0), (2, 8, 0), (2, 8, 0), (2, 8, 0), (2, 8, 0), (2, 240, 0), (1, 5, 0), (2, 8, 0), (2, 8, 0), (2, 8, 0), (2, 8, 0), (2, 8, 0), (2, 8, 0), (2, 8, 0), (2, 240, 0), (1, 5, 0), (2, 8, 0), (2, 8, 0), (2, 8, 0), (2, 8, 0), (2, 8, 0), (2, 8, 0), (2, 8, 0), (2, 240, 0), (1, 12, 0), (3, 240, 0), (3, 960, 0), (2, 4, 0), (2, 128, 0), (2, 24, 0), (2, 24, 0), (2, 32, 0), (2, 32, 0), (2, 30, 0), (2, 30, 0), (2, 2, 0), (2, 2, 0), (2, 290, 0), (2, 290, 0), (5, 4093, 0), (2, 4093, 0), (2, 8, 0), (2, 8, 0), (2, 8, 0), (2, 11600, 0), (2, 8, 0), (2, 8, 0), (2, 2500, 0), (2, 8, 0), (2, 8, 0), (2, 8, 0), (2, 290, 0)]
def xkL : List (Nat × Nat × Nat) := xkL_0 ++ xkL_1 ++ xkL_2 ++ xkL_3 ++ xkL_4 ++ xkL_5 ++ xkL_6 ++ xkL_7 ++ xkL_8 ++ xkL_9
def xkd (a : Nat) : Nat × Nat × Nat := xkL.getD a (0, 0, 0)
def xHalls : List Nat := [39, 49, 59, 69, 87, 96, 105, 114, 123, 132, 141, 150, 159, 168, 177, 186, 210, 219, 228, 237, 246, 255, 264, 273, 282, 291, 300, 309, 318, 327, 336, 345, 354, 363, 372, 381, 390, 399, 408, 417, 426, 435, 444, 453, 462, 471, 480, 489, 498, 507, 516, 525, 534, 543, 552, 561]
def xTastes : List Nat := [29, 195, 198, 201, 204, 207]
def xRooms : List Nat := [4, 15]
