section
/-! ===== BEGIN words of one list among another's, by their places ===== -/
theorem goodIn_r {big : List Cond} (ws : List Cond) (ps : List Nat) (hp : ws = ps.filterMap (fun i => big[i]?)) (h : ws.all goodWord = true) : GoodIn big ws := by
  intro w hw
  have h1 := List.all_eq_true.mp h w hw
  rw [hp] at hw
  obtain ⟨i, -, hi⟩ := List.mem_filterMap.mp hw
  have hm : w ∈ big := by first | exact List.mem_of_getElem? hi | exact List.getElem?_mem hi
  exact ⟨hm, good_of_word h1⟩
theorem goodIn_app {big a b : List Cond} (ha : GoodIn big a) (hb : GoodIn big b) : GoodIn big (a ++ b) := fun w h => (List.mem_append.mp h).elim (ha w) (hb w)
theorem goodIn_ca {big a b : List Cond} {c : Cond} (ha : GoodIn big (c :: a)) (hb : GoodIn big b) : GoodIn big (c :: (a ++ b)) := fun w h => (List.mem_cons.mp h).elim (fun e => ha w (List.mem_cons.mpr (Or.inl e))) (fun h => (List.mem_append.mp h).elim (fun h => ha w (List.mem_cons.mpr (Or.inr h))) (hb w))
theorem goodIn_sub {big ws : List Cond} (hm : ∀ w ∈ ws, w ∈ big) (h : ws.all goodWord = true) : GoodIn big ws := fun w hw => ⟨hm w hw, good_of_word (List.all_eq_true.mp h w hw)⟩
/-! ===== END ===== -/

/-! ===== BEGIN printed: names, fields, word lists, decode rows ===== -/
def RX0 : String := "EachSeesOne$Boat"
def TX0 : u_T := fun k => match k with
  | 0 => ("EachSeesOne$Boat", "cell", "I", false)
  | 1 => ("EachSeesOne$Boat", "bow", "I", false)
  | 2 => ("EachSeesOne$Boat", "mind", "I", false)
  | 3 => ("EachSeesOne$Boat", "strokes", "I", false)
  | _ => ("EachSeesOne$Boat", "end", "I", false)
def tyX0 : Nat → FieldType := fun k => match k with
  | 0 => .int
  | 1 => .int
  | 2 => .int
  | 3 => .int
  | _ => .int
abbrev wsX00 : List Cond := u_ws RX0 TX0 5
theorem nmX0 : ∀ a, a < 5 → ∀ b, b < 5 → a ≠ b → (TX0 a).2.1 ≠ (TX0 b).2.1 := by decide +kernel
theorem tyX0_ok : ∀ k, k < 5 → parseFieldDescriptor (TX0 k).2.2.1 = some (tyX0 k) := by decide +kernel
abbrev cX0_init : ByteArray := prog_2_method_1_code
def yX0_init : MethodName := ⟨RX0, "<init>", "()V"⟩
abbrev cX0_begin : ByteArray := prog_2_method_2_code
def yX0_begin : MethodName := ⟨RX0, "begin", "(LEachSeesOne$Water;II)V"⟩
abbrev cX0_copyFrom : ByteArray := prog_2_method_3_code
def yX0_copyFrom : MethodName := ⟨RX0, "copyFrom", "(LEachSeesOne$Boat;)V"⟩
abbrev cX0_pullOnce : ByteArray := prog_2_method_4_code
def yX0_pullOnce : MethodName := ⟨RX0, "pullOnce", "(LEachSeesOne$Water;LEachSeesOne$Crew;II)V"⟩
def RX1 : String := "EachSeesOne$Crew"
def TX1 : u_T := fun k => match k with
  | 0 => ("EachSeesOne$Crew", "manners", "LEachSeesOne$Row;", true)
  | 1 => ("EachSeesOne$Crew", "pull00", "I", false)
  | 2 => ("EachSeesOne$Crew", "pull01", "I", false)
  | 3 => ("EachSeesOne$Crew", "pull10", "I", false)
  | 4 => ("EachSeesOne$Crew", "pull11", "I", false)
  | 5 => ("EachSeesOne$Crew", "bearSights", "I", false)
  | _ => ("EachSeesOne$Crew", "bearPulls", "I", false)
def tyX1 : Nat → FieldType := fun k => match k with
  | 0 => .object "EachSeesOne$Row"
  | 1 => .int
  | 2 => .int
  | 3 => .int
  | 4 => .int
  | 5 => .int
  | _ => .int
abbrev wsX10 : List Cond := u_ws RX1 TX1 7
theorem nmX1 : ∀ a, a < 7 → ∀ b, b < 7 → a ≠ b → (TX1 a).2.1 ≠ (TX1 b).2.1 := by decide +kernel
theorem tyX1_ok : ∀ k, k < 7 → parseFieldDescriptor (TX1 k).2.2.1 = some (tyX1 k) := by decide +kernel
abbrev cX1_init : ByteArray := prog_3_method_1_code
def yX1_init : MethodName := ⟨RX1, "<init>", "()V"⟩
abbrev cX1_mannerOf : ByteArray := prog_3_method_2_code
def yX1_mannerOf : MethodName := ⟨RX1, "mannerOf", "(I)I"⟩
abbrev cX1_teach : ByteArray := prog_3_method_3_code
def yX1_teach : MethodName := ⟨RX1, "teach", "(II)V"⟩
abbrev cX1_learnFrom : ByteArray := prog_3_method_4_code
def yX1_learnFrom : MethodName := ⟨RX1, "learnFrom", "(LEachSeesOne$Crew;)V"⟩
abbrev cX1_pulls : ByteArray := prog_3_method_5_code
def yX1_pulls : MethodName := ⟨RX1, "pulls", "(II)I"⟩
abbrev cX1_bears : ByteArray := prog_3_method_6_code
def yX1_bears : MethodName := ⟨RX1, "bears", "(II)I"⟩
abbrev cX1_with : ByteArray := prog_3_method_7_code
def yX1_with : MethodName := ⟨RX1, "with", "(IIZ)I"⟩
def RX2 : String := "EachSeesOne$Inquiry"
def TX2 : u_T := fun k => match k with
  | 0 => ("EachSeesOne$Inquiry", "water", "LEachSeesOne$Water;", true)
  | 1 => ("EachSeesOne$Inquiry", "crew", "LEachSeesOne$Crew;", true)
  | 2 => ("EachSeesOne$Inquiry", "tried", "LEachSeesOne$Crew;", true)
  | 3 => ("EachSeesOne$Inquiry", "tally", "LEachSeesOne$Tally;", true)
  | 4 => ("EachSeesOne$Inquiry", "bestIsKnown", "Z", false)
  | 5 => ("EachSeesOne$Inquiry", "bestHomes", "I", false)
  | 6 => ("EachSeesOne$Inquiry", "bestCode", "I", false)
  | 7 => ("EachSeesOne$Inquiry", "foundHomes", "I", false)
  | _ => ("EachSeesOne$Inquiry", "foundChoice", "I", false)
def tyX2 : Nat → FieldType := fun k => match k with
  | 0 => .object "EachSeesOne$Water"
  | 1 => .object "EachSeesOne$Crew"
  | 2 => .object "EachSeesOne$Crew"
  | 3 => .object "EachSeesOne$Tally"
  | 4 => .boolean
  | 5 => .int
  | 6 => .int
  | 7 => .int
  | _ => .int
abbrev wsX20 : List Cond := u_ws RX2 TX2 9
theorem nmX2 : ∀ a, a < 9 → ∀ b, b < 9 → a ≠ b → (TX2 a).2.1 ≠ (TX2 b).2.1 := by decide +kernel
theorem tyX2_ok : ∀ k, k < 9 → parseFieldDescriptor (TX2 k).2.2.1 = some (tyX2 k) := by decide +kernel
abbrev cX2_init : ByteArray := prog_4_method_1_code
def yX2_init : MethodName := ⟨RX2, "<init>", "(LEachSeesOne$Water;LEachSeesOne$Crew;)V"⟩
abbrev cX2_homesNow : ByteArray := prog_4_method_2_code
def yX2_homesNow : MethodName := ⟨RX2, "homesNow", "()I"⟩
abbrev cX2_bestHomes : ByteArray := prog_4_method_3_code
def yX2_bestHomes : MethodName := ⟨RX2, "bestHomes", "()I"⟩
abbrev cX2_bestManner : ByteArray := prog_4_method_4_code
def yX2_bestManner : MethodName := ⟨RX2, "bestManner", "(I)I"⟩
abbrev cX2_foundHomes : ByteArray := prog_4_method_5_code
def yX2_foundHomes : MethodName := ⟨RX2, "foundHomes", "()I"⟩
abbrev cX2_foundChoice : ByteArray := prog_4_method_6_code
def yX2_foundChoice : MethodName := ⟨RX2, "foundChoice", "()I"⟩
abbrev cX2_forgetBest : ByteArray := prog_4_method_7_code
def yX2_forgetBest : MethodName := ⟨RX2, "forgetBest", "()V"⟩
abbrev cX2_askBest : ByteArray := prog_4_method_8_code
def yX2_askBest : MethodName := ⟨RX2, "askBest", "()V"⟩
abbrev cX2_askMind : ByteArray := prog_4_method_9_code
def yX2_askMind : MethodName := ⟨RX2, "askMind", "(I)V"⟩
abbrev cX2_askStranger : ByteArray := prog_4_method_10_code
def yX2_askStranger : MethodName := ⟨RX2, "askStranger", "(I)V"⟩
abbrev cX2_askSeats : ByteArray := prog_4_method_11_code
def yX2_askSeats : MethodName := ⟨RX2, "askSeats", "()V"⟩
abbrev cX2_takeIfMore : ByteArray := prog_4_method_12_code
def yX2_takeIfMore : MethodName := ⟨RX2, "takeIfMore", "(II)V"⟩
def RX3 : String := "EachSeesOne$Kept"
def TX3 : u_T := fun k => match k with
  | 0 => ("EachSeesOne$Kept", "boat", "LEachSeesOne$Boat;", true)
  | _ => ("EachSeesOne$Kept", "crew", "LEachSeesOne$Crew;", true)
def tyX3 : Nat → FieldType := fun k => match k with
  | 0 => .object "EachSeesOne$Boat"
  | _ => .object "EachSeesOne$Crew"
abbrev wsX30 : List Cond := u_ws RX3 TX3 2
theorem nmX3 : ∀ a, a < 2 → ∀ b, b < 2 → a ≠ b → (TX3 a).2.1 ≠ (TX3 b).2.1 := by decide +kernel
theorem tyX3_ok : ∀ k, k < 2 → parseFieldDescriptor (TX3 k).2.2.1 = some (tyX3 k) := by decide +kernel
abbrev cX3_init : ByteArray := prog_5_method_1_code
def yX3_init : MethodName := ⟨RX3, "<init>", "()V"⟩
abbrev cX3_take : ByteArray := prog_5_method_2_code
def yX3_take : MethodName := ⟨RX3, "take", "(LEachSeesOne$Boat;LEachSeesOne$Crew;)V"⟩
abbrev cX3_give : ByteArray := prog_5_method_3_code
def yX3_give : MethodName := ⟨RX3, "give", "(LEachSeesOne$Boat;LEachSeesOne$Crew;)V"⟩
def RX4 : String := "EachSeesOne$Plan"
def TX4 : u_T := fun k => match k with
  | 0 => ("EachSeesOne$Plan", "rocks", "LEachSeesOne$Row;", true)
  | 1 => ("EachSeesOne$Plan", "homeCells", "LEachSeesOne$Row;", true)
  | 2 => ("EachSeesOne$Plan", "manners", "LEachSeesOne$Row;", true)
  | 3 => ("EachSeesOne$Plan", "width", "I", false)
  | 4 => ("EachSeesOne$Plan", "height", "I", false)
  | 5 => ("EachSeesOne$Plan", "side", "I", false)
  | 6 => ("EachSeesOne$Plan", "every", "I", false)
  | 7 => ("EachSeesOne$Plan", "far", "I", false)
  | 8 => ("EachSeesOne$Plan", "x", "I", false)
  | 9 => ("EachSeesOne$Plan", "y", "I", false)
  | _ => ("EachSeesOne$Plan", "bow", "I", false)
def tyX4 : Nat → FieldType := fun k => match k with
  | 0 => .object "EachSeesOne$Row"
  | 1 => .object "EachSeesOne$Row"
  | 2 => .object "EachSeesOne$Row"
  | 3 => .int
  | 4 => .int
  | 5 => .int
  | 6 => .int
  | 7 => .int
  | 8 => .int
  | 9 => .int
  | _ => .int
abbrev wsX40 : List Cond := u_ws RX4 TX4 11
theorem nmX4 : ∀ a, a < 11 → ∀ b, b < 11 → a ≠ b → (TX4 a).2.1 ≠ (TX4 b).2.1 := by decide +kernel
theorem tyX4_ok : ∀ k, k < 11 → parseFieldDescriptor (TX4 k).2.2.1 = some (tyX4 k) := by decide +kernel
abbrev cX4_init : ByteArray := prog_6_method_1_code
def yX4_init : MethodName := ⟨RX4, "<init>", "()V"⟩
abbrev cX4_clear : ByteArray := prog_6_method_2_code
def yX4_clear : MethodName := ⟨RX4, "clear", "()V"⟩
abbrev cX4_addHome : ByteArray := prog_6_method_3_code
def yX4_addHome : MethodName := ⟨RX4, "addHome", "(II)V"⟩
abbrev cX4_tell : ByteArray := prog_6_method_4_code
def yX4_tell : MethodName := ⟨RX4, "tell", "(IIII)V"⟩
abbrev cX4_mannerTold : ByteArray := prog_6_method_5_code
def yX4_mannerTold : MethodName := ⟨RX4, "mannerTold", "(I)I"⟩
abbrev cX4_kindTold : ByteArray := prog_6_method_6_code
def yX4_kindTold : MethodName := ⟨RX4, "kindTold", "(II)I"⟩
abbrev cX4_canBeLaid : ByteArray := prog_6_method_7_code
def yX4_canBeLaid : MethodName := ⟨RX4, "canBeLaid", "()Z"⟩
abbrev cX4_hasHome : ByteArray := prog_6_method_8_code
def yX4_hasHome : MethodName := ⟨RX4, "hasHome", "()Z"⟩
def RX5 : String := "EachSeesOne$Reader"
def TX5 : u_T := fun k => match k with
  | _ => ("EachSeesOne$Reader", "told", "LEachSeesOne$Row;", true)
def tyX5 : Nat → FieldType := fun k => match k with
  | _ => .object "EachSeesOne$Row"
abbrev wsX50 : List Cond := u_ws RX5 TX5 1
theorem nmX5 : ∀ a, a < 1 → ∀ b, b < 1 → a ≠ b → (TX5 a).2.1 ≠ (TX5 b).2.1 := by decide +kernel
theorem tyX5_ok : ∀ k, k < 1 → parseFieldDescriptor (TX5 k).2.2.1 = some (tyX5 k) := by decide +kernel
abbrev cX5_init : ByteArray := prog_7_method_1_code
def yX5_init : MethodName := ⟨RX5, "<init>", "()V"⟩
abbrev cX5_firstFault : ByteArray := prog_7_method_2_code
def yX5_firstFault : MethodName := ⟨RX5, "firstFault", "(LEachSeesOne$Text;LEachSeesOne$Plan;)I"⟩
abbrev cX5_readItem : ByteArray := prog_7_method_3_code
def yX5_readItem : MethodName := ⟨RX5, "readItem", "(LEachSeesOne$Text;ILEachSeesOne$Plan;)I"⟩
abbrev cX5_isTold : ByteArray := prog_7_method_4_code
def yX5_isTold : MethodName := ⟨RX5, "isTold", "(III)Z"⟩
abbrev cX5_figuresAt : ByteArray := prog_7_method_5_code
def yX5_figuresAt : MethodName := ⟨RX5, "figuresAt", "(LEachSeesOne$Text;I)I"⟩
abbrev cX5_numberOf : ByteArray := prog_7_method_6_code
def yX5_numberOf : MethodName := ⟨RX5, "numberOf", "(LEachSeesOne$Text;II)I"⟩
abbrev cX5_isFigure : ByteArray := prog_7_method_7_code
def yX5_isFigure : MethodName := ⟨RX5, "isFigure", "(I)Z"⟩
abbrev cX5_numberAt : ByteArray := prog_7_method_8_code
def yX5_numberAt : MethodName := ⟨RX5, "numberAt", "([II)I"⟩
def RX6 : String := "EachSeesOne$Row"
def TX6 : u_T := fun k => match k with
  | _ => ("EachSeesOne$Row", "numbers", "[I", true)
def tyX6 : Nat → FieldType := fun k => match k with
  | _ => .array .int
abbrev wsX60 : List Cond := u_ws RX6 TX6 1
theorem nmX6 : ∀ a, a < 1 → ∀ b, b < 1 → a ≠ b → (TX6 a).2.1 ≠ (TX6 b).2.1 := by decide +kernel
theorem tyX6_ok : ∀ k, k < 1 → parseFieldDescriptor (TX6 k).2.2.1 = some (tyX6 k) := by decide +kernel
abbrev cX6_init : ByteArray := prog_8_method_1_code
def yX6_init : MethodName := ⟨RX6, "<init>", "(I)V"⟩
abbrev cX6_at : ByteArray := prog_8_method_2_code
def yX6_at : MethodName := ⟨RX6, "at", "(I)I"⟩
abbrev cX6_set : ByteArray := prog_8_method_3_code
def yX6_set : MethodName := ⟨RX6, "set", "(II)V"⟩
abbrev cX6_clear : ByteArray := prog_8_method_4_code
def yX6_clear : MethodName := ⟨RX6, "clear", "()V"⟩
def RX7 : String := "EachSeesOne$Tally"
def TX7 : u_T := fun k => match k with
  | 0 => ("EachSeesOne$Tally", "notes", "LEachSeesOne$Row;", true)
  | 1 => ("EachSeesOne$Tally", "path", "LEachSeesOne$Row;", true)
  | 2 => ("EachSeesOne$Tally", "boat", "LEachSeesOne$Boat;", true)
  | _ => ("EachSeesOne$Tally", "tallies", "I", false)
def tyX7 : Nat → FieldType := fun k => match k with
  | 0 => .object "EachSeesOne$Row"
  | 1 => .object "EachSeesOne$Row"
  | 2 => .object "EachSeesOne$Boat"
  | _ => .int
abbrev wsX70 : List Cond := u_ws RX7 TX7 4
theorem nmX7 : ∀ a, a < 4 → ∀ b, b < 4 → a ≠ b → (TX7 a).2.1 ≠ (TX7 b).2.1 := by decide +kernel
theorem tyX7_ok : ∀ k, k < 4 → parseFieldDescriptor (TX7 k).2.2.1 = some (tyX7 k) := by decide +kernel
abbrev cX7_init : ByteArray := prog_9_method_1_code
def yX7_init : MethodName := ⟨RX7, "<init>", "()V"⟩
abbrev cX7_homesBy : ByteArray := prog_9_method_2_code
def yX7_homesBy : MethodName := ⟨RX7, "homesBy", "(LEachSeesOne$Water;LEachSeesOne$Crew;)I"⟩
abbrev cX7_strokesHome : ByteArray := prog_9_method_3_code
def yX7_strokesHome : MethodName := ⟨RX7, "strokesHome", "(LEachSeesOne$Water;LEachSeesOne$Crew;)I"⟩
def RX8 : String := "EachSeesOne$Text"
def TX8 : u_T := fun k => match k with
  | 0 => ("EachSeesOne$Text", "bytes", "LEachSeesOne$Row;", true)
  | _ => ("EachSeesOne$Text", "length", "I", false)
def tyX8 : Nat → FieldType := fun k => match k with
  | 0 => .object "EachSeesOne$Row"
  | _ => .int
abbrev wsX80 : List Cond := u_ws RX8 TX8 2
theorem nmX8 : ∀ a, a < 2 → ∀ b, b < 2 → a ≠ b → (TX8 a).2.1 ≠ (TX8 b).2.1 := by decide +kernel
theorem tyX8_ok : ∀ k, k < 2 → parseFieldDescriptor (TX8 k).2.2.1 = some (tyX8 k) := by decide +kernel
abbrev cX8_init : ByteArray := prog_10_method_1_code
def yX8_init : MethodName := ⟨RX8, "<init>", "()V"⟩
abbrev cX8_length : ByteArray := prog_10_method_2_code
def yX8_length : MethodName := ⟨RX8, "length", "()I"⟩
abbrev cX8_clear : ByteArray := prog_10_method_3_code
def yX8_clear : MethodName := ⟨RX8, "clear", "()V"⟩
abbrev cX8_append : ByteArray := prog_10_method_4_code
def yX8_append : MethodName := ⟨RX8, "append", "(I)V"⟩
abbrev cX8_letterAt : ByteArray := prog_10_method_5_code
def yX8_letterAt : MethodName := ⟨RX8, "letterAt", "(I)I"⟩
def RX9 : String := "EachSeesOne$Trial"
def TX9 : u_T := fun k => match k with
  | 0 => ("EachSeesOne$Trial", "water", "LEachSeesOne$Water;", true)
  | 1 => ("EachSeesOne$Trial", "crew", "LEachSeesOne$Crew;", true)
  | 2 => ("EachSeesOne$Trial", "boat", "LEachSeesOne$Boat;", true)
  | _ => ("EachSeesOne$Trial", "told", "LEachSeesOne$Row;", true)
def tyX9 : Nat → FieldType := fun k => match k with
  | 0 => .object "EachSeesOne$Water"
  | 1 => .object "EachSeesOne$Crew"
  | 2 => .object "EachSeesOne$Boat"
  | _ => .object "EachSeesOne$Row"
abbrev wsX90 : List Cond := u_ws RX9 TX9 4
theorem nmX9 : ∀ a, a < 4 → ∀ b, b < 4 → a ≠ b → (TX9 a).2.1 ≠ (TX9 b).2.1 := by decide +kernel
theorem tyX9_ok : ∀ k, k < 4 → parseFieldDescriptor (TX9 k).2.2.1 = some (tyX9 k) := by decide +kernel
abbrev cX9_init : ByteArray := prog_11_method_1_code
def yX9_init : MethodName := ⟨RX9, "<init>", "(LEachSeesOne$Water;LEachSeesOne$Crew;)V"⟩
abbrev cX9_goFrom : ByteArray := prog_11_method_2_code
def yX9_goFrom : MethodName := ⟨RX9, "goFrom", "(III)LEachSeesOne$Boat;"⟩
abbrev cX9_strokesHomeByHum : ByteArray := prog_11_method_3_code
def yX9_strokesHomeByHum : MethodName := ⟨RX9, "strokesHomeByHum", "(IIII)I"⟩
abbrev cX9_endInFog : ByteArray := prog_11_method_4_code
def yX9_endInFog : MethodName := ⟨RX9, "endInFog", "(III)I"⟩
abbrev cX9_blurIn : ByteArray := prog_11_method_5_code
def yX9_blurIn : MethodName := ⟨RX9, "blurIn", "(II)I"⟩
abbrev cX9_leavesWake : ByteArray := prog_11_method_6_code
def yX9_leavesWake : MethodName := ⟨RX9, "leavesWake", "(LEachSeesOne$Boat;LEachSeesOne$Row;III)Z"⟩
abbrev cX9_startsThatLookLike : ByteArray := prog_11_method_7_code
def yX9_startsThatLookLike : MethodName := ⟨RX9, "startsThatLookLike", "(IIII)I"⟩
abbrev cX9_looksAsTold : ByteArray := prog_11_method_8_code
def yX9_looksAsTold : MethodName := ⟨RX9, "looksAsTold", "(II)Z"⟩
abbrev cX9_sightThenStroke : ByteArray := prog_11_method_9_code
def yX9_sightThenStroke : MethodName := ⟨RX9, "sightThenStroke", "()I"⟩
def RX10 : String := "EachSeesOne$Water"
def TX10 : u_T := fun k => match k with
  | 0 => ("EachSeesOne$Water", "kinds", "LEachSeesOne$Row;", true)
  | 1 => ("EachSeesOne$Water", "beside", "LEachSeesOne$Row;", true)
  | 2 => ("EachSeesOne$Water", "sights", "LEachSeesOne$Row;", true)
  | 3 => ("EachSeesOne$Water", "width", "I", false)
  | 4 => ("EachSeesOne$Water", "height", "I", false)
  | 5 => ("EachSeesOne$Water", "side", "I", false)
  | 6 => ("EachSeesOne$Water", "every", "I", false)
  | 7 => ("EachSeesOne$Water", "far", "I", false)
  | _ => ("EachSeesOne$Water", "starts", "I", false)
def tyX10 : Nat → FieldType := fun k => match k with
  | 0 => .object "EachSeesOne$Row"
  | 1 => .object "EachSeesOne$Row"
  | 2 => .object "EachSeesOne$Row"
  | 3 => .int
  | 4 => .int
  | 5 => .int
  | 6 => .int
  | 7 => .int
  | _ => .int
abbrev wsX100 : List Cond := u_ws RX10 TX10 9
theorem nmX10 : ∀ a, a < 9 → ∀ b, b < 9 → a ≠ b → (TX10 a).2.1 ≠ (TX10 b).2.1 := by decide +kernel
theorem tyX10_ok : ∀ k, k < 9 → parseFieldDescriptor (TX10 k).2.2.1 = some (tyX10 k) := by decide +kernel
abbrev cX10_init : ByteArray := prog_12_method_1_code
def yX10_init : MethodName := ⟨RX10, "<init>", "()V"⟩
abbrev cX10_build : ByteArray := prog_12_method_2_code
def yX10_build : MethodName := ⟨RX10, "build", "(LEachSeesOne$Plan;)V"⟩
abbrev cX10_lookAround : ByteArray := prog_12_method_3_code
def yX10_lookAround : MethodName := ⟨RX10, "lookAround", "(II)V"⟩
abbrev cX10_rockWithin : ByteArray := prog_12_method_4_code
def yX10_rockWithin : MethodName := ⟨RX10, "rockWithin", "(III)I"⟩
abbrev cX10_isRockAt : ByteArray := prog_12_method_5_code
def yX10_isRockAt : MethodName := ⟨RX10, "isRockAt", "(II)Z"⟩
abbrev cX10_stepX : ByteArray := prog_12_method_6_code
def yX10_stepX : MethodName := ⟨RX10, "stepX", "(I)I"⟩
abbrev cX10_stepY : ByteArray := prog_12_method_7_code
def yX10_stepY : MethodName := ⟨RX10, "stepY", "(I)I"⟩
abbrev cX10_cellAt : ByteArray := prog_12_method_8_code
def yX10_cellAt : MethodName := ⟨RX10, "cellAt", "(II)I"⟩
abbrev cX10_cells : ByteArray := prog_12_method_9_code
def yX10_cells : MethodName := ⟨RX10, "cells", "()I"⟩
abbrev cX10_starts : ByteArray := prog_12_method_10_code
def yX10_starts : MethodName := ⟨RX10, "starts", "()I"⟩
abbrev cX10_isCell : ByteArray := prog_12_method_11_code
def yX10_isCell : MethodName := ⟨RX10, "isCell", "(I)Z"⟩
abbrev cX10_kindOf : ByteArray := prog_12_method_12_code
def yX10_kindOf : MethodName := ⟨RX10, "kindOf", "(I)I"⟩
abbrev cX10_sight : ByteArray := prog_12_method_13_code
def yX10_sight : MethodName := ⟨RX10, "sight", "(II)I"⟩
abbrev cX10_rowedTo : ByteArray := prog_12_method_14_code
def yX10_rowedTo : MethodName := ⟨RX10, "rowedTo", "(III)I"⟩
abbrev cX10_takenTo : ByteArray := prog_12_method_15_code
def yX10_takenTo : MethodName := ⟨RX10, "takenTo", "(II)I"⟩
abbrev cX10_rhythm : ByteArray := prog_12_method_16_code
def yX10_rhythm : MethodName := ⟨RX10, "rhythm", "()I"⟩
def RX11 : String := "EachSeesOne"
def TX11 : u_T := fun k => match k with
  | 0 => ("EachSeesOne", "text", "LEachSeesOne$Text;", true)
  | 1 => ("EachSeesOne", "plan", "LEachSeesOne$Plan;", true)
  | 2 => ("EachSeesOne", "reader", "LEachSeesOne$Reader;", true)
  | 3 => ("EachSeesOne", "water", "LEachSeesOne$Water;", true)
  | 4 => ("EachSeesOne", "crew", "LEachSeesOne$Crew;", true)
  | 5 => ("EachSeesOne", "theBarge", "LEachSeesOne$Boat;", true)
  | 6 => ("EachSeesOne", "trial", "LEachSeesOne$Trial;", true)
  | 7 => ("EachSeesOne", "inquiry", "LEachSeesOne$Inquiry;", true)
  | 8 => ("EachSeesOne", "wakeCells", "LEachSeesOne$Row;", true)
  | 9 => ("EachSeesOne", "firstKept", "LEachSeesOne$Kept;", true)
  | 10 => ("EachSeesOne", "secondKept", "LEachSeesOne$Kept;", true)
  | 11 => ("EachSeesOne", "wakeLength", "I", false)
  | _ => ("EachSeesOne", "kept", "I", false)
def tyX11 : Nat → FieldType := fun k => match k with
  | 0 => .object "EachSeesOne$Text"
  | 1 => .object "EachSeesOne$Plan"
  | 2 => .object "EachSeesOne$Reader"
  | 3 => .object "EachSeesOne$Water"
  | 4 => .object "EachSeesOne$Crew"
  | 5 => .object "EachSeesOne$Boat"
  | 6 => .object "EachSeesOne$Trial"
  | 7 => .object "EachSeesOne$Inquiry"
  | 8 => .object "EachSeesOne$Row"
  | 9 => .object "EachSeesOne$Kept"
  | 10 => .object "EachSeesOne$Kept"
  | 11 => .int
  | _ => .int
abbrev wsX110 : List Cond := u_ws RX11 TX11 13
theorem nmX11 : ∀ a, a < 13 → ∀ b, b < 13 → a ≠ b → (TX11 a).2.1 ≠ (TX11 b).2.1 := by decide +kernel
theorem tyX11_ok : ∀ k, k < 13 → parseFieldDescriptor (TX11 k).2.2.1 = some (tyX11 k) := by decide +kernel
abbrev cX11_init : ByteArray := prog_1_method_1_code
def yX11_init : MethodName := ⟨RX11, "<init>", "()V"⟩
abbrev cX11_write : ByteArray := prog_1_method_2_code
def yX11_write : MethodName := ⟨RX11, "write", "(IJ)I"⟩
abbrev cX11_wipe : ByteArray := prog_1_method_3_code
def yX11_wipe : MethodName := ⟨RX11, "wipe", "()I"⟩
abbrev cX11_fault : ByteArray := prog_1_method_4_code
def yX11_fault : MethodName := ⟨RX11, "fault", "()I"⟩
abbrev cX11_lay : ByteArray := prog_1_method_5_code
def yX11_lay : MethodName := ⟨RX11, "lay", "()I"⟩
abbrev cX11_cell : ByteArray := prog_1_method_6_code
def yX11_cell : MethodName := ⟨RX11, "cell", "(I)I"⟩
abbrev cX11_sees : ByteArray := prog_1_method_7_code
def yX11_sees : MethodName := ⟨RX11, "sees", "(III)I"⟩
abbrev cX11_manner : ByteArray := prog_1_method_8_code
def yX11_manner : MethodName := ⟨RX11, "manner", "(II)I"⟩
abbrev cX11_stroke : ByteArray := prog_1_method_9_code
def yX11_stroke : MethodName := ⟨RX11, "stroke", "()I"⟩
abbrev cX11_put : ByteArray := prog_1_method_10_code
def yX11_put : MethodName := ⟨RX11, "put", "(II)I"⟩
abbrev cX11_barge : ByteArray := prog_1_method_11_code
def yX11_barge : MethodName := ⟨RX11, "barge", "(I)I"⟩
abbrev cX11_run : ByteArray := prog_1_method_12_code
def yX11_run : MethodName := ⟨RX11, "run", "(III)I"⟩
abbrev cX11_seen : ByteArray := prog_1_method_13_code
def yX11_seen : MethodName := ⟨RX11, "seen", "(IIII)I"⟩
abbrev cX11_homes : ByteArray := prog_1_method_14_code
def yX11_homes : MethodName := ⟨RX11, "homes", "()I"⟩
abbrev cX11_best : ByteArray := prog_1_method_15_code
def yX11_best : MethodName := ⟨RX11, "best", "(I)I"⟩
abbrev cX11_mind : ByteArray := prog_1_method_16_code
def yX11_mind : MethodName := ⟨RX11, "mind", "(II)I"⟩
abbrev cX11_stranger : ByteArray := prog_1_method_17_code
def yX11_stranger : MethodName := ⟨RX11, "stranger", "(II)I"⟩
abbrev cX11_seats : ByteArray := prog_1_method_18_code
def yX11_seats : MethodName := ⟨RX11, "seats", "(I)I"⟩
abbrev cX11_hum : ByteArray := prog_1_method_19_code
def yX11_hum : MethodName := ⟨RX11, "hum", "(I)I"⟩
abbrev cX11_knows : ByteArray := prog_1_method_20_code
def yX11_knows : MethodName := ⟨RX11, "knows", "(IIII)I"⟩
abbrev cX11_allKnow : ByteArray := prog_1_method_21_code
def yX11_allKnow : MethodName := ⟨RX11, "allKnow", "(III)I"⟩
abbrev cX11_wake : ByteArray := prog_1_method_22_code
def yX11_wake : MethodName := ⟨RX11, "wake", "(I)I"⟩
abbrev cX11_noWake : ByteArray := prog_1_method_23_code
def yX11_noWake : MethodName := ⟨RX11, "noWake", "()I"⟩
abbrev cX11_wrong : ByteArray := prog_1_method_24_code
def yX11_wrong : MethodName := ⟨RX11, "wrong", "()I"⟩
abbrev cX11_fog : ByteArray := prog_1_method_25_code
def yX11_fog : MethodName := ⟨RX11, "fog", "(IIII)I"⟩
abbrev cX11_keep : ByteArray := prog_1_method_26_code
def yX11_keep : MethodName := ⟨RX11, "keep", "()I"⟩
abbrev cX11_back : ByteArray := prog_1_method_27_code
def yX11_back : MethodName := ⟨RX11, "back", "()I"⟩
abbrev cX11_count : ByteArray := prog_1_method_28_code
def yX11_count : MethodName := ⟨RX11, "count", "(I)I"⟩
abbrev cX11_layPlan : ByteArray := prog_1_method_29_code
def yX11_layPlan : MethodName := ⟨RX11, "layPlan", "()V"⟩
abbrev cX11_canBegin : ByteArray := prog_1_method_30_code
def yX11_canBegin : MethodName := ⟨RX11, "canBegin", "(II)Z"⟩
abbrev cX11_isSide : ByteArray := prog_1_method_31_code
def yX11_isSide : MethodName := ⟨RX11, "isSide", "(I)Z"⟩
abbrev cX11_isRower : ByteArray := prog_1_method_32_code
def yX11_isRower : MethodName := ⟨RX11, "isRower", "(I)Z"⟩
abbrev cX11_bit : ByteArray := prog_1_method_33_code
def yX11_bit : MethodName := ⟨RX11, "bit", "(II)I"⟩
abbrev cX11_benchOf : ByteArray := prog_1_method_34_code
def yX11_benchOf : MethodName := ⟨RX11, "benchOf", "(II)I"⟩
def RX12 : String := "EachSeesOneModel"
def TX12 : u_T := fun k => match k with
  | 0 => ("EachSeesOneModel", "length", "I", false)
  | 1 => ("EachSeesOneModel", "text", "[B", true)
  | 2 => ("EachSeesOneModel", "at", "I", false)
  | 3 => ("EachSeesOneModel", "told", "[I", true)
  | 4 => ("EachSeesOneModel", "rock", "[Z", true)
  | 5 => ("EachSeesOneModel", "home", "[Z", true)
  | 6 => ("EachSeesOneModel", "manner", "[I", true)
  | 7 => ("EachSeesOneModel", "sees", "[Z", true)
  | 8 => ("EachSeesOneModel", "barge", "[I", true)
  | 9 => ("EachSeesOneModel", "keptManner", "[I", true)
  | 10 => ("EachSeesOneModel", "kept", "I", false)
  | 11 => ("EachSeesOneModel", "wakes", "I", false)
  | 12 => ("EachSeesOneModel", "wake", "[I", true)
  | 13 => ("EachSeesOneModel", "cell", "I", false)
  | 14 => ("EachSeesOneModel", "bow", "I", false)
  | 15 => ("EachSeesOneModel", "mind", "I", false)
  | 16 => ("EachSeesOneModel", "strokes", "I", false)
  | 17 => ("EachSeesOneModel", "ended", "I", false)
  | 18 => ("EachSeesOneModel", "by", "[I", true)
  | 19 => ("EachSeesOneModel", "pulls", "[I", true)
  | 20 => ("EachSeesOneModel", "sights", "[I", true)
  | 21 => ("EachSeesOneModel", "other", "I", false)
  | 22 => ("EachSeesOneModel", "otherAt", "I", false)
  | 23 => ("EachSeesOneModel", "fog", "I", false)
  | 24 => ("EachSeesOneModel", "seenThen", "[I", true)
  | 25 => ("EachSeesOneModel", "best", "[I", true)
  | 26 => ("EachSeesOneModel", "hummed", "[I", true)
  | _ => ("EachSeesOneModel", "got", "[I", true)
def tyX12 : Nat → FieldType := fun k => match k with
  | 0 => .int
  | 1 => .array .byte
  | 2 => .int
  | 3 => .array .int
  | 4 => .array .boolean
  | 5 => .array .boolean
  | 6 => .array .int
  | 7 => .array .boolean
  | 8 => .array .int
  | 9 => .array .int
  | 10 => .int
  | 11 => .int
  | 12 => .array .int
  | 13 => .int
  | 14 => .int
  | 15 => .int
  | 16 => .int
  | 17 => .int
  | 18 => .array .int
  | 19 => .array .int
  | 20 => .array .int
  | 21 => .int
  | 22 => .int
  | 23 => .int
  | 24 => .array .int
  | 25 => .array .int
  | 26 => .array .int
  | _ => .array .int
abbrev wsX120 : List Cond := u_ws RX12 TX12 28
theorem nmX12 : ∀ a, a < 28 → ∀ b, b < 28 → a ≠ b → (TX12 a).2.1 ≠ (TX12 b).2.1 := by decide +kernel
theorem tyX12_ok : ∀ k, k < 28 → parseFieldDescriptor (TX12 k).2.2.1 = some (tyX12 k) := by decide +kernel
abbrev cX12_init : ByteArray := prog_14_method_1_code
def yX12_init : MethodName := ⟨RX12, "<init>", "()V"⟩
abbrev cX12_in : ByteArray := prog_14_method_2_code
def yX12_in : MethodName := ⟨RX12, "in", "(JJJ)Z"⟩
abbrev cX12_write : ByteArray := prog_14_method_3_code
def yX12_write : MethodName := ⟨RX12, "write", "(IJ)I"⟩
abbrev cX12_wipe : ByteArray := prog_14_method_4_code
def yX12_wipe : MethodName := ⟨RX12, "wipe", "()I"⟩
abbrev cX12_number : ByteArray := prog_14_method_5_code
def yX12_number : MethodName := ⟨RX12, "number", "()I"⟩
abbrev cX12_parts : ByteArray := prog_14_method_6_code
def yX12_parts : MethodName := ⟨RX12, "parts", "(I)I"⟩
abbrev cX12_isItem : ByteArray := prog_14_method_7_code
def yX12_isItem : MethodName := ⟨RX12, "isItem", "()Z"⟩
abbrev cX12_isGood : ByteArray := prog_14_method_8_code
def yX12_isGood : MethodName := ⟨RX12, "isGood", "(I)Z"⟩
abbrev cX12_begins : ByteArray := prog_14_method_9_code
def yX12_begins : MethodName := ⟨RX12, "begins", "()V"⟩
abbrev cX12_takes : ByteArray := prog_14_method_10_code
def yX12_takes : MethodName := ⟨RX12, "takes", "()V"⟩
abbrev cX12_fault : ByteArray := prog_14_method_11_code
def yX12_fault : MethodName := ⟨RX12, "fault", "()I"⟩
abbrev cX12_lay : ByteArray := prog_14_method_12_code
def yX12_lay : MethodName := ⟨RX12, "lay", "()I"⟩
abbrev cX12_cells : ByteArray := prog_14_method_13_code
def yX12_cells : MethodName := ⟨RX12, "cells", "()I"⟩
abbrev cX12_isCell : ByteArray := prog_14_method_14_code
def yX12_isCell : MethodName := ⟨RX12, "isCell", "(I)Z"⟩
abbrev cX12_isRock : ByteArray := prog_14_method_15_code
def yX12_isRock : MethodName := ⟨RX12, "isRock", "(I)Z"⟩
abbrev cX12_isHome : ByteArray := prog_14_method_16_code
def yX12_isHome : MethodName := ⟨RX12, "isHome", "(I)Z"⟩
abbrev cX12_isOpen : ByteArray := prog_14_method_17_code
def yX12_isOpen : MethodName := ⟨RX12, "isOpen", "(II)Z"⟩
abbrev cX12_next : ByteArray := prog_14_method_18_code
def yX12_next : MethodName := ⟨RX12, "next", "(II)I"⟩
abbrev cX12_isStart : ByteArray := prog_14_method_19_code
def yX12_isStart : MethodName := ⟨RX12, "isStart", "(I)Z"⟩
abbrev cX12_starts : ByteArray := prog_14_method_20_code
def yX12_starts : MethodName := ⟨RX12, "starts", "()I"⟩
abbrev cX12_cell : ByteArray := prog_14_method_21_code
def yX12_cell : MethodName := ⟨RX12, "cell", "(I)I"⟩
abbrev cX12_sees : ByteArray := prog_14_method_22_code
def yX12_sees : MethodName := ⟨RX12, "sees", "(III)I"⟩
abbrev cX12_manner : ByteArray := prog_14_method_23_code
def yX12_manner : MethodName := ⟨RX12, "manner", "(II)I"⟩
abbrev cX12_sets : ByteArray := prog_14_method_24_code
def yX12_sets : MethodName := ⟨RX12, "sets", "(II)V"⟩
abbrev cX12_plain : ByteArray := prog_14_method_25_code
def yX12_plain : MethodName := ⟨RX12, "plain", "()V"⟩
abbrev cX12_isFog : ByteArray := prog_14_method_26_code
def yX12_isFog : MethodName := ⟨RX12, "isFog", "(I)Z"⟩
abbrev cX12_does : ByteArray := prog_14_method_27_code
def yX12_does : MethodName := ⟨RX12, "does", "(I)V"⟩
abbrev cX12_strikes : ByteArray := prog_14_method_28_code
def yX12_strikes : MethodName := ⟨RX12, "strikes", "()V"⟩
abbrev cX12_runs : ByteArray := prog_14_method_29_code
def yX12_runs : MethodName := ⟨RX12, "runs", "()V"⟩
abbrev cX12_puts : ByteArray := prog_14_method_30_code
def yX12_puts : MethodName := ⟨RX12, "puts", "(II)V"⟩
abbrev cX12_holds : ByteArray := prog_14_method_31_code
def yX12_holds : MethodName := ⟨RX12, "holds", "()V"⟩
abbrev cX12_asBarge : ByteArray := prog_14_method_32_code
def yX12_asBarge : MethodName := ⟨RX12, "asBarge", "()V"⟩
abbrev cX12_stroke : ByteArray := prog_14_method_33_code
def yX12_stroke : MethodName := ⟨RX12, "stroke", "()I"⟩
abbrev cX12_put : ByteArray := prog_14_method_34_code
def yX12_put : MethodName := ⟨RX12, "put", "(II)I"⟩
abbrev cX12_barge : ByteArray := prog_14_method_35_code
def yX12_barge : MethodName := ⟨RX12, "barge", "(I)I"⟩
abbrev cX12_run : ByteArray := prog_14_method_36_code
def yX12_run : MethodName := ⟨RX12, "run", "(III)I"⟩
abbrev cX12_seen : ByteArray := prog_14_method_37_code
def yX12_seen : MethodName := ⟨RX12, "seen", "(IIII)I"⟩
abbrev cX12_homesBy : ByteArray := prog_14_method_38_code
def yX12_homesBy : MethodName := ⟨RX12, "homesBy", "()I"⟩
abbrev cX12_homes : ByteArray := prog_14_method_39_code
def yX12_homes : MethodName := ⟨RX12, "homes", "()I"⟩
abbrev cX12_best : ByteArray := prog_14_method_40_code
def yX12_best : MethodName := ⟨RX12, "best", "(I)I"⟩
abbrev cX12_mind : ByteArray := prog_14_method_41_code
def yX12_mind : MethodName := ⟨RX12, "mind", "(II)I"⟩
abbrev cX12_stranger : ByteArray := prog_14_method_42_code
def yX12_stranger : MethodName := ⟨RX12, "stranger", "(II)I"⟩
abbrev cX12_seats : ByteArray := prog_14_method_43_code
def yX12_seats : MethodName := ⟨RX12, "seats", "(I)I"⟩
abbrev cX12_hum : ByteArray := prog_14_method_44_code
def yX12_hum : MethodName := ⟨RX12, "hum", "(I)I"⟩
abbrev cX12_sawNow : ByteArray := prog_14_method_45_code
def yX12_sawNow : MethodName := ⟨RX12, "sawNow", "(I)I"⟩
abbrev cX12_alike : ByteArray := prog_14_method_46_code
def yX12_alike : MethodName := ⟨RX12, "alike", "(IIII)I"⟩
abbrev cX12_knows : ByteArray := prog_14_method_47_code
def yX12_knows : MethodName := ⟨RX12, "knows", "(IIII)I"⟩
abbrev cX12_allKnow : ByteArray := prog_14_method_48_code
def yX12_allKnow : MethodName := ⟨RX12, "allKnow", "(III)I"⟩
abbrev cX12_wake : ByteArray := prog_14_method_49_code
def yX12_wake : MethodName := ⟨RX12, "wake", "(I)I"⟩
abbrev cX12_noWake : ByteArray := prog_14_method_50_code
def yX12_noWake : MethodName := ⟨RX12, "noWake", "()I"⟩
abbrev cX12_isWake : ByteArray := prog_14_method_51_code
def yX12_isWake : MethodName := ⟨RX12, "isWake", "()Z"⟩
abbrev cX12_wrong : ByteArray := prog_14_method_52_code
def yX12_wrong : MethodName := ⟨RX12, "wrong", "()I"⟩
abbrev cX12_fog : ByteArray := prog_14_method_53_code
def yX12_fog : MethodName := ⟨RX12, "fog", "(IIII)I"⟩
abbrev cX12_keep : ByteArray := prog_14_method_54_code
def yX12_keep : MethodName := ⟨RX12, "keep", "()I"⟩
abbrev cX12_back : ByteArray := prog_14_method_55_code
def yX12_back : MethodName := ⟨RX12, "back", "()I"⟩
abbrev cX12_count : ByteArray := prog_14_method_56_code
def yX12_count : MethodName := ⟨RX12, "count", "(I)I"⟩
def RL : String := "EachSeesOneLaw"
abbrev cL_law : ByteArray := code
def yL_law : MethodName := ⟨RL, "law", "([I)Z"⟩
def wsX0_init : List Cond := .code yX0_init cX0_init 1 none :: ([.methodLink RX0 3 objectInit, .instanceMethod objectInit, .code objectInit ⟨#[0xb1]⟩ 1 none])
def wsX6_init : List Cond := .code yX6_init cX6_init 2 none :: ([.methodLink RX6 1 objectInit, .instanceMethod objectInit, .code objectInit ⟨#[0xb1]⟩ 1 none, .arrayClass .int, .fieldLink RX6 7 "EachSeesOne$Row" "numbers" "[I"] ++ wsX60)
def wsX1_init : List Cond := .code yX1_init cX1_init 1 none :: ([.methodLink RX1 3 objectInit, .instanceMethod objectInit, .code objectInit ⟨#[0xb1]⟩ 1 none, .classLink RX1 9 RX6, .instantiable RX6 1, .initialized RX6, .fieldLink RX1 14 "EachSeesOne$Crew" "manners" "LEachSeesOne$Row;", .methodLink RX1 11 yX6_init, .instanceMethod yX6_init, .code yX6_init cX6_init 2 none, .methodLink RX6 1 objectInit, .arrayClass .int, .fieldLink RX6 7 "EachSeesOne$Row" "numbers" "[I"] ++ wsX60 ++ wsX10)
def wsX7_init : List Cond := .code yX7_init cX7_init 1 none :: ([.methodLink RX7 7 objectInit, .instanceMethod objectInit, .code objectInit ⟨#[0xb1]⟩ 1 none, .classLink RX7 13 RX6, .instantiable RX6 1, .initialized RX6, .fieldLink RX7 18 "EachSeesOne$Tally" "notes" "LEachSeesOne$Row;", .fieldLink RX7 22 "EachSeesOne$Tally" "path" "LEachSeesOne$Row;", .classLink RX7 25 RX0, .instantiable RX0 5, .initialized RX0, .fieldLink RX7 28 "EachSeesOne$Tally" "boat" "LEachSeesOne$Boat;", .methodLink RX7 15 yX6_init, .instanceMethod yX6_init, .code yX6_init cX6_init 2 none, .methodLink RX6 1 objectInit, .arrayClass .int, .fieldLink RX6 7 "EachSeesOne$Row" "numbers" "[I", .instanceMethod yX0_init, .code yX0_init cX0_init 1 none, .methodLink RX0 3 objectInit] ++ wsX60 ++ wsX70 ++ wsX00)
def wsX2_init_r1 : List Cond := [Cond.methodLink RX2 3 objectInit, Cond.instanceMethod objectInit, Cond.code objectInit ⟨#[0xb1]⟩ 1 none, Cond.classLink RX2 9 RX1, Cond.instantiable RX1 7, Cond.initialized RX1, Cond.fieldLink RX2 12 "EachSeesOne$Inquiry" "tried" "LEachSeesOne$Crew;", Cond.classLink RX2 18 RX7, Cond.instantiable RX7 4, Cond.initialized RX7, Cond.fieldLink RX2 21 "EachSeesOne$Inquiry" "tally" "LEachSeesOne$Tally;", Cond.fieldLink RX2 25 "EachSeesOne$Inquiry" "water" "LEachSeesOne$Water;", Cond.fieldLink RX2 29 "EachSeesOne$Inquiry" "crew" "LEachSeesOne$Crew;", Cond.instanceMethod yX1_init, Cond.code yX1_init cX1_init 1 none, Cond.methodLink RX1 3 objectInit, Cond.classLink RX1 9 RX6, Cond.instantiable RX6 1, Cond.initialized RX6, Cond.fieldLink RX1 14 "EachSeesOne$Crew" "manners" "LEachSeesOne$Row;", Cond.methodLink RX1 11 yX6_init, Cond.instanceMethod yX6_init, Cond.code yX6_init cX6_init 2 none, Cond.methodLink RX6 1 objectInit]
def wsX2_init_r2 : List Cond := [Cond.arrayClass .int, Cond.fieldLink RX6 7 "EachSeesOne$Row" "numbers" "[I", Cond.instanceMethod yX7_init, Cond.code yX7_init cX7_init 1 none, Cond.methodLink RX7 7 objectInit, Cond.classLink RX7 13 RX6, Cond.fieldLink RX7 18 "EachSeesOne$Tally" "notes" "LEachSeesOne$Row;", Cond.fieldLink RX7 22 "EachSeesOne$Tally" "path" "LEachSeesOne$Row;", Cond.classLink RX7 25 RX0, Cond.instantiable RX0 5, Cond.initialized RX0, Cond.fieldLink RX7 28 "EachSeesOne$Tally" "boat" "LEachSeesOne$Boat;", Cond.methodLink RX7 15 yX6_init, Cond.instanceMethod yX0_init, Cond.code yX0_init cX0_init 1 none, Cond.methodLink RX0 3 objectInit]
def wsX2_init : List Cond := .code yX2_init cX2_init 3 none :: ((wsX2_init_r1 ++ wsX2_init_r2) ++ wsX10 ++ wsX20 ++ wsX70 ++ wsX60 ++ wsX00)
def wsX4_init : List Cond := .code yX4_init cX4_init 1 none :: ([.methodLink RX4 3 objectInit, .instanceMethod objectInit, .code objectInit ⟨#[0xb1]⟩ 1 none, .classLink RX4 9 RX6, .instantiable RX6 1, .initialized RX6, .fieldLink RX4 16 "EachSeesOne$Plan" "rocks" "LEachSeesOne$Row;", .fieldLink RX4 20 "EachSeesOne$Plan" "homeCells" "LEachSeesOne$Row;", .fieldLink RX4 23 "EachSeesOne$Plan" "manners" "LEachSeesOne$Row;", .methodLink RX4 13 yX6_init, .instanceMethod yX6_init, .code yX6_init cX6_init 2 none, .methodLink RX6 1 objectInit, .arrayClass .int, .fieldLink RX6 7 "EachSeesOne$Row" "numbers" "[I"] ++ wsX60 ++ wsX40)
def wsX5_init : List Cond := .code yX5_init cX5_init 1 none :: ([.methodLink RX5 3 objectInit, .instanceMethod objectInit, .code objectInit ⟨#[0xb1]⟩ 1 none, .classLink RX5 9 RX6, .instantiable RX6 1, .initialized RX6, .fieldLink RX5 16 "EachSeesOne$Reader" "told" "LEachSeesOne$Row;", .methodLink RX5 13 yX6_init, .instanceMethod yX6_init, .code yX6_init cX6_init 2 none, .methodLink RX6 1 objectInit, .arrayClass .int, .fieldLink RX6 7 "EachSeesOne$Row" "numbers" "[I"] ++ wsX60 ++ wsX50)
def wsX8_init : List Cond := .code yX8_init cX8_init 1 none :: ([.methodLink RX8 3 objectInit, .instanceMethod objectInit, .code objectInit ⟨#[0xb1]⟩ 1 none, .classLink RX8 9 RX6, .instantiable RX6 1, .initialized RX6, .fieldLink RX8 14 "EachSeesOne$Text" "bytes" "LEachSeesOne$Row;", .methodLink RX8 11 yX6_init, .instanceMethod yX6_init, .code yX6_init cX6_init 2 none, .methodLink RX6 1 objectInit, .arrayClass .int, .fieldLink RX6 7 "EachSeesOne$Row" "numbers" "[I"] ++ wsX60 ++ wsX80)
def wsX9_init : List Cond := .code yX9_init cX9_init 3 none :: ([.methodLink RX9 3 objectInit, .instanceMethod objectInit, .code objectInit ⟨#[0xb1]⟩ 1 none, .classLink RX9 9 RX0, .instantiable RX0 5, .initialized RX0, .fieldLink RX9 12 "EachSeesOne$Trial" "boat" "LEachSeesOne$Boat;", .classLink RX9 18 RX6, .instantiable RX6 1, .initialized RX6, .fieldLink RX9 23 "EachSeesOne$Trial" "told" "LEachSeesOne$Row;", .fieldLink RX9 27 "EachSeesOne$Trial" "water" "LEachSeesOne$Water;", .fieldLink RX9 31 "EachSeesOne$Trial" "crew" "LEachSeesOne$Crew;", .instanceMethod yX0_init, .code yX0_init cX0_init 1 none, .methodLink RX0 3 objectInit, .methodLink RX9 20 yX6_init, .instanceMethod yX6_init, .code yX6_init cX6_init 2 none, .methodLink RX6 1 objectInit, .arrayClass .int, .fieldLink RX6 7 "EachSeesOne$Row" "numbers" "[I"] ++ wsX00 ++ wsX90 ++ wsX60)
def wsX10_init : List Cond := .code yX10_init cX10_init 1 none :: ([.methodLink RX10 3 objectInit, .instanceMethod objectInit, .code objectInit ⟨#[0xb1]⟩ 1 none, .classLink RX10 9 RX6, .instantiable RX6 1, .initialized RX6, .fieldLink RX10 16 "EachSeesOne$Water" "kinds" "LEachSeesOne$Row;", .fieldLink RX10 20 "EachSeesOne$Water" "beside" "LEachSeesOne$Row;", .fieldLink RX10 23 "EachSeesOne$Water" "sights" "LEachSeesOne$Row;", .methodLink RX10 13 yX6_init, .instanceMethod yX6_init, .code yX6_init cX6_init 2 none, .methodLink RX6 1 objectInit, .arrayClass .int, .fieldLink RX6 7 "EachSeesOne$Row" "numbers" "[I"] ++ wsX60 ++ wsX100)
theorem dX0_init_0 : decode cX0_init 0 = .ok (.aload_n 0, 1) := by decide +kernel
theorem dX0_init_1 : decode cX0_init 1 = .ok (.invokespecial 3, 3) := by decide +kernel
theorem dX0_init_4 : decode cX0_init 4 = .ok (.return_, 1) := by decide +kernel
set_option maxRecDepth 20000 in
theorem ggX1_init_X6_init : GoodIn wsX1_init wsX6_init := goodIn_r _ [10, 11, 2, 3, 12, 13, 14] (by decide +kernel) (by decide +kernel)
set_option maxRecDepth 20000 in
theorem gX1_init_X6_init : GoodIn wsX1_init (wsX6_init) := ggX1_init_X6_init
theorem dX1_init_0 : decode cX1_init 0 = .ok (.aload_n 0, 1) := by decide +kernel
theorem dX1_init_1 : decode cX1_init 1 = .ok (.invokespecial 3, 3) := by decide +kernel
theorem dX1_init_4 : decode cX1_init 4 = .ok (.aload_n 0, 1) := by decide +kernel
theorem dX1_init_5 : decode cX1_init 5 = .ok (.new 9, 3) := by decide +kernel
theorem dX1_init_8 : decode cX1_init 8 = .ok (.dup, 1) := by decide +kernel
theorem dX1_init_9 : decode cX1_init 9 = .ok (.iconst 4, 1) := by decide +kernel
theorem dX1_init_10 : decode cX1_init 10 = .ok (.invokespecial 11, 3) := by decide +kernel
theorem dX1_init_13 : decode cX1_init 13 = .ok (.putfield 14, 3) := by decide +kernel
theorem dX1_init_16 : decode cX1_init 16 = .ok (.return_, 1) := by decide +kernel
set_option maxRecDepth 20000 in
theorem ggX2_init_X1_init : GoodIn wsX2_init wsX1_init := goodIn_r _ [15, 16, 2, 3, 17, 18, 19, 20, 21, 22, 23, 24, 25, 26, 61, 41, 42, 43, 44, 45, 46, 47] (by decide +kernel) (by decide +kernel)
set_option maxRecDepth 20000 in
theorem gX2_init_X1_init_n11 : GoodIn wsX2_init (wsX1_init) := ggX2_init_X1_init
set_option maxRecDepth 20000 in
theorem ggX2_init_X7_init : GoodIn wsX2_init wsX7_init := goodIn_r _ [28, 29, 2, 3, 30, 18, 19, 31, 32, 33, 34, 35, 36, 37, 22, 23, 24, 25, 26, 38, 39, 40, 61, 57, 58, 59, 60, 62, 63, 64, 65, 66] (by decide +kernel) (by decide +kernel)
set_option maxRecDepth 20000 in
theorem gX2_init_X7_init_n20 : GoodIn wsX2_init (wsX7_init) := ggX2_init_X7_init
theorem dX2_init_0 : decode cX2_init 0 = .ok (.aload_n 0, 1) := by decide +kernel
theorem dX2_init_1 : decode cX2_init 1 = .ok (.invokespecial 3, 3) := by decide +kernel
theorem dX2_init_4 : decode cX2_init 4 = .ok (.aload_n 0, 1) := by decide +kernel
theorem dX2_init_5 : decode cX2_init 5 = .ok (.new 9, 3) := by decide +kernel
theorem dX2_init_8 : decode cX2_init 8 = .ok (.dup, 1) := by decide +kernel
theorem dX2_init_9 : decode cX2_init 9 = .ok (.invokespecial 11, 3) := by decide +kernel
theorem dX2_init_12 : decode cX2_init 12 = .ok (.putfield 12, 3) := by decide +kernel
theorem dX2_init_15 : decode cX2_init 15 = .ok (.aload_n 0, 1) := by decide +kernel
theorem dX2_init_16 : decode cX2_init 16 = .ok (.new 18, 3) := by decide +kernel
theorem dX2_init_19 : decode cX2_init 19 = .ok (.dup, 1) := by decide +kernel
theorem dX2_init_20 : decode cX2_init 20 = .ok (.invokespecial 20, 3) := by decide +kernel
theorem dX2_init_23 : decode cX2_init 23 = .ok (.putfield 21, 3) := by decide +kernel
theorem dX2_init_26 : decode cX2_init 26 = .ok (.aload_n 0, 1) := by decide +kernel
theorem dX2_init_27 : decode cX2_init 27 = .ok (.aload_n 1, 1) := by decide +kernel
theorem dX2_init_28 : decode cX2_init 28 = .ok (.putfield 25, 3) := by decide +kernel
theorem dX2_init_31 : decode cX2_init 31 = .ok (.aload_n 0, 1) := by decide +kernel
theorem dX2_init_32 : decode cX2_init 32 = .ok (.aload_n 2, 1) := by decide +kernel
theorem dX2_init_33 : decode cX2_init 33 = .ok (.putfield 29, 3) := by decide +kernel
theorem dX2_init_36 : decode cX2_init 36 = .ok (.return_, 1) := by decide +kernel
set_option maxRecDepth 20000 in
theorem ggX4_init_X6_init : GoodIn wsX4_init wsX6_init := goodIn_r _ [12, 13, 2, 3, 14, 15, 16] (by decide +kernel) (by decide +kernel)
set_option maxRecDepth 20000 in
theorem gX4_init_X6_init : GoodIn wsX4_init (wsX6_init) := ggX4_init_X6_init
theorem dX4_init_0 : decode cX4_init 0 = .ok (.aload_n 0, 1) := by decide +kernel
theorem dX4_init_1 : decode cX4_init 1 = .ok (.invokespecial 3, 3) := by decide +kernel
theorem dX4_init_4 : decode cX4_init 4 = .ok (.aload_n 0, 1) := by decide +kernel
theorem dX4_init_5 : decode cX4_init 5 = .ok (.new 9, 3) := by decide +kernel
theorem dX4_init_8 : decode cX4_init 8 = .ok (.dup, 1) := by decide +kernel
theorem dX4_init_9 : decode cX4_init 9 = .ok (.bipush 64, 2) := by decide +kernel
theorem dX4_init_11 : decode cX4_init 11 = .ok (.invokespecial 13, 3) := by decide +kernel
theorem dX4_init_14 : decode cX4_init 14 = .ok (.putfield 16, 3) := by decide +kernel
theorem dX4_init_17 : decode cX4_init 17 = .ok (.aload_n 0, 1) := by decide +kernel
theorem dX4_init_18 : decode cX4_init 18 = .ok (.new 9, 3) := by decide +kernel
theorem dX4_init_21 : decode cX4_init 21 = .ok (.dup, 1) := by decide +kernel
theorem dX4_init_22 : decode cX4_init 22 = .ok (.bipush 64, 2) := by decide +kernel
theorem dX4_init_24 : decode cX4_init 24 = .ok (.invokespecial 13, 3) := by decide +kernel
theorem dX4_init_27 : decode cX4_init 27 = .ok (.putfield 20, 3) := by decide +kernel
theorem dX4_init_30 : decode cX4_init 30 = .ok (.aload_n 0, 1) := by decide +kernel
theorem dX4_init_31 : decode cX4_init 31 = .ok (.new 9, 3) := by decide +kernel
theorem dX4_init_34 : decode cX4_init 34 = .ok (.dup, 1) := by decide +kernel
theorem dX4_init_35 : decode cX4_init 35 = .ok (.iconst 4, 1) := by decide +kernel
theorem dX4_init_36 : decode cX4_init 36 = .ok (.invokespecial 13, 3) := by decide +kernel
theorem dX4_init_39 : decode cX4_init 39 = .ok (.putfield 23, 3) := by decide +kernel
theorem dX4_init_42 : decode cX4_init 42 = .ok (.return_, 1) := by decide +kernel
set_option maxRecDepth 20000 in
theorem ggX5_init_X6_init : GoodIn wsX5_init wsX6_init := goodIn_r _ [10, 11, 2, 3, 12, 13, 14] (by decide +kernel) (by decide +kernel)
set_option maxRecDepth 20000 in
theorem gX5_init_X6_init : GoodIn wsX5_init (wsX6_init) := ggX5_init_X6_init
theorem dX5_init_0 : decode cX5_init 0 = .ok (.aload_n 0, 1) := by decide +kernel
theorem dX5_init_1 : decode cX5_init 1 = .ok (.invokespecial 3, 3) := by decide +kernel
theorem dX5_init_4 : decode cX5_init 4 = .ok (.aload_n 0, 1) := by decide +kernel
theorem dX5_init_5 : decode cX5_init 5 = .ok (.new 9, 3) := by decide +kernel
theorem dX5_init_8 : decode cX5_init 8 = .ok (.dup, 1) := by decide +kernel
theorem dX5_init_9 : decode cX5_init 9 = .ok (.iconst 3, 1) := by decide +kernel
theorem dX5_init_10 : decode cX5_init 10 = .ok (.invokespecial 13, 3) := by decide +kernel
theorem dX5_init_13 : decode cX5_init 13 = .ok (.putfield 16, 3) := by decide +kernel
theorem dX5_init_16 : decode cX5_init 16 = .ok (.return_, 1) := by decide +kernel
theorem dX6_init_0 : decode cX6_init 0 = .ok (.aload_n 0, 1) := by decide +kernel
theorem dX6_init_1 : decode cX6_init 1 = .ok (.invokespecial 1, 3) := by decide +kernel
theorem dX6_init_4 : decode cX6_init 4 = .ok (.aload_n 0, 1) := by decide +kernel
theorem dX6_init_5 : decode cX6_init 5 = .ok (.iload_n 1, 1) := by decide +kernel
theorem dX6_init_6 : decode cX6_init 6 = .ok (.ifCond .le 7, 3) := by decide +kernel
theorem dX6_init_9 : decode cX6_init 9 = .ok (.iload_n 1, 1) := by decide +kernel
theorem dX6_init_10 : decode cX6_init 10 = .ok (.goto 4, 3) := by decide +kernel
theorem dX6_init_13 : decode cX6_init 13 = .ok (.iconst 0, 1) := by decide +kernel
theorem dX6_init_14 : decode cX6_init 14 = .ok (.newarray .int, 2) := by decide +kernel
theorem dX6_init_16 : decode cX6_init 16 = .ok (.putfield 7, 3) := by decide +kernel
theorem dX6_init_19 : decode cX6_init 19 = .ok (.return_, 1) := by decide +kernel
set_option maxRecDepth 20000 in
theorem ggX7_init_X6_init : GoodIn wsX7_init wsX6_init := goodIn_r _ [15, 16, 2, 3, 17, 18, 22] (by decide +kernel) (by decide +kernel)
set_option maxRecDepth 20000 in
theorem gX7_init_X6_init : GoodIn wsX7_init (wsX6_init) := ggX7_init_X6_init
set_option maxRecDepth 20000 in
theorem ggX7_init_X0_init : GoodIn wsX7_init wsX0_init := goodIn_r _ [20, 21, 2, 3] (by decide +kernel) (by decide +kernel)
set_option maxRecDepth 20000 in
theorem gX7_init_X0_init_n27 : GoodIn wsX7_init (wsX0_init) := ggX7_init_X0_init
theorem dX7_init_0 : decode cX7_init 0 = .ok (.aload_n 0, 1) := by decide +kernel
theorem dX7_init_1 : decode cX7_init 1 = .ok (.invokespecial 7, 3) := by decide +kernel
theorem dX7_init_4 : decode cX7_init 4 = .ok (.aload_n 0, 1) := by decide +kernel
theorem dX7_init_5 : decode cX7_init 5 = .ok (.new 13, 3) := by decide +kernel
theorem dX7_init_8 : decode cX7_init 8 = .ok (.dup, 1) := by decide +kernel
theorem dX7_init_9 : decode cX7_init 9 = .ok (.sipush 4096, 3) := by decide +kernel
theorem dX7_init_12 : decode cX7_init 12 = .ok (.invokespecial 15, 3) := by decide +kernel
theorem dX7_init_15 : decode cX7_init 15 = .ok (.putfield 18, 3) := by decide +kernel
theorem dX7_init_18 : decode cX7_init 18 = .ok (.aload_n 0, 1) := by decide +kernel
theorem dX7_init_19 : decode cX7_init 19 = .ok (.new 13, 3) := by decide +kernel
theorem dX7_init_22 : decode cX7_init 22 = .ok (.dup, 1) := by decide +kernel
theorem dX7_init_23 : decode cX7_init 23 = .ok (.sipush 4096, 3) := by decide +kernel
theorem dX7_init_26 : decode cX7_init 26 = .ok (.invokespecial 15, 3) := by decide +kernel
theorem dX7_init_29 : decode cX7_init 29 = .ok (.putfield 22, 3) := by decide +kernel
theorem dX7_init_32 : decode cX7_init 32 = .ok (.aload_n 0, 1) := by decide +kernel
theorem dX7_init_33 : decode cX7_init 33 = .ok (.new 25, 3) := by decide +kernel
theorem dX7_init_36 : decode cX7_init 36 = .ok (.dup, 1) := by decide +kernel
theorem dX7_init_37 : decode cX7_init 37 = .ok (.invokespecial 27, 3) := by decide +kernel
theorem dX7_init_40 : decode cX7_init 40 = .ok (.putfield 28, 3) := by decide +kernel
theorem dX7_init_43 : decode cX7_init 43 = .ok (.return_, 1) := by decide +kernel
set_option maxRecDepth 20000 in
theorem ggX8_init_X6_init : GoodIn wsX8_init wsX6_init := goodIn_r _ [10, 11, 2, 3, 12, 13, 14] (by decide +kernel) (by decide +kernel)
set_option maxRecDepth 20000 in
theorem gX8_init_X6_init : GoodIn wsX8_init (wsX6_init) := ggX8_init_X6_init
theorem dX8_init_0 : decode cX8_init 0 = .ok (.aload_n 0, 1) := by decide +kernel
theorem dX8_init_1 : decode cX8_init 1 = .ok (.invokespecial 3, 3) := by decide +kernel
theorem dX8_init_4 : decode cX8_init 4 = .ok (.aload_n 0, 1) := by decide +kernel
theorem dX8_init_5 : decode cX8_init 5 = .ok (.new 9, 3) := by decide +kernel
theorem dX8_init_8 : decode cX8_init 8 = .ok (.dup, 1) := by decide +kernel
theorem dX8_init_9 : decode cX8_init 9 = .ok (.sipush 400, 3) := by decide +kernel
theorem dX8_init_12 : decode cX8_init 12 = .ok (.invokespecial 11, 3) := by decide +kernel
theorem dX8_init_15 : decode cX8_init 15 = .ok (.putfield 14, 3) := by decide +kernel
theorem dX8_init_18 : decode cX8_init 18 = .ok (.return_, 1) := by decide +kernel
set_option maxRecDepth 20000 in
theorem ggX9_init_X0_init : GoodIn wsX9_init wsX0_init := goodIn_r _ [15, 16, 2, 3] (by decide +kernel) (by decide +kernel)
set_option maxRecDepth 20000 in
theorem gX9_init_X0_init_n11 : GoodIn wsX9_init (wsX0_init) := ggX9_init_X0_init
set_option maxRecDepth 20000 in
theorem ggX9_init_X6_init : GoodIn wsX9_init wsX6_init := goodIn_r _ [19, 20, 2, 3, 21, 22, 32] (by decide +kernel) (by decide +kernel)
set_option maxRecDepth 20000 in
theorem gX9_init_X6_init : GoodIn wsX9_init (wsX6_init) := ggX9_init_X6_init
theorem dX9_init_0 : decode cX9_init 0 = .ok (.aload_n 0, 1) := by decide +kernel
theorem dX9_init_1 : decode cX9_init 1 = .ok (.invokespecial 3, 3) := by decide +kernel
theorem dX9_init_4 : decode cX9_init 4 = .ok (.aload_n 0, 1) := by decide +kernel
theorem dX9_init_5 : decode cX9_init 5 = .ok (.new 9, 3) := by decide +kernel
theorem dX9_init_8 : decode cX9_init 8 = .ok (.dup, 1) := by decide +kernel
theorem dX9_init_9 : decode cX9_init 9 = .ok (.invokespecial 11, 3) := by decide +kernel
theorem dX9_init_12 : decode cX9_init 12 = .ok (.putfield 12, 3) := by decide +kernel
theorem dX9_init_15 : decode cX9_init 15 = .ok (.aload_n 0, 1) := by decide +kernel
theorem dX9_init_16 : decode cX9_init 16 = .ok (.new 18, 3) := by decide +kernel
theorem dX9_init_19 : decode cX9_init 19 = .ok (.dup, 1) := by decide +kernel
theorem dX9_init_20 : decode cX9_init 20 = .ok (.bipush 20, 2) := by decide +kernel
theorem dX9_init_22 : decode cX9_init 22 = .ok (.invokespecial 20, 3) := by decide +kernel
theorem dX9_init_25 : decode cX9_init 25 = .ok (.putfield 23, 3) := by decide +kernel
theorem dX9_init_28 : decode cX9_init 28 = .ok (.aload_n 0, 1) := by decide +kernel
theorem dX9_init_29 : decode cX9_init 29 = .ok (.aload_n 1, 1) := by decide +kernel
theorem dX9_init_30 : decode cX9_init 30 = .ok (.putfield 27, 3) := by decide +kernel
theorem dX9_init_33 : decode cX9_init 33 = .ok (.aload_n 0, 1) := by decide +kernel
theorem dX9_init_34 : decode cX9_init 34 = .ok (.aload_n 2, 1) := by decide +kernel
theorem dX9_init_35 : decode cX9_init 35 = .ok (.putfield 31, 3) := by decide +kernel
theorem dX9_init_38 : decode cX9_init 38 = .ok (.return_, 1) := by decide +kernel
set_option maxRecDepth 20000 in
theorem ggX10_init_X6_init : GoodIn wsX10_init wsX6_init := goodIn_r _ [12, 13, 2, 3, 14, 15, 16] (by decide +kernel) (by decide +kernel)
set_option maxRecDepth 20000 in
theorem gX10_init_X6_init : GoodIn wsX10_init (wsX6_init) := ggX10_init_X6_init
theorem dX10_init_0 : decode cX10_init 0 = .ok (.aload_n 0, 1) := by decide +kernel
theorem dX10_init_1 : decode cX10_init 1 = .ok (.invokespecial 3, 3) := by decide +kernel
theorem dX10_init_4 : decode cX10_init 4 = .ok (.aload_n 0, 1) := by decide +kernel
theorem dX10_init_5 : decode cX10_init 5 = .ok (.new 9, 3) := by decide +kernel
theorem dX10_init_8 : decode cX10_init 8 = .ok (.dup, 1) := by decide +kernel
theorem dX10_init_9 : decode cX10_init 9 = .ok (.bipush 64, 2) := by decide +kernel
theorem dX10_init_11 : decode cX10_init 11 = .ok (.invokespecial 13, 3) := by decide +kernel
theorem dX10_init_14 : decode cX10_init 14 = .ok (.putfield 16, 3) := by decide +kernel
theorem dX10_init_17 : decode cX10_init 17 = .ok (.aload_n 0, 1) := by decide +kernel
theorem dX10_init_18 : decode cX10_init 18 = .ok (.new 9, 3) := by decide +kernel
theorem dX10_init_21 : decode cX10_init 21 = .ok (.dup, 1) := by decide +kernel
theorem dX10_init_22 : decode cX10_init 22 = .ok (.sipush 256, 3) := by decide +kernel
theorem dX10_init_25 : decode cX10_init 25 = .ok (.invokespecial 13, 3) := by decide +kernel
theorem dX10_init_28 : decode cX10_init 28 = .ok (.putfield 20, 3) := by decide +kernel
theorem dX10_init_31 : decode cX10_init 31 = .ok (.aload_n 0, 1) := by decide +kernel
theorem dX10_init_32 : decode cX10_init 32 = .ok (.new 9, 3) := by decide +kernel
theorem dX10_init_35 : decode cX10_init 35 = .ok (.dup, 1) := by decide +kernel
theorem dX10_init_36 : decode cX10_init 36 = .ok (.sipush 256, 3) := by decide +kernel
theorem dX10_init_39 : decode cX10_init 39 = .ok (.invokespecial 13, 3) := by decide +kernel
theorem dX10_init_42 : decode cX10_init 42 = .ok (.putfield 23, 3) := by decide +kernel
theorem dX10_init_45 : decode cX10_init 45 = .ok (.return_, 1) := by decide +kernel
theorem dX11_init_0 : decode cX11_init 0 = .ok (.aload_n 0, 1) := by decide +kernel
theorem dX11_init_1 : decode cX11_init 1 = .ok (.invokespecial 1, 3) := by decide +kernel
theorem dX11_init_4 : decode cX11_init 4 = .ok (.aload_n 0, 1) := by decide +kernel
theorem dX11_init_5 : decode cX11_init 5 = .ok (.new 7, 3) := by decide +kernel
theorem dX11_init_8 : decode cX11_init 8 = .ok (.dup, 1) := by decide +kernel
theorem dX11_init_9 : decode cX11_init 9 = .ok (.invokespecial 9, 3) := by decide +kernel
theorem dX11_init_12 : decode cX11_init 12 = .ok (.putfield 10, 3) := by decide +kernel
theorem dX11_init_15 : decode cX11_init 15 = .ok (.aload_n 0, 1) := by decide +kernel
theorem dX11_init_16 : decode cX11_init 16 = .ok (.new 16, 3) := by decide +kernel
theorem dX11_init_19 : decode cX11_init 19 = .ok (.dup, 1) := by decide +kernel
theorem dX11_init_20 : decode cX11_init 20 = .ok (.invokespecial 18, 3) := by decide +kernel
theorem dX11_init_23 : decode cX11_init 23 = .ok (.putfield 19, 3) := by decide +kernel
theorem dX11_init_26 : decode cX11_init 26 = .ok (.aload_n 0, 1) := by decide +kernel
theorem dX11_init_27 : decode cX11_init 27 = .ok (.new 23, 3) := by decide +kernel
theorem dX11_init_30 : decode cX11_init 30 = .ok (.dup, 1) := by decide +kernel
theorem dX11_init_31 : decode cX11_init 31 = .ok (.invokespecial 25, 3) := by decide +kernel
theorem dX11_init_34 : decode cX11_init 34 = .ok (.putfield 26, 3) := by decide +kernel
theorem dX11_init_37 : decode cX11_init 37 = .ok (.aload_n 0, 1) := by decide +kernel
theorem dX11_init_38 : decode cX11_init 38 = .ok (.new 30, 3) := by decide +kernel
theorem dX11_init_41 : decode cX11_init 41 = .ok (.dup, 1) := by decide +kernel
theorem dX11_init_42 : decode cX11_init 42 = .ok (.invokespecial 32, 3) := by decide +kernel
theorem dX11_init_45 : decode cX11_init 45 = .ok (.putfield 33, 3) := by decide +kernel
theorem dX11_init_48 : decode cX11_init 48 = .ok (.aload_n 0, 1) := by decide +kernel
theorem dX11_init_49 : decode cX11_init 49 = .ok (.new 37, 3) := by decide +kernel
theorem dX11_init_52 : decode cX11_init 52 = .ok (.dup, 1) := by decide +kernel
theorem dX11_init_53 : decode cX11_init 53 = .ok (.invokespecial 39, 3) := by decide +kernel
theorem dX11_init_56 : decode cX11_init 56 = .ok (.putfield 40, 3) := by decide +kernel
theorem dX11_init_59 : decode cX11_init 59 = .ok (.aload_n 0, 1) := by decide +kernel
theorem dX11_init_60 : decode cX11_init 60 = .ok (.new 44, 3) := by decide +kernel
theorem dX11_init_63 : decode cX11_init 63 = .ok (.dup, 1) := by decide +kernel
theorem dX11_init_64 : decode cX11_init 64 = .ok (.invokespecial 46, 3) := by decide +kernel
theorem dX11_init_67 : decode cX11_init 67 = .ok (.putfield 47, 3) := by decide +kernel
theorem dX11_init_70 : decode cX11_init 70 = .ok (.aload_n 0, 1) := by decide +kernel
theorem dX11_init_71 : decode cX11_init 71 = .ok (.new 51, 3) := by decide +kernel
theorem dX11_init_74 : decode cX11_init 74 = .ok (.dup, 1) := by decide +kernel
theorem dX11_init_75 : decode cX11_init 75 = .ok (.aload_n 0, 1) := by decide +kernel
theorem dX11_init_76 : decode cX11_init 76 = .ok (.getfield 33, 3) := by decide +kernel
theorem dX11_init_79 : decode cX11_init 79 = .ok (.aload_n 0, 1) := by decide +kernel
theorem dX11_init_80 : decode cX11_init 80 = .ok (.getfield 40, 3) := by decide +kernel
theorem dX11_init_83 : decode cX11_init 83 = .ok (.invokespecial 53, 3) := by decide +kernel
theorem dX11_init_86 : decode cX11_init 86 = .ok (.putfield 56, 3) := by decide +kernel
theorem dX11_init_89 : decode cX11_init 89 = .ok (.aload_n 0, 1) := by decide +kernel
theorem dX11_init_90 : decode cX11_init 90 = .ok (.new 60, 3) := by decide +kernel
theorem dX11_init_93 : decode cX11_init 93 = .ok (.dup, 1) := by decide +kernel
theorem dX11_init_94 : decode cX11_init 94 = .ok (.aload_n 0, 1) := by decide +kernel
theorem dX11_init_95 : decode cX11_init 95 = .ok (.getfield 33, 3) := by decide +kernel
theorem dX11_init_98 : decode cX11_init 98 = .ok (.aload_n 0, 1) := by decide +kernel
theorem dX11_init_99 : decode cX11_init 99 = .ok (.getfield 40, 3) := by decide +kernel
theorem dX11_init_102 : decode cX11_init 102 = .ok (.invokespecial 62, 3) := by decide +kernel
theorem dX11_init_105 : decode cX11_init 105 = .ok (.putfield 63, 3) := by decide +kernel
theorem dX11_init_108 : decode cX11_init 108 = .ok (.aload_n 0, 1) := by decide +kernel
theorem dX11_init_109 : decode cX11_init 109 = .ok (.new 67, 3) := by decide +kernel
theorem dX11_init_112 : decode cX11_init 112 = .ok (.dup, 1) := by decide +kernel
theorem dX11_init_113 : decode cX11_init 113 = .ok (.bipush 20, 2) := by decide +kernel
theorem dX11_init_115 : decode cX11_init 115 = .ok (.invokespecial 69, 3) := by decide +kernel
theorem dX11_init_118 : decode cX11_init 118 = .ok (.putfield 72, 3) := by decide +kernel
theorem dX11_init_121 : decode cX11_init 121 = .ok (.aload_n 0, 1) := by decide +kernel
theorem dX11_init_122 : decode cX11_init 122 = .ok (.new 76, 3) := by decide +kernel
theorem dX11_init_125 : decode cX11_init 125 = .ok (.dup, 1) := by decide +kernel
theorem dX11_init_126 : decode cX11_init 126 = .ok (.invokespecial 78, 3) := by decide +kernel
theorem dX11_init_129 : decode cX11_init 129 = .ok (.putfield 79, 3) := by decide +kernel
theorem dX11_init_132 : decode cX11_init 132 = .ok (.aload_n 0, 1) := by decide +kernel
theorem dX11_init_133 : decode cX11_init 133 = .ok (.new 76, 3) := by decide +kernel
theorem dX11_init_136 : decode cX11_init 136 = .ok (.dup, 1) := by decide +kernel
theorem dX11_init_137 : decode cX11_init 137 = .ok (.invokespecial 78, 3) := by decide +kernel
theorem dX11_init_140 : decode cX11_init 140 = .ok (.putfield 83, 3) := by decide +kernel
theorem dX11_init_143 : decode cX11_init 143 = .ok (.aload_n 0, 1) := by decide +kernel
theorem dX11_init_144 : decode cX11_init 144 = .ok (.getfield 19, 3) := by decide +kernel
theorem dX11_init_147 : decode cX11_init 147 = .ok (.invokevirtual 86, 3) := by decide +kernel
theorem dX11_init_150 : decode cX11_init 150 = .ok (.aload_n 0, 1) := by decide +kernel
theorem dX11_init_151 : decode cX11_init 151 = .ok (.getfield 19, 3) := by decide +kernel
theorem dX11_init_154 : decode cX11_init 154 = .ok (.iconst 5, 1) := by decide +kernel
theorem dX11_init_155 : decode cX11_init 155 = .ok (.iconst 5, 1) := by decide +kernel
theorem dX11_init_156 : decode cX11_init 156 = .ok (.invokevirtual 89, 3) := by decide +kernel
theorem dX11_init_159 : decode cX11_init 159 = .ok (.aload_n 0, 1) := by decide +kernel
theorem dX11_init_160 : decode cX11_init 160 = .ok (.invokevirtual 93, 3) := by decide +kernel
theorem dX11_init_163 : decode cX11_init 163 = .ok (.return_, 1) := by decide +kernel
theorem dL_law_0 : decode cL_law 0 = .ok (.new 7, 3) := by decide +kernel
theorem dL_law_3 : decode cL_law 3 = .ok (.dup, 1) := by decide +kernel
theorem dL_law_4 : decode cL_law 4 = .ok (.invokespecial 9, 3) := by decide +kernel
theorem dL_law_7 : decode cL_law 7 = .ok (.astore_n 1, 1) := by decide +kernel
abbrev vwCl : List vw_C := [(RX0, TX0, 5), (RX1, TX1, 7), (RX2, TX2, 9), (RX3, TX3, 2), (RX4, TX4, 11), (RX5, TX5, 1), (RX6, TX6, 1), (RX7, TX7, 4), (RX8, TX8, 2), (RX9, TX9, 4), (RX10, TX10, 9), (RX11, TX11, 13), (RX12, TX12, 28)]
/-! own word lists: EachSeesOne.<init> as far as it is walked, and the law up to its call -/
def wsR_own : List Cond := [.methodLink RX11 1 objectInit, .instanceMethod objectInit, .code objectInit ⟨#[0xb1]⟩ 1 none, .classLink RX11 7 RX8, .instantiable RX8 2, .initialized RX8, .classLink RX11 16 RX4, .instantiable RX4 11, .initialized RX4, .classLink RX11 23 RX5, .instantiable RX5 1, .initialized RX5, .classLink RX11 30 RX10, .instantiable RX10 9, .initialized RX10, .classLink RX11 37 RX1, .instantiable RX1 7, .initialized RX1, .classLink RX11 44 RX0, .instantiable RX0 5, .initialized RX0, .classLink RX11 51 RX9, .instantiable RX9 4, .initialized RX9, .classLink RX11 60 RX2, .instantiable RX2 9, .initialized RX2, .classLink RX11 67 RX6, .instantiable RX6 1, .initialized RX6, .classLink RX11 76 RX3, .instantiable RX3 2, .initialized RX3, .fieldLink RX11 10 "EachSeesOne" "text" "LEachSeesOne$Text;", .fieldLink RX11 19 "EachSeesOne" "plan" "LEachSeesOne$Plan;", .fieldLink RX11 26 "EachSeesOne" "reader" "LEachSeesOne$Reader;", .fieldLink RX11 33 "EachSeesOne" "water" "LEachSeesOne$Water;", .fieldLink RX11 40 "EachSeesOne" "crew" "LEachSeesOne$Crew;", .fieldLink RX11 47 "EachSeesOne" "theBarge" "LEachSeesOne$Boat;", .fieldLink RX11 56 "EachSeesOne" "trial" "LEachSeesOne$Trial;", .fieldLink RX11 63 "EachSeesOne" "inquiry" "LEachSeesOne$Inquiry;", .fieldLink RX11 72 "EachSeesOne" "wakeCells" "LEachSeesOne$Row;", .fieldLink RX11 79 "EachSeesOne" "firstKept" "LEachSeesOne$Kept;", .fieldLink RX11 83 "EachSeesOne" "secondKept" "LEachSeesOne$Kept;", .instanceMethod yX8_init, .instanceMethod yX4_init, .instanceMethod yX5_init, .instanceMethod yX10_init, .instanceMethod yX1_init, .instanceMethod yX0_init, .methodLink RX11 53 yX9_init, .instanceMethod yX9_init, .methodLink RX11 62 yX2_init, .instanceMethod yX2_init, .methodLink RX11 69 yX6_init, .instanceMethod yX6_init, .instanceMethod yX3_init]
def wsX11_init : List Cond := .code yX11_init cX11_init 1 none :: (wsR_own ++ (wsX8_init ++ (wsX4_init ++ (wsX5_init ++ (wsX10_init ++ (wsX1_init ++ (wsX0_init ++ (wsX9_init ++ (wsX2_init ++ (wsX110 ++ (wsX80 ++ (wsX40 ++ (wsX50 ++ (wsX100 ++ (wsX10 ++ (wsX00 ++ (wsX90 ++ (wsX20))))))))))))))))))
def wsL_own : List Cond := [.classLink RL 7 RX11, .methodLink RL 9 yX11_init, .instanceMethod yX11_init, .initialized RX11, .instantiable RX0 5, .instantiable RX1 7, .instantiable RX2 9, .instantiable RX3 2, .instantiable RX4 11, .instantiable RX5 1, .instantiable RX6 1, .instantiable RX7 4, .instantiable RX8 2, .instantiable RX9 4, .instantiable RX10 9, .instantiable RX11 13, .instantiable RX12 28]
def wsT : List Cond := wsL_own ++ (wsX11_init ++ (wsX00 ++ (wsX10 ++ (wsX20 ++ (wsX30 ++ (wsX40 ++ (wsX50 ++ (wsX60 ++ (wsX70 ++ (wsX80 ++ (wsX90 ++ (wsX100 ++ (wsX110 ++ (wsX120))))))))))))))
set_option maxRecDepth 100000 in
theorem tR_code : GoodIn tables_1 [.code yX11_init cX11_init 1 none] := goodIn_r _ [24] (by decide +kernel) (by decide +kernel)
set_option maxRecDepth 100000 in
theorem tR_own : GoodIn tables_1 wsR_own := goodIn_r _ [25, 26, 27, 28, 29, 2, 52, 53, 4, 102, 103, 5, 114, 115, 6, 150, 151, 7, 180, 181, 8, 216, 217, 9, 239, 240, 10, 298, 35, 3, 300, 301, 12, 401, 402, 403, 404, 405, 406, 407, 408, 409, 410, 411, 31, 55, 105, 117, 153, 183, 218, 219, 241, 242, 299, 37, 303] (by decide +kernel) (by decide +kernel)
set_option maxRecDepth 100000 in
theorem tL_own : GoodIn tables_1 wsL_own := goodIn_r _ [20, 22, 23, 1, 181, 151, 240, 301, 53, 103, 35, 248, 29, 217, 115, 21, 891] (by decide +kernel) (by decide +kernel)
set_option maxRecDepth 100000 in
theorem t_wsX8_init : GoodIn tables_1 wsX8_init := goodIn_r _ [32, 33, 26, 27, 34, 35, 3, 45, 36, 37, 38, 39, 44, 40, 41, 47, 49] (by decide +kernel) (by decide +kernel)
set_option maxRecDepth 100000 in
theorem t_wsX4_init : GoodIn tables_1 wsX4_init := goodIn_r _ [56, 57, 26, 27, 58, 35, 3, 60, 61, 62, 59, 37, 38, 39, 44, 40, 41, 79, 81, 83, 85, 87, 89, 91, 93, 95, 97, 99] (by decide +kernel) (by decide +kernel)
set_option maxRecDepth 100000 in
theorem t_wsX5_init : GoodIn tables_1 wsX5_init := goodIn_r _ [106, 107, 26, 27, 108, 35, 3, 110, 109, 37, 38, 39, 44, 40, 41, 111] (by decide +kernel) (by decide +kernel)
set_option maxRecDepth 100000 in
theorem t_wsX10_init : GoodIn tables_1 wsX10_init := goodIn_r _ [118, 119, 26, 27, 120, 35, 3, 122, 123, 124, 121, 37, 38, 39, 44, 40, 41, 131, 133, 135, 137, 139, 141, 143, 145, 147] (by decide +kernel) (by decide +kernel)
set_option maxRecDepth 100000 in
theorem t_wsX1_init : GoodIn tables_1 wsX1_init := goodIn_r _ [154, 155, 26, 27, 156, 35, 3, 158, 157, 37, 38, 39, 44, 40, 41, 165, 167, 169, 171, 173, 175, 177] (by decide +kernel) (by decide +kernel)
set_option maxRecDepth 100000 in
theorem t_wsX0_init : GoodIn tables_1 wsX0_init := goodIn_r _ [184, 185, 26, 27] (by decide +kernel) (by decide +kernel)
set_option maxRecDepth 100000 in
theorem t_wsX9_init : GoodIn tables_1 wsX9_init := goodIn_r _ [220, 221, 26, 27, 222, 181, 8, 228, 224, 35, 3, 229, 226, 227, 183, 184, 185, 225, 37, 38, 39, 44, 40, 205, 207, 209, 211, 213, 230, 232, 234, 236, 41] (by decide +kernel) (by decide +kernel)
set_option maxRecDepth 100000 in
theorem t_wsX2_init : GoodIn tables_1 wsX2_init := goodIn_r _ [243, 244, 26, 27, 245, 151, 7, 272, 247, 248, 11, 273, 270, 271, 153, 154, 155, 156, 35, 3, 158, 157, 37, 38, 39, 44, 40, 250, 251, 252, 253, 257, 258, 255, 181, 8, 259, 254, 183, 184, 185, 165, 167, 169, 171, 173, 175, 177, 279, 281, 283, 285, 287, 289, 291, 293, 295, 261, 263, 265, 267, 41, 205, 207, 209, 211, 213] (by decide +kernel) (by decide +kernel)
set_option maxRecDepth 100000 in
theorem t_wsX00 : GoodIn tables_1 wsX00 := goodIn_r _ [205, 207, 209, 211, 213] (by decide +kernel) (by decide +kernel)
set_option maxRecDepth 100000 in
theorem t_wsX10 : GoodIn tables_1 wsX10 := goodIn_r _ [165, 167, 169, 171, 173, 175, 177] (by decide +kernel) (by decide +kernel)
set_option maxRecDepth 100000 in
theorem t_wsX20 : GoodIn tables_1 wsX20 := goodIn_r _ [279, 281, 283, 285, 287, 289, 291, 293, 295] (by decide +kernel) (by decide +kernel)
set_option maxRecDepth 100000 in
theorem t_wsX30 : GoodIn tables_1 wsX30 := goodIn_r _ [312, 314] (by decide +kernel) (by decide +kernel)
set_option maxRecDepth 100000 in
theorem t_wsX40 : GoodIn tables_1 wsX40 := goodIn_r _ [79, 81, 83, 85, 87, 89, 91, 93, 95, 97, 99] (by decide +kernel) (by decide +kernel)
set_option maxRecDepth 100000 in
theorem t_wsX50 : GoodIn tables_1 wsX50 := goodIn_r _ [111] (by decide +kernel) (by decide +kernel)
set_option maxRecDepth 100000 in
theorem t_wsX60 : GoodIn tables_1 wsX60 := goodIn_r _ [41] (by decide +kernel) (by decide +kernel)
set_option maxRecDepth 100000 in
theorem t_wsX70 : GoodIn tables_1 wsX70 := goodIn_r _ [261, 263, 265, 267] (by decide +kernel) (by decide +kernel)
set_option maxRecDepth 100000 in
theorem t_wsX80 : GoodIn tables_1 wsX80 := goodIn_r _ [47, 49] (by decide +kernel) (by decide +kernel)
set_option maxRecDepth 100000 in
theorem t_wsX90 : GoodIn tables_1 wsX90 := goodIn_r _ [230, 232, 234, 236] (by decide +kernel) (by decide +kernel)
set_option maxRecDepth 100000 in
theorem t_wsX100 : GoodIn tables_1 wsX100 := goodIn_r _ [131, 133, 135, 137, 139, 141, 143, 145, 147] (by decide +kernel) (by decide +kernel)
set_option maxRecDepth 100000 in
theorem t_wsX110 : GoodIn tables_1 wsX110 := goodIn_r _ [414, 416, 418, 420, 422, 424, 426, 428, 430, 432, 434, 436, 438] (by decide +kernel) (by decide +kernel)
set_option maxRecDepth 100000 in
theorem t_wsX120 : GoodIn tables_1 wsX120 := goodIn_r _ [963, 965, 967, 969, 971, 973, 975, 977, 979, 981, 983, 985, 987, 989, 991, 993, 995, 997, 999, 1001, 1003, 1005, 1007, 1009, 1011, 1013, 1015, 1017] (by decide +kernel) (by decide +kernel)
theorem t_X11_init : GoodIn tables_1 wsX11_init := goodIn_app (a := [.code yX11_init cX11_init 1 none]) tR_code (goodIn_app tR_own ((goodIn_app t_wsX8_init  (goodIn_app t_wsX4_init  (goodIn_app t_wsX5_init  (goodIn_app t_wsX10_init  (goodIn_app t_wsX1_init  (goodIn_app t_wsX0_init  (goodIn_app t_wsX9_init  (goodIn_app t_wsX2_init  (goodIn_app t_wsX110  (goodIn_app t_wsX80  (goodIn_app t_wsX40  (goodIn_app t_wsX50  (goodIn_app t_wsX100  (goodIn_app t_wsX10  (goodIn_app t_wsX00  (goodIn_app t_wsX90 t_wsX20))))))))))))))))))
theorem t_wsT : GoodIn tables_1 wsT := goodIn_app tL_own (goodIn_app t_X11_init ((goodIn_app t_wsX00  (goodIn_app t_wsX10  (goodIn_app t_wsX20  (goodIn_app t_wsX30  (goodIn_app t_wsX40  (goodIn_app t_wsX50  (goodIn_app t_wsX60  (goodIn_app t_wsX70  (goodIn_app t_wsX80  (goodIn_app t_wsX90  (goodIn_app t_wsX100  (goodIn_app t_wsX110 t_wsX120))))))))))))))
theorem mR_wsR_own : ∀ w ∈ wsR_own, w ∈ wsX11_init := fun w h => List.mem_cons_of_mem _ (List.mem_append_left _ h)
theorem mR_wsX8_init : ∀ w ∈ wsX8_init, w ∈ wsX11_init := fun w h => List.mem_cons_of_mem _ (List.mem_append_right _ (List.mem_append_left _ h))
theorem gR_wsX8_init : GoodIn wsX11_init wsX8_init := fun w h => ⟨mR_wsX8_init w h, (t_wsX8_init w h).2⟩
theorem mR_wsX4_init : ∀ w ∈ wsX4_init, w ∈ wsX11_init := fun w h => List.mem_cons_of_mem _ (List.mem_append_right _ (List.mem_append_right _ (List.mem_append_left _ h)))
theorem gR_wsX4_init : GoodIn wsX11_init wsX4_init := fun w h => ⟨mR_wsX4_init w h, (t_wsX4_init w h).2⟩
theorem mR_wsX5_init : ∀ w ∈ wsX5_init, w ∈ wsX11_init := fun w h => List.mem_cons_of_mem _ (List.mem_append_right _ (List.mem_append_right _ (List.mem_append_right _ (List.mem_append_left _ h))))
theorem gR_wsX5_init : GoodIn wsX11_init wsX5_init := fun w h => ⟨mR_wsX5_init w h, (t_wsX5_init w h).2⟩
theorem mR_wsX10_init : ∀ w ∈ wsX10_init, w ∈ wsX11_init := fun w h => List.mem_cons_of_mem _ (List.mem_append_right _ (List.mem_append_right _ (List.mem_append_right _ (List.mem_append_right _ (List.mem_append_left _ h)))))
theorem gR_wsX10_init : GoodIn wsX11_init wsX10_init := fun w h => ⟨mR_wsX10_init w h, (t_wsX10_init w h).2⟩
theorem mR_wsX1_init : ∀ w ∈ wsX1_init, w ∈ wsX11_init := fun w h => List.mem_cons_of_mem _ (List.mem_append_right _ (List.mem_append_right _ (List.mem_append_right _ (List.mem_append_right _ (List.mem_append_right _ (List.mem_append_left _ h))))))
theorem gR_wsX1_init : GoodIn wsX11_init wsX1_init := fun w h => ⟨mR_wsX1_init w h, (t_wsX1_init w h).2⟩
theorem mR_wsX0_init : ∀ w ∈ wsX0_init, w ∈ wsX11_init := fun w h => List.mem_cons_of_mem _ (List.mem_append_right _ (List.mem_append_right _ (List.mem_append_right _ (List.mem_append_right _ (List.mem_append_right _ (List.mem_append_right _ (List.mem_append_left _ h)))))))
theorem gR_wsX0_init : GoodIn wsX11_init wsX0_init := fun w h => ⟨mR_wsX0_init w h, (t_wsX0_init w h).2⟩
theorem mR_wsX9_init : ∀ w ∈ wsX9_init, w ∈ wsX11_init := fun w h => List.mem_cons_of_mem _ (List.mem_append_right _ (List.mem_append_right _ (List.mem_append_right _ (List.mem_append_right _ (List.mem_append_right _ (List.mem_append_right _ (List.mem_append_right _ (List.mem_append_left _ h))))))))
theorem gR_wsX9_init : GoodIn wsX11_init wsX9_init := fun w h => ⟨mR_wsX9_init w h, (t_wsX9_init w h).2⟩
theorem mR_wsX2_init : ∀ w ∈ wsX2_init, w ∈ wsX11_init := fun w h => List.mem_cons_of_mem _ (List.mem_append_right _ (List.mem_append_right _ (List.mem_append_right _ (List.mem_append_right _ (List.mem_append_right _ (List.mem_append_right _ (List.mem_append_right _ (List.mem_append_right _ (List.mem_append_left _ h)))))))))
theorem gR_wsX2_init : GoodIn wsX11_init wsX2_init := fun w h => ⟨mR_wsX2_init w h, (t_wsX2_init w h).2⟩
theorem mR_wsX110 : ∀ w ∈ wsX110, w ∈ wsX11_init := fun w h => List.mem_cons_of_mem _ (List.mem_append_right _ (List.mem_append_right _ (List.mem_append_right _ (List.mem_append_right _ (List.mem_append_right _ (List.mem_append_right _ (List.mem_append_right _ (List.mem_append_right _ (List.mem_append_right _ (List.mem_append_left _ h))))))))))
theorem gR_wsX110 : GoodIn wsX11_init wsX110 := fun w h => ⟨mR_wsX110 w h, (t_wsX110 w h).2⟩
theorem mR_wsX80 : ∀ w ∈ wsX80, w ∈ wsX11_init := fun w h => List.mem_cons_of_mem _ (List.mem_append_right _ (List.mem_append_right _ (List.mem_append_right _ (List.mem_append_right _ (List.mem_append_right _ (List.mem_append_right _ (List.mem_append_right _ (List.mem_append_right _ (List.mem_append_right _ (List.mem_append_right _ (List.mem_append_left _ h)))))))))))
theorem gR_wsX80 : GoodIn wsX11_init wsX80 := fun w h => ⟨mR_wsX80 w h, (t_wsX80 w h).2⟩
theorem mR_wsX40 : ∀ w ∈ wsX40, w ∈ wsX11_init := fun w h => List.mem_cons_of_mem _ (List.mem_append_right _ (List.mem_append_right _ (List.mem_append_right _ (List.mem_append_right _ (List.mem_append_right _ (List.mem_append_right _ (List.mem_append_right _ (List.mem_append_right _ (List.mem_append_right _ (List.mem_append_right _ (List.mem_append_right _ (List.mem_append_left _ h))))))))))))
theorem gR_wsX40 : GoodIn wsX11_init wsX40 := fun w h => ⟨mR_wsX40 w h, (t_wsX40 w h).2⟩
theorem mR_wsX50 : ∀ w ∈ wsX50, w ∈ wsX11_init := fun w h => List.mem_cons_of_mem _ (List.mem_append_right _ (List.mem_append_right _ (List.mem_append_right _ (List.mem_append_right _ (List.mem_append_right _ (List.mem_append_right _ (List.mem_append_right _ (List.mem_append_right _ (List.mem_append_right _ (List.mem_append_right _ (List.mem_append_right _ (List.mem_append_right _ (List.mem_append_left _ h)))))))))))))
theorem gR_wsX50 : GoodIn wsX11_init wsX50 := fun w h => ⟨mR_wsX50 w h, (t_wsX50 w h).2⟩
theorem mR_wsX100 : ∀ w ∈ wsX100, w ∈ wsX11_init := fun w h => List.mem_cons_of_mem _ (List.mem_append_right _ (List.mem_append_right _ (List.mem_append_right _ (List.mem_append_right _ (List.mem_append_right _ (List.mem_append_right _ (List.mem_append_right _ (List.mem_append_right _ (List.mem_append_right _ (List.mem_append_right _ (List.mem_append_right _ (List.mem_append_right _ (List.mem_append_right _ (List.mem_append_left _ h))))))))))))))
theorem gR_wsX100 : GoodIn wsX11_init wsX100 := fun w h => ⟨mR_wsX100 w h, (t_wsX100 w h).2⟩
theorem mR_wsX10 : ∀ w ∈ wsX10, w ∈ wsX11_init := fun w h => List.mem_cons_of_mem _ (List.mem_append_right _ (List.mem_append_right _ (List.mem_append_right _ (List.mem_append_right _ (List.mem_append_right _ (List.mem_append_right _ (List.mem_append_right _ (List.mem_append_right _ (List.mem_append_right _ (List.mem_append_right _ (List.mem_append_right _ (List.mem_append_right _ (List.mem_append_right _ (List.mem_append_right _ (List.mem_append_left _ h)))))))))))))))
theorem gR_wsX10 : GoodIn wsX11_init wsX10 := fun w h => ⟨mR_wsX10 w h, (t_wsX10 w h).2⟩
theorem mR_wsX00 : ∀ w ∈ wsX00, w ∈ wsX11_init := fun w h => List.mem_cons_of_mem _ (List.mem_append_right _ (List.mem_append_right _ (List.mem_append_right _ (List.mem_append_right _ (List.mem_append_right _ (List.mem_append_right _ (List.mem_append_right _ (List.mem_append_right _ (List.mem_append_right _ (List.mem_append_right _ (List.mem_append_right _ (List.mem_append_right _ (List.mem_append_right _ (List.mem_append_right _ (List.mem_append_right _ (List.mem_append_left _ h))))))))))))))))
theorem gR_wsX00 : GoodIn wsX11_init wsX00 := fun w h => ⟨mR_wsX00 w h, (t_wsX00 w h).2⟩
theorem mR_wsX90 : ∀ w ∈ wsX90, w ∈ wsX11_init := fun w h => List.mem_cons_of_mem _ (List.mem_append_right _ (List.mem_append_right _ (List.mem_append_right _ (List.mem_append_right _ (List.mem_append_right _ (List.mem_append_right _ (List.mem_append_right _ (List.mem_append_right _ (List.mem_append_right _ (List.mem_append_right _ (List.mem_append_right _ (List.mem_append_right _ (List.mem_append_right _ (List.mem_append_right _ (List.mem_append_right _ (List.mem_append_right _ (List.mem_append_left _ h)))))))))))))))))
theorem gR_wsX90 : GoodIn wsX11_init wsX90 := fun w h => ⟨mR_wsX90 w h, (t_wsX90 w h).2⟩
theorem mR_wsX20 : ∀ w ∈ wsX20, w ∈ wsX11_init := fun w h => List.mem_cons_of_mem _ (List.mem_append_right _ (List.mem_append_right _ (List.mem_append_right _ (List.mem_append_right _ (List.mem_append_right _ (List.mem_append_right _ (List.mem_append_right _ (List.mem_append_right _ (List.mem_append_right _ (List.mem_append_right _ (List.mem_append_right _ (List.mem_append_right _ (List.mem_append_right _ (List.mem_append_right _ (List.mem_append_right _ (List.mem_append_right _ (List.mem_append_right _ (h))))))))))))))))))
theorem gR_wsX20 : GoodIn wsX11_init wsX20 := fun w h => ⟨mR_wsX20 w h, (t_wsX20 w h).2⟩
theorem gX11_init_X8_init_n9 : GoodIn wsX11_init wsX8_init := gR_wsX8_init
theorem gX11_init_X4_init_n18 : GoodIn wsX11_init wsX4_init := gR_wsX4_init
theorem gX11_init_X5_init_n25 : GoodIn wsX11_init wsX5_init := gR_wsX5_init
theorem gX11_init_X10_init_n32 : GoodIn wsX11_init wsX10_init := gR_wsX10_init
theorem gX11_init_X1_init_n39 : GoodIn wsX11_init wsX1_init := gR_wsX1_init
theorem gX11_init_X0_init_n46 : GoodIn wsX11_init wsX0_init := gR_wsX0_init
theorem gX11_init_X9_init : GoodIn wsX11_init wsX9_init := gR_wsX9_init
theorem gX11_init_X2_init : GoodIn wsX11_init wsX2_init := gR_wsX2_init
theorem gL_law_X11_init : GoodIn wsT wsX11_init := fun w h => ⟨List.mem_append_right _ (List.mem_append_left _ h), (t_X11_init w h).2⟩
theorem inlX0 : ∀ w ∈ wsX00, w ∈ wsT := fun w h => List.mem_append_right _ (List.mem_append_right _ (List.mem_append_left _ h))
theorem inlX1 : ∀ w ∈ wsX10, w ∈ wsT := fun w h => List.mem_append_right _ (List.mem_append_right _ (List.mem_append_right _ (List.mem_append_left _ h)))
theorem inlX2 : ∀ w ∈ wsX20, w ∈ wsT := fun w h => List.mem_append_right _ (List.mem_append_right _ (List.mem_append_right _ (List.mem_append_right _ (List.mem_append_left _ h))))
theorem inlX3 : ∀ w ∈ wsX30, w ∈ wsT := fun w h => List.mem_append_right _ (List.mem_append_right _ (List.mem_append_right _ (List.mem_append_right _ (List.mem_append_right _ (List.mem_append_left _ h)))))
theorem inlX4 : ∀ w ∈ wsX40, w ∈ wsT := fun w h => List.mem_append_right _ (List.mem_append_right _ (List.mem_append_right _ (List.mem_append_right _ (List.mem_append_right _ (List.mem_append_right _ (List.mem_append_left _ h))))))
theorem inlX5 : ∀ w ∈ wsX50, w ∈ wsT := fun w h => List.mem_append_right _ (List.mem_append_right _ (List.mem_append_right _ (List.mem_append_right _ (List.mem_append_right _ (List.mem_append_right _ (List.mem_append_right _ (List.mem_append_left _ h)))))))
theorem inlX6 : ∀ w ∈ wsX60, w ∈ wsT := fun w h => List.mem_append_right _ (List.mem_append_right _ (List.mem_append_right _ (List.mem_append_right _ (List.mem_append_right _ (List.mem_append_right _ (List.mem_append_right _ (List.mem_append_right _ (List.mem_append_left _ h))))))))
theorem inlX7 : ∀ w ∈ wsX70, w ∈ wsT := fun w h => List.mem_append_right _ (List.mem_append_right _ (List.mem_append_right _ (List.mem_append_right _ (List.mem_append_right _ (List.mem_append_right _ (List.mem_append_right _ (List.mem_append_right _ (List.mem_append_right _ (List.mem_append_left _ h)))))))))
theorem inlX8 : ∀ w ∈ wsX80, w ∈ wsT := fun w h => List.mem_append_right _ (List.mem_append_right _ (List.mem_append_right _ (List.mem_append_right _ (List.mem_append_right _ (List.mem_append_right _ (List.mem_append_right _ (List.mem_append_right _ (List.mem_append_right _ (List.mem_append_right _ (List.mem_append_left _ h))))))))))
theorem inlX9 : ∀ w ∈ wsX90, w ∈ wsT := fun w h => List.mem_append_right _ (List.mem_append_right _ (List.mem_append_right _ (List.mem_append_right _ (List.mem_append_right _ (List.mem_append_right _ (List.mem_append_right _ (List.mem_append_right _ (List.mem_append_right _ (List.mem_append_right _ (List.mem_append_right _ (List.mem_append_left _ h)))))))))))
theorem inlX10 : ∀ w ∈ wsX100, w ∈ wsT := fun w h => List.mem_append_right _ (List.mem_append_right _ (List.mem_append_right _ (List.mem_append_right _ (List.mem_append_right _ (List.mem_append_right _ (List.mem_append_right _ (List.mem_append_right _ (List.mem_append_right _ (List.mem_append_right _ (List.mem_append_right _ (List.mem_append_right _ (List.mem_append_left _ h))))))))))))
theorem inlX11 : ∀ w ∈ wsX110, w ∈ wsT := fun w h => List.mem_append_right _ (List.mem_append_right _ (List.mem_append_right _ (List.mem_append_right _ (List.mem_append_right _ (List.mem_append_right _ (List.mem_append_right _ (List.mem_append_right _ (List.mem_append_right _ (List.mem_append_right _ (List.mem_append_right _ (List.mem_append_right _ (List.mem_append_right _ (List.mem_append_left _ h)))))))))))))
theorem inlX12 : ∀ w ∈ wsX120, w ∈ wsT := fun w h => List.mem_append_right _ (List.mem_append_right _ (List.mem_append_right _ (List.mem_append_right _ (List.mem_append_right _ (List.mem_append_right _ (List.mem_append_right _ (List.mem_append_right _ (List.mem_append_right _ (List.mem_append_right _ (List.mem_append_right _ (List.mem_append_right _ (List.mem_append_right _ (List.mem_append_right _ (h))))))))))))))
end
section
/-! THE ROOM, 1: general rows. A run that is walked into a callee and left there; what it has used of the slots by then is still used at its end. -/
theorem rf_mem_sum : ∀ (l : List Nat) (x : Nat), x ∈ l → x ≤ l.sum
  | [], _, h => absurd h List.not_mem_nil
  | a :: l, x, h => by
    rw [List.sum_cons]
    rcases List.mem_cons.mp h with h | h
    · rw [h]; exact Nat.le_add_right _ _
    · exact Nat.le_trans (rf_mem_sum l x h) (Nat.le_add_left _ _)
theorem rf_sum {H : Heap} {n q N : Nat} {cell : Cell} (hn : n ≤ q) (hc : H[q]? = some cell) (hs : cell.slots.size = N) : N ≤ ((H.toList.drop n).map (·.slots.size)).sum := by
  have h1 : (H.toList.drop n)[q - n]? = some cell := by
    rw [List.getElem?_drop, show n + (q - n) = q by omega, Array.getElem?_toList]
    exact hc
  refine rf_mem_sum _ _ (List.mem_map.mpr ⟨cell, List.mem_of_getElem? h1, hs⟩)
/-- into a body: the first step of an invocation, and what is walked behind it -/
theorem rf_body {l : Launch} {y : MethodName} {S : Jvm.Spec} {cd : ByteArray} {nL : Nat} {rt : Option FieldType} {p : Program} {e : Env} {s : State} {m : MethodId} {args : Array Value} {below : List Frame} {G : State → Prop}
    (hx : plainName y.cls = true) (his : (Cond.code y cd nL rt).before args s = true) (ha : l.admits e) (hc : FairCas e.choices) (hk : FairClock e.choices)
    (hf : s.frames = .invoking m args :: below) (happ : S.appliesLoose y e.platform s = true)
    (body : ∀ meth c s₁, BodyLoose p l y S cd nL rt e s m args below meth c s₁ → c.maxLocals = nL → ∃ t, Steps p.tables e below (s₁.setTop (entryFrame m args nL)) t ∧ G t) :
    ∃ t, Steps p.tables e below (stepThread p.tables e s).1 t ∧ G t := by
  obtain ⟨hrun, hable, halone, hname, hhears, hinit, hroom, hpre⟩ := (Spec.appliesLoose_iff hf).mp happ
  obtain ⟨meth, c, hmeth, hcode, hbytes, hlocals, hret, hlocks, -⟩ := Cond.code_spec hname his
  have hcur := State.cur_lt_of_frames hf
  have hf1 : (s.setFrames (.java (entryFrame m args nL) :: below)).frames = .java (entryFrame m args nL) :: below :=
    State.frames_setFrames _ hcur
  have ht1 := State.topJava?_of_frames hf1
  have hplain : (s.setFrames (.java (entryFrame m args nL) :: below)).plainMethod m := by
    refine State.plainMethod.of_name ?_
    intro k hk
    obtain ⟨k', hk', hn⟩ := className_of_methodNamed hname
    cases (show s.vm.classes[m.cls]? = some k from hk).symm.trans hk'
    rw [hn]; exact hx
  have hAt : At (s.setFrames (.java (entryFrame m args nL) :: below)) m c below :=
    ⟨by rw [ht1]; rfl, ⟨[], by rw [hf1]; rfl⟩, hrun, by simpa using hable, by simpa using halone,
      by rw [State.code?_eq]; simp [State.setFrames, hmeth, hcode], hplain⟩
  obtain ⟨s₂, hs, hG⟩ := body meth c _
    ⟨ha, hc, hk, by cases p <;> rfl, hf, hname, hhears, hinit, hroom, hpre, hmeth, hret, hlocks, hbytes, rfl, hAt⟩ hlocals
  have hstep : (stepThread p.tables e s).1 = (s.setFrames (.java (entryFrame m args nL) :: below)).setTop (entryFrame m args nL) := by
    have hfull : e.platform.stackFull (s.setFrames below).me (s.setFrames below).frames c.maxLocals = false := by
      obtain ⟨-, h1, -, h2⟩ := State.hasRoom_stack hroom
      rw [hf, List.length_cons] at h1
      rw [State.localsInUse_invoking hf hmeth hcode] at h2
      have hw := stackUse_le_stackWeight below
      rw [State.frames_setFrames _ hcur]
      exact Platform.stackFull_eq_false (by rw [State.stackLimits_setFrames]; omega) (by rw [State.stackLimits_setFrames]; omega)
    rw [stepThread_invoking hf, (doInvoke_java (s := s.setFrames below) (e := e) (meth := meth) (code := c) hmeth hcode hlocks hfull).1, State.setTop_self ht1]
    simp only [State.pushFrame, State.frames_setFrames _ hcur, State.setFrames_setFrames, hlocals, entryFrame]
  exact ⟨s₂, hstep ▸ hs, hG⟩
theorem rf_weaken {tb : Tables} {e : Env} {mid below : List Frame} {s t : State} (h : Steps tb e (mid ++ below) s t) : Steps tb e below s t := by
  obtain ⟨n, hn, hw⟩ := h
  exact ⟨n, hn, fun k hk => (hw k hk).weaken⟩
/-- a constructor is called and walked in part: the walk goes on in its body, over the caller's frames -/
theorem rf_enter {p : Program} {l : Launch} {e : Env} {R : Room} {s : State} {m : MethodId} {args : Array Value} {below : List Frame} {meth : Method} {c : Code} {H : Heap} {locs : List Loc} {cells slots : Nat} {G : State → Prop}
    (hexec : p.tables.exec = Jvm.exec) {own : String} {index : Nat} {y : MethodName} {cd cc : ByteArray} {nL n : Nat} {ws ws' : List Cond} {rm : Room} {Ts : List Cond} (hb : c.code = cc)
    (hml : ∀ T : State, Stand p l e R s m args below meth c T locs cells slots → c.maxLocals = n)
    (hown : s.vm.findClass own = some m.cls) (hy1 : y.name = "<init>") (hlink : (Cond.methodLink own index y).before args s = true) (hinst : (Cond.instanceMethod y).before args s = true)
    (hini : (Cond.initialized y.cls).before args s = true)
    (hts : ∀ w ∈ Ts, w.before args s = true) (hG : GoodIn Ts ws) (hw : ws = Cond.code y cd nL none :: ws') (hx : plainName y.cls = true)
    (hy : y.cls ≠ "java/lang/invoke/MethodHandle" ∧ y.cls ≠ "java/lang/invoke/VarHandle")
    {a : Addr} {As rest : List Value} {pc : Nat} {ls : Array Slot} (hsize : ls.size = n)
    (hlen : (parseMethodDescriptor y.desc).map (fun d => d.parameters.length) = some As.length)
    (hW : (rest.map fun v => v.category).sum ≤ 8) (hd : decode cc pc = .ok (.invokespecial index, 3))
    (hR : rm.frames + 1 ≤ R.frames ∧ 8 + (nL + 11) + rm.locals ≤ R.locals) (hcells : cells + rm.cells ≤ R.cells) (hslots : slots + rm.slots ≤ R.slots)
    (kk : ∀ (s' : State) (mk : MethodId) (mid : List Frame) (methY : Method) (cY : Code) (s₁ : State), s'.heap = H → s.WarmedH s'.vm → s.slotsUsed ≤ s'.slotsUsed →
      BodyLoose p l y (headSpec ws rm) cd nL none e s' mk (Value.ref a :: As).toArray (mid ++ below) methY cY s₁ → cY.maxLocals = nL →
      ∃ t, Steps p.tables e (mid ++ below) (s₁.setTop (entryFrame mk (Value.ref a :: As).toArray nL)) t ∧ G t) :
    W p l e R s m args below meth c H locs cells slots G (F0 m pc ls (As.reverse ++ .ref a :: rest)) := by
  subst hb
  intro T hT X
  have hcode : (Cond.code y cd nL none).before args s = true := hts _ (hG _ (by rw [hw]; exact List.mem_cons_self)).1
  have hpl : e.platform.magicAccessors = ({} : Platform).magicAccessors := by rw [X.admits.platform]
  obtain ⟨mk, methM, cM, kP, vm₁, hnamed, hmethM, hcodeM, -, hlocalsM, -, hkP, -, hW₁, hstep₁⟩ := Steps.initColdArgs (e := e) X.here hexec X.warmed hpl hown hy1 hy hlink hinst hcode (f := F0 m pc ls (As.reverse ++ .ref a :: rest)) rfl
    (argsL := As) (a := a) (rest := rest) (fun sig h => by rw [h] at hlen; exact (Option.some.inj hlen).symm) rfl hd
  have X₁ := X.noted hW₁
  have hn := X₁.named hnamed
  have hpay := pay_in hts hG
  have hc2 : (Cond.code y cd nL none).before (Value.ref a :: As).toArray (T.setVm vm₁) = true := hpay _ (by rw [hw]; exact List.mem_cons_self) _ _ X₁.warmed
  obtain ⟨methY, cY, hmY, hcY, -, hlY, -, -, -, -⟩ := Cond.code_spec hn hc2
  obtain ⟨kY, hkY, -⟩ := className_of_methodNamed hn
  have hini2 : (Cond.initialized y.cls).before (Value.ref a :: As).toArray (T.setVm vm₁) = true := word_at X₁.warmed (Or.inl (by first | rfl | simp [Cond.onTables, Cond.keeps, Cond.steady])) hini
  have hinitY : kY.init = .initialized := Cond.initialized_spec (findClass_of_methodNamed hn) hkY hini2
  have hAt : At (T.setVm vm₁) (F0 m pc ls rest).method c below := X₁.here
  have hpre : (headSpec ws rm).pre.before (Value.ref a :: As).toArray (T.setVm vm₁) = true := atoms_intro fun w hw => hpay w hw _ _ X₁.warmed
  have happ : (headSpec ws rm).appliesLoose y e.platform ((T.setVm vm₁).calling (F0 m pc ls rest) mk (Value.ref a :: As).toArray) = true :=
    Spec.appliesLoose_calling (g := F0 m pc ls rest) hAt hd hn hkY hinitY
      (X₁.room_calling (g := F0 m pc ls rest) (R' := rm) (by rw [hml _ X]; exact hsize) hmY hcY hR.1 (by rw [hlY]; show 2 * 0 + (rest.map fun v => v.category).sum + (nL + 11) + rm.locals ≤ R.locals; have := hR.2; omega) hcells hslots) hpre
  obtain ⟨mid, hmid⟩ := hAt.above
  have hfr : ((T.setVm vm₁).setTop (F0 m pc ls rest)).frames = (.java (F0 m pc ls rest) :: mid) ++ below := by rw [State.frames_setTop' (F0 m pc ls rest) hAt.top, hmid]; rfl
  have hf' : ((T.setVm vm₁).calling (F0 m pc ls rest) mk (Value.ref a :: As).toArray).frames = .invoking mk (Value.ref a :: As).toArray :: ((.java (F0 m pc ls rest) :: mid) ++ below) := by
    rw [State.frames_calling hAt.top, hmid]; rfl
  obtain ⟨t, hst, hGt⟩ := rf_body (p := p) (G := G) hx (hpay _ (by rw [hw]; exact List.mem_cons_self) _ ((T.setVm vm₁).calling (F0 m pc ls rest) mk (Value.ref a :: As).toArray) X₁.warmed) X.admits X.cas X.clock hf' happ
    (fun mY c2 s₁ B hl => kk ((T.setVm vm₁).calling (F0 m pc ls rest) mk (Value.ref a :: As).toArray) mk (.java (F0 m pc ls rest) :: mid) mY c2 s₁ hT X₁.warmed (by
      show s.slotsUsed ≤ T.slotsUsed
      have h4 : T.slotsUsed = s.slotsUsed + _ := X.same.2.2.2.1
      rw [h4]; exact Nat.le_add_right _ _) B hl)
  refine ⟨t, hstep₁ t fun acts => ?_, hGt⟩
  have ht0 : ∃ t0, ((T.setVm vm₁).setTop (F0 m pc ls rest)).threads[((T.setVm vm₁).setTop (F0 m pc ls rest)).cur]? = some t0 := by
    obtain ⟨t0, h0, -⟩ := State.frames_cons hfr
    exact ⟨t0, h0⟩
  obtain ⟨t0, ht0⟩ := ht0
  have hstep : (stepThread p.tables e ((T.setVm vm₁).calling (F0 m pc ls rest) mk (Value.ref a :: As).toArray)).1 = (doInvoke e ((T.setVm vm₁).setTop (F0 m pc ls rest)) acts mk (Value.ref a :: As).toArray).1 := by
    rw [stepThread_invoking hf', doInvoke_state e _ acts, State.calling, State.pushFrame, State.setFrames_setFrames, ← hfr, State.setFrames_self ht0]
  rw [← hstep]
  exact rf_weaken hst
end
section
/-! THE ROOM, 2: the constructors up to the tally's rows. -/
def rf_nests : List Cond := [.methodLinkNest RX11 9 yX8_init RX11, .methodLinkNest RX11 18 yX4_init RX11, .methodLinkNest RX11 25 yX5_init RX11, .methodLinkNest RX11 32 yX10_init RX11, .methodLinkNest RX11 39 yX1_init RX11, .methodLinkNest RX11 46 yX0_init RX11, .methodLinkNest RX9 11 yX0_init RX11, .methodLinkNest RX2 11 yX1_init RX11, .methodLinkNest RX2 20 yX7_init RX11, .methodLinkNest RX7 27 yX0_init RX11, .methodLinkNest RX11 78 yX3_init RX11, .methodLinkNest RX3 9 yX0_init RX11, .methodLinkNest RX3 18 yX1_init RX11]
theorem rf_nests_tbl : ∀ w ∈ rf_nests, w ∈ tables_1 := by
  intro w hw
  simp only [rf_nests, List.mem_cons, List.not_mem_nil, or_false] at hw
  rcases hw with rfl | rfl | rfl | rfl | rfl | rfl | rfl | rfl | rfl | rfl | rfl | rfl | rfl
  · exact List.mem_of_getElem? (i := 30) (by decide +kernel)
  · exact List.mem_of_getElem? (i := 54) (by decide +kernel)
  · exact List.mem_of_getElem? (i := 104) (by decide +kernel)
  · exact List.mem_of_getElem? (i := 116) (by decide +kernel)
  · exact List.mem_of_getElem? (i := 152) (by decide +kernel)
  · exact List.mem_of_getElem? (i := 182) (by decide +kernel)
  · exact List.mem_of_getElem? (i := 223) (by decide +kernel)
  · exact List.mem_of_getElem? (i := 246) (by decide +kernel)
  · exact List.mem_of_getElem? (i := 249) (by decide +kernel)
  · exact List.mem_of_getElem? (i := 256) (by decide +kernel)
  · exact List.mem_of_getElem? (i := 302) (by decide +kernel)
  · exact List.mem_of_getElem? (i := 307) (by decide +kernel)
  · exact List.mem_of_getElem? (i := 309) (by decide +kernel)
def rf_nz (U : State) : Prop := ∀ w ∈ rf_nests, va_Nw w U
theorem rf_nz_same {u U : State} (h : u.vm = U.vm) (hN : rf_nz u) : rf_nz U := by
  intro w hw
  have h1 := hN w hw
  simp only [rf_nests, List.mem_cons, List.not_mem_nil, or_false] at hw
  rcases hw with rfl | rfl | rfl | rfl | rfl | rfl | rfl | rfl | rfl | rfl | rfl | rfl | rfl <;> exact va_Nw.same rfl h h1
theorem rf_nz_warm {s U : State} (hW : s.WarmedH U.vm) (hN : rf_nz s) : rf_nz U := by
  intro w hw
  have h1 := hN w hw
  simp only [rf_nests, List.mem_cons, List.not_mem_nil, or_false] at hw
  rcases hw with rfl | rfl | rfl | rfl | rfl | rfl | rfl | rfl | rfl | rfl | rfl | rfl | rfl <;> exact va_Nw.warmM hW h1
theorem rf_blind {D : va_G} {av : List Value} {sz : Nat} {ws : va_W} : FrameBlind (va_Pc av (fun U => U.heap.size = sz ∧ va_P D vwCl ws U.heap ∧ va_K D vwCl [] U ∧ va_D (fun _ => True) ws ∧ rf_nz U)) :=
  fun a U g mk q => by obtain ⟨q0, q1, qP, qK, qD, qN⟩ := q; exact ⟨q0, q1, qP, va_K.moved (u := U) (U := U.calling g mk a) (Vm.Alike.refl U.vm) qK, qD, rf_nz_same (u := U) (U := U.calling g mk a) rfl qN⟩
set_option maxHeartbeats 4000000 in
set_option maxRecDepth 100000 in
/-- Row(n), n above 0: an array of n is new -/
theorem rf_X6_init (l : Launch) (dC : Nat → ClassId) (dI : Nat → Nat → Nat) (h0 sz n : Nat) (hn0 : 1 ≤ n) (hn1 : n ≤ 100000) : Met l yX6_init wsX6_init ({ frames := 1, cells := 1, slots := n, locals := 12 }) (va_Pc [.ref h0, .int (nI n)] (fun U => U.heap.size = sz ∧ va_P (dC, dI) vwCl [(h0, .inr (6, [.null]))] U.heap ∧ va_K (dC, dI) vwCl [] U ∧ va_D (fun _ => True) [(h0, .inr (6, [.null]))] ∧ rf_nz U)) (va_Qv (fun _ : Nat × ClassId => True) (fun u t => va_P (dC, dI) vwCl [(u.1, .inl (u.2, (n, .inl (fun _ => 0))))] t.heap ∧ va_K (dC, dI) vwCl [] t ∧ va_D (va_A [(h0, .inr (6, [.null]))] sz) [(u.1, .inl (u.2, (n, .inl (fun _ => 0))))]) (va_A [(h0, .inr (6, [.null]))] sz)) 1 n (va_A [(h0, .inr (6, [.null]))] sz) := by
  refine Met.ofW (cc := cX6_init) (maxL := 2) (ret := none) (by decide) rfl ?_
  intro p e s m args below meth c s₁ B hml hv
  obtain ⟨rfl, hsz, hP, hK, hD0, hN⟩ := hv
  have hx := B.exec
  have hb := B.bytes
  have hr := B.returns
  have hts := atoms_spec (ws := wsX6_init) B.pre
  have hown : s.vm.findClass RX6 = some m.cls := findClass_of_methodNamed B.named
  have hlocks := B.notSynchronized
  have hin : meth.name = "<init>" := (name_of_methodNamed B.named B.method).1
  subst hsz
  have hD := hD0.self (sz := s.heap.size)
  generalize hAe : va_A [(h0, .inr (6, [.null]))] s.heap.size = A at hD ⊢
  have hA : ∀ q : Nat, s.heap.size ≤ q → A q := fun q h => by rw [← hAe]; exact Or.inr h
  have hS : va_S A s.heap s.heap [] := va_S.rf
  have hP : va_P (dC, dI) vwCl [(h0, .inr (6, [.null]))] s.heap := hP
  have hl := lv_entry ([.ref h0, .int (nI n)]) (n := 2) (Nat.le_of_ble_eq_true rfl)
  rw [lg_entry_eq]
  generalize (lg_sl ([.ref h0, .int (nI n)]) ++ List.replicate (2 - (lg_sl ([.ref h0, .int (nI n)])).length) Slot.unset).toArray = ls at hl ⊢
  have hl : lv_has ls 2 [(0, .ref h0), (1, .int (nI n))] := hl
  refine lv_aload_n hx hb dX6_init_0 rfl (lv_at hl 0 rfl) ?_
  refine W.objInit hx hb hown (hts (.methodLink RX6 1 objectInit) (by decide +kernel)) (hts (.instanceMethod objectInit) (by decide +kernel)) (hts (.code objectInit ⟨#[0xb1]⟩ 1 none) (List.mem_of_getElem? (i := 3) rfl)) rfl (by rw [hml]; exact hl.1) rfl dX6_init_1 (Nat.le_of_ble_eq_true rfl) (Nat.le_of_ble_eq_true rfl) ?_
  refine W.eq (g2 := F0 m 4 ls []) rfl ?_
  refine lv_aload_n hx hb dX6_init_4 rfl (lv_at hl 0 rfl) ?_
  refine lv_iload_n hx hb dX6_init_5 rfl (lv_at hl 1 rfl) ?_
  refine lv_if_le (tgt := 13) hx hb dX6_init_6 (by decide) (fun hle => absurd hle (nI_nle hn0 (by omega))) (fun _ => ?_)
  refine lv_iload_n hx hb dX6_init_9 rfl (lv_at hl 1 rfl) ?_
  refine lv_goto (tgt := 14) hx hb dX6_init_10 (by decide) ?_
  refine va_newa (atype := .int) (ty := .int) (a0 := (n, .inl (fun _ => 0))) (N' := n) hx hb (hts (.arrayClass .int) (by decide +kernel)) rfl hK hP hD hS hA (fun cA => rfl) (nI_pos (by omega)) (nI_clamp (by omega)) (by show n * 4 ≤ _; omega) (Nat.le_of_ble_eq_true rfl) (by show 0 + n ≤ n; omega) dX6_init_14 (fun q cA H hK hP hD hS => ?_)
  refine W.widen (k := 1) (n := n) (Nat.le_of_ble_eq_true rfl) (by omega) ?_
  have hP : va_P (dC, dI) vwCl [(h0, .inr (6, [.null])), (q, .inl (cA, (n, .inl (fun _ => 0))))] H := hP
  have hD : va_D A [(h0, .inr (6, [.null])), (q, .inl (cA, (n, .inl (fun _ => 0))))] := hD
  refine va_putF (D := (dC, dI)) (ci := 6) (v := .ref q) (ty := .array .int) (C := RX6) (T := TX6) (N := 1) hx hb hts (by decide +kernel) tyX6 tyX6_ok nmX6 hown hK hP hD hS 0 rfl rfl 0 (by decide) (hts (.fieldLink RX6 7 "EachSeesOne$Row" "numbers" "[I") (by decide +kernel)) (fun _ h9 => h9) rfl hin rfl (by decide +kernel) rfl rfl (Nat.le_of_ble_eq_true rfl) dX6_init_16 (fun H locs hP hD hS => ?_)
  have hP9 := hP.sub (ws' := [(q, .inl (cA, (n, .inl (fun _ => 0))))]) [1] rfl
  have hD9 := hD.sub (ws' := [(q, .inl (cA, (n, .inl (fun _ => 0))))]) [1] (by decide) rfl
  have hK9 := hK.sub (tys' := []) [] rfl
  exact W.vret hx hb hr (fun t ht hW => ⟨⟨(q, cA), rfl, trivial, by rw [ht]; exact hP9, va_K.moved hW.alike hK9, hD9⟩, hS.F ht⟩) hS.2.2 dX6_init_19
set_option maxHeartbeats 4000000 in
set_option maxRecDepth 100000 in
theorem rf_X8_init (l : Launch) (dC : Nat → ClassId) (dI : Nat → Nat → Nat) (h0 sz : Nat) : Met l yX8_init wsX8_init ({ frames := 2, cells := 2, slots := 401, locals := 33 }) (va_Pc [.ref h0] (fun U => U.heap.size = sz ∧ va_P (dC, dI) vwCl [(h0, .inr (8, [.null, .int 0]))] U.heap ∧ va_K (dC, dI) vwCl [] U ∧ va_D (fun _ => True) [(h0, .inr (8, [.null, .int 0]))] ∧ rf_nz U)) (va_Qv (fun _ : Unit => True) (fun u t => va_P (dC, dI) vwCl [] t.heap ∧ va_K (dC, dI) vwCl [] t ∧ va_D (va_A [(h0, .inr (8, [.null, .int 0]))] sz) []) (va_A [(h0, .inr (8, [.null, .int 0]))] sz)) 2 401 (va_A [(h0, .inr (8, [.null, .int 0]))] sz) := by
  refine Met.ofW (cc := cX8_init) (maxL := 1) (ret := none) (by decide) rfl ?_
  intro p e s m args below meth c s₁ B hml hv
  obtain ⟨rfl, hsz, hP, hK, hD0, hN⟩ := hv
  have hx := B.exec
  have hb := B.bytes
  have hr := B.returns
  have hts := atoms_spec (ws := wsX8_init) B.pre
  have hown : s.vm.findClass RX8 = some m.cls := findClass_of_methodNamed B.named
  have hlocks := B.notSynchronized
  have hin : meth.name = "<init>" := (name_of_methodNamed B.named B.method).1
  subst hsz
  have hD := hD0.self (sz := s.heap.size)
  generalize hAe : va_A [(h0, .inr (8, [.null, .int 0]))] s.heap.size = A at hD ⊢
  have hA : ∀ q : Nat, s.heap.size ≤ q → A q := fun q h => by rw [← hAe]; exact Or.inr h
  have hS : va_S A s.heap s.heap [] := va_S.rf
  have hP : va_P (dC, dI) vwCl [(h0, .inr (8, [.null, .int 0]))] s.heap := hP
  have hl := lv_entry ([.ref h0]) (n := 1) (Nat.le_of_ble_eq_true rfl)
  rw [lg_entry_eq]
  generalize (lg_sl ([.ref h0]) ++ List.replicate (1 - (lg_sl ([.ref h0])).length) Slot.unset).toArray = ls at hl ⊢
  have hl : lv_has ls 1 [(0, .ref h0)] := hl
  refine lv_aload_n hx hb dX8_init_0 rfl (lv_at hl 0 rfl) ?_
  refine W.objInit hx hb hown (hts (.methodLink RX8 3 objectInit) (by decide +kernel)) (hts (.instanceMethod objectInit) (by decide +kernel)) (hts (.code objectInit ⟨#[0xb1]⟩ 1 none) (List.mem_of_getElem? (i := 3) rfl)) rfl (by rw [hml]; exact hl.1) rfl dX8_init_1 (Nat.le_of_ble_eq_true rfl) (Nat.le_of_ble_eq_true rfl) ?_
  refine W.eq (g2 := F0 m 4 ls []) rfl ?_
  refine lv_aload_n hx hb dX8_init_4 rfl (lv_at hl 0 rfl) ?_
  refine va_new (ci := 6) (fs := [.null]) (C := RX6) (T := TX6) (N := 1) hx hb hts (by decide +kernel) tyX6 tyX6_ok hown (hts (.classLink RX8 9 RX6) (by decide +kernel)) (hts (.instantiable RX6 1) (by decide +kernel)) (hts (.initialized RX6) (by decide +kernel)) hK hP hD hS hA rfl (fun j hj => by rcases (show j = 0 by omega) with rfl <;> rfl) (Nat.le_of_ble_eq_true rfl) (Nat.le_of_ble_eq_true rfl) dX8_init_5 (fun q5 H hP hD hS => ?_)
  refine W.widen (k := 1) (n := 1) (Nat.le_of_ble_eq_true rfl) (Nat.le_of_ble_eq_true rfl) ?_
  have hP : va_P (dC, dI) vwCl [(h0, .inr (8, [.null, .int 0])), (q5, .inr (6, [.null]))] H := hP
  have hD : va_D A [(h0, .inr (8, [.null, .int 0])), (q5, .inr (6, [.null]))] := hD
  refine lv_dup hx hb dX8_init_8 rfl ?_
  refine lv_sipush (v := nI 400) hx hb dX8_init_9 (by decide) ?_
  have hPc := hP.sub (ws' := [(q5, .inr (6, [.null]))]) [1] rfl
  have hDc := hD.sub (ws' := [(q5, .inr (6, [.null]))]) [1] (by decide) rfl
  have hKc := hK.sub (tys' := []) [] rfl
  have hFc := va_free (wc := [(q5, .inr (6, [.null]))]) hD hS hA [1] rfl
  refine va_callv (va_runI (As := [.int (nI 400)]) (rest := [.ref q5, .ref h0]) ⟨hx, hb, hml, hown, hts⟩ (rf_X6_init l dC dI q5 H.size 400 (Nat.le_of_ble_eq_true rfl) (Nat.le_of_ble_eq_true rfl)) (cwI 1 hts gX8_init_X6_init rfl rfl rfl (hts (.initialized RX6) (by decide +kernel)) (hts (.methodLink RX8 11 yX6_init) (by decide +kernel)) (hts (.instanceMethod yX6_init) (by decide +kernel)) rfl (by decide +kernel) ⟨Nat.le_of_ble_eq_true rfl, Nat.le_of_ble_eq_true rfl⟩) ⟨rf_blind, fun U hU hW => ⟨rfl, by rw [hU], by rw [hU]; exact hPc, va_K.moved hW.alike hKc, hDc.weaken (fun _ _ _ _ => trivial), rf_nz_warm hW hN⟩⟩ rfl rfl hl.1 rfl (lv_room (Nat.le_of_ble_eq_true rfl)) dX8_init_12 ⟨Nat.le_of_ble_eq_true rfl, Nat.le_of_ble_eq_true rfl⟩) hS (fun q _ h => hFc q h) hFc (fun u t H1 locs ht hvm hw hB hz1 hk1 hS => ?_)
  refine W.widen (k := 2) (n := 401) (Nat.le_of_ble_eq_true rfl) (Nat.le_of_ble_eq_true rfl) ?_
  obtain ⟨hP1, hK1, hD1⟩ := hB
  rw [ht] at hP1
  have hK1 := va_K.moved hvm.symm hK1
  have hP1 := hP1.sub (ws' := []) [] rfl
  have hD1 := hD1.sub (ws' := []) [] (by decide) rfl
  obtain ⟨hP, hD⟩ := va_join (wr := [(h0, .inr (8, [.null, .int 0]))]) (w1 := []) hP hD [1] [0] rfl rfl (by decide) (by decide) hk1 hFc hP1 hD1
  generalize H1 = H at hP hS ⊢
  have hP : va_P (dC, dI) vwCl [(h0, .inr (8, [.null, .int 0]))] H := hP
  have hD : va_D A [(h0, .inr (8, [.null, .int 0]))] := hD
  refine va_putF (D := (dC, dI)) (ci := 8) (v := .ref q5) (ty := .object "EachSeesOne$Row") (C := RX8) (T := TX8) (N := 2) hx hb hts (by decide +kernel) tyX8 tyX8_ok nmX8 hown hK hP hD hS 0 rfl rfl 0 (by decide) (hts (.fieldLink RX8 14 "EachSeesOne$Text" "bytes" "LEachSeesOne$Row;") (by decide +kernel)) (fun _ h9 => h9) rfl hin rfl (by decide +kernel) rfl rfl (Nat.le_of_ble_eq_true rfl) dX8_init_15 (fun H locs hP hD hS => ?_)
  have hP : va_P (dC, dI) vwCl [(h0, .inr (8, [.ref q5, .int 0]))] H := hP
  have hD : va_D A [(h0, .inr (8, [.ref q5, .int 0]))] := hD
  have hP9 := hP.sub (ws' := []) [] rfl
  have hD9 := hD.sub (ws' := []) [] (by decide) rfl
  have hK9 := hK.sub (tys' := []) [] rfl
  exact W.vret hx hb hr (fun t ht hW => ⟨⟨(), rfl, trivial, by rw [ht]; exact hP9, va_K.moved hW.alike hK9, hD9⟩, hS.F ht⟩) hS.2.2 dX8_init_18
set_option maxHeartbeats 4000000 in
set_option maxRecDepth 100000 in
theorem rf_X4_init (l : Launch) (dC : Nat → ClassId) (dI : Nat → Nat → Nat) (h0 sz : Nat) : Met l yX4_init wsX4_init ({ frames := 2, cells := 6, slots := 135, locals := 33 }) (va_Pc [.ref h0] (fun U => U.heap.size = sz ∧ va_P (dC, dI) vwCl [(h0, .inr (4, [.null, .null, .null, .int 0, .int 0, .int 0, .int 0, .int 0, .int 0, .int 0, .int 0]))] U.heap ∧ va_K (dC, dI) vwCl [] U ∧ va_D (fun _ => True) [(h0, .inr (4, [.null, .null, .null, .int 0, .int 0, .int 0, .int 0, .int 0, .int 0, .int 0, .int 0]))] ∧ rf_nz U)) (va_Qv (fun _ : Unit => True) (fun u t => va_P (dC, dI) vwCl [] t.heap ∧ va_K (dC, dI) vwCl [] t ∧ va_D (va_A [(h0, .inr (4, [.null, .null, .null, .int 0, .int 0, .int 0, .int 0, .int 0, .int 0, .int 0, .int 0]))] sz) []) (va_A [(h0, .inr (4, [.null, .null, .null, .int 0, .int 0, .int 0, .int 0, .int 0, .int 0, .int 0, .int 0]))] sz)) 6 135 (va_A [(h0, .inr (4, [.null, .null, .null, .int 0, .int 0, .int 0, .int 0, .int 0, .int 0, .int 0, .int 0]))] sz) := by
  refine Met.ofW (cc := cX4_init) (maxL := 1) (ret := none) (by decide) rfl ?_
  intro p e s m args below meth c s₁ B hml hv
  obtain ⟨rfl, hsz, hP, hK, hD0, hN⟩ := hv
  have hx := B.exec
  have hb := B.bytes
  have hr := B.returns
  have hts := atoms_spec (ws := wsX4_init) B.pre
  have hown : s.vm.findClass RX4 = some m.cls := findClass_of_methodNamed B.named
  have hlocks := B.notSynchronized
  have hin : meth.name = "<init>" := (name_of_methodNamed B.named B.method).1
  subst hsz
  have hD := hD0.self (sz := s.heap.size)
  generalize hAe : va_A [(h0, .inr (4, [.null, .null, .null, .int 0, .int 0, .int 0, .int 0, .int 0, .int 0, .int 0, .int 0]))] s.heap.size = A at hD ⊢
  have hA : ∀ q : Nat, s.heap.size ≤ q → A q := fun q h => by rw [← hAe]; exact Or.inr h
  have hS : va_S A s.heap s.heap [] := va_S.rf
  have hP : va_P (dC, dI) vwCl [(h0, .inr (4, [.null, .null, .null, .int 0, .int 0, .int 0, .int 0, .int 0, .int 0, .int 0, .int 0]))] s.heap := hP
  have hl := lv_entry ([.ref h0]) (n := 1) (Nat.le_of_ble_eq_true rfl)
  rw [lg_entry_eq]
  generalize (lg_sl ([.ref h0]) ++ List.replicate (1 - (lg_sl ([.ref h0])).length) Slot.unset).toArray = ls at hl ⊢
  have hl : lv_has ls 1 [(0, .ref h0)] := hl
  refine lv_aload_n hx hb dX4_init_0 rfl (lv_at hl 0 rfl) ?_
  refine W.objInit hx hb hown (hts (.methodLink RX4 3 objectInit) (by decide +kernel)) (hts (.instanceMethod objectInit) (by decide +kernel)) (hts (.code objectInit ⟨#[0xb1]⟩ 1 none) (List.mem_of_getElem? (i := 3) rfl)) rfl (by rw [hml]; exact hl.1) rfl dX4_init_1 (Nat.le_of_ble_eq_true rfl) (Nat.le_of_ble_eq_true rfl) ?_
  refine W.eq (g2 := F0 m 4 ls []) rfl ?_
  refine lv_aload_n hx hb dX4_init_4 rfl (lv_at hl 0 rfl) ?_
  refine va_new (ci := 6) (fs := [.null]) (C := RX6) (T := TX6) (N := 1) hx hb hts (by decide +kernel) tyX6 tyX6_ok hown (hts (.classLink RX4 9 RX6) (by decide +kernel)) (hts (.instantiable RX6 1) (by decide +kernel)) (hts (.initialized RX6) (by decide +kernel)) hK hP hD hS hA rfl (fun j hj => by rcases (show j = 0 by omega) with rfl <;> rfl) (Nat.le_of_ble_eq_true rfl) (Nat.le_of_ble_eq_true rfl) dX4_init_5 (fun q5 H hP hD hS => ?_)
  refine W.widen (k := 1) (n := 1) (Nat.le_of_ble_eq_true rfl) (Nat.le_of_ble_eq_true rfl) ?_
  have hP : va_P (dC, dI) vwCl [(h0, .inr (4, [.null, .null, .null, .int 0, .int 0, .int 0, .int 0, .int 0, .int 0, .int 0, .int 0])), (q5, .inr (6, [.null]))] H := hP
  have hD : va_D A [(h0, .inr (4, [.null, .null, .null, .int 0, .int 0, .int 0, .int 0, .int 0, .int 0, .int 0, .int 0])), (q5, .inr (6, [.null]))] := hD
  refine lv_dup hx hb dX4_init_8 rfl ?_
  refine lv_bipush (v := nI 64) hx hb dX4_init_9 (by decide) ?_
  have hPc := hP.sub (ws' := [(q5, .inr (6, [.null]))]) [1] rfl
  have hDc := hD.sub (ws' := [(q5, .inr (6, [.null]))]) [1] (by decide) rfl
  have hKc := hK.sub (tys' := []) [] rfl
  have hFc := va_free (wc := [(q5, .inr (6, [.null]))]) hD hS hA [1] rfl
  refine va_callv (va_runI (As := [.int (nI 64)]) (rest := [.ref q5, .ref h0]) ⟨hx, hb, hml, hown, hts⟩ (rf_X6_init l dC dI q5 H.size 64 (Nat.le_of_ble_eq_true rfl) (Nat.le_of_ble_eq_true rfl)) (cwI 1 hts gX4_init_X6_init rfl rfl rfl (hts (.initialized RX6) (by decide +kernel)) (hts (.methodLink RX4 13 yX6_init) (by decide +kernel)) (hts (.instanceMethod yX6_init) (by decide +kernel)) rfl (by decide +kernel) ⟨Nat.le_of_ble_eq_true rfl, Nat.le_of_ble_eq_true rfl⟩) ⟨rf_blind, fun U hU hW => ⟨rfl, by rw [hU], by rw [hU]; exact hPc, va_K.moved hW.alike hKc, hDc.weaken (fun _ _ _ _ => trivial), rf_nz_warm hW hN⟩⟩ rfl rfl hl.1 rfl (lv_room (Nat.le_of_ble_eq_true rfl)) dX4_init_11 ⟨Nat.le_of_ble_eq_true rfl, Nat.le_of_ble_eq_true rfl⟩) hS (fun q _ h => hFc q h) hFc (fun u t H1 locs ht hvm hw hB hz1 hk1 hS => ?_)
  refine W.widen (k := 2) (n := 65) (Nat.le_of_ble_eq_true rfl) (Nat.le_of_ble_eq_true rfl) ?_
  obtain ⟨hP1, hK1, hD1⟩ := hB
  rw [ht] at hP1
  have hK1 := va_K.moved hvm.symm hK1
  have hP1 := hP1.sub (ws' := []) [] rfl
  have hD1 := hD1.sub (ws' := []) [] (by decide) rfl
  obtain ⟨hP, hD⟩ := va_join (wr := [(h0, .inr (4, [.null, .null, .null, .int 0, .int 0, .int 0, .int 0, .int 0, .int 0, .int 0, .int 0]))]) (w1 := []) hP hD [1] [0] rfl rfl (by decide) (by decide) hk1 hFc hP1 hD1
  generalize H1 = H at hP hS ⊢
  have hP : va_P (dC, dI) vwCl [(h0, .inr (4, [.null, .null, .null, .int 0, .int 0, .int 0, .int 0, .int 0, .int 0, .int 0, .int 0]))] H := hP
  have hD : va_D A [(h0, .inr (4, [.null, .null, .null, .int 0, .int 0, .int 0, .int 0, .int 0, .int 0, .int 0, .int 0]))] := hD
  refine va_putF (D := (dC, dI)) (ci := 4) (v := .ref q5) (ty := .object "EachSeesOne$Row") (C := RX4) (T := TX4) (N := 11) hx hb hts (by decide +kernel) tyX4 tyX4_ok nmX4 hown hK hP hD hS 0 rfl rfl 0 (by decide) (hts (.fieldLink RX4 16 "EachSeesOne$Plan" "rocks" "LEachSeesOne$Row;") (by decide +kernel)) (fun _ h9 => h9) rfl hin rfl (by decide +kernel) rfl rfl (Nat.le_of_ble_eq_true rfl) dX4_init_14 (fun H locs hP hD hS => ?_)
  have hP : va_P (dC, dI) vwCl [(h0, .inr (4, [.ref q5, .null, .null, .int 0, .int 0, .int 0, .int 0, .int 0, .int 0, .int 0, .int 0]))] H := hP
  have hD : va_D A [(h0, .inr (4, [.ref q5, .null, .null, .int 0, .int 0, .int 0, .int 0, .int 0, .int 0, .int 0, .int 0]))] := hD
  refine lv_aload_n hx hb dX4_init_17 rfl (lv_at hl 0 rfl) ?_
  refine va_new (ci := 6) (fs := [.null]) (C := RX6) (T := TX6) (N := 1) hx hb hts (by decide +kernel) tyX6 tyX6_ok hown (hts (.classLink RX4 9 RX6) (by decide +kernel)) (hts (.instantiable RX6 1) (by decide +kernel)) (hts (.initialized RX6) (by decide +kernel)) hK hP hD hS hA rfl (fun j hj => by rcases (show j = 0 by omega) with rfl <;> rfl) (Nat.le_of_ble_eq_true rfl) (Nat.le_of_ble_eq_true rfl) dX4_init_18 (fun q18 H hP hD hS => ?_)
  refine W.widen (k := 3) (n := 66) (Nat.le_of_ble_eq_true rfl) (Nat.le_of_ble_eq_true rfl) ?_
  have hP : va_P (dC, dI) vwCl [(h0, .inr (4, [.ref q5, .null, .null, .int 0, .int 0, .int 0, .int 0, .int 0, .int 0, .int 0, .int 0])), (q18, .inr (6, [.null]))] H := hP
  have hD : va_D A [(h0, .inr (4, [.ref q5, .null, .null, .int 0, .int 0, .int 0, .int 0, .int 0, .int 0, .int 0, .int 0])), (q18, .inr (6, [.null]))] := hD
  refine lv_dup hx hb dX4_init_21 rfl ?_
  refine lv_bipush (v := nI 64) hx hb dX4_init_22 (by decide) ?_
  have hPc := hP.sub (ws' := [(q18, .inr (6, [.null]))]) [1] rfl
  have hDc := hD.sub (ws' := [(q18, .inr (6, [.null]))]) [1] (by decide) rfl
  have hKc := hK.sub (tys' := []) [] rfl
  have hFc := va_free (wc := [(q18, .inr (6, [.null]))]) hD hS hA [1] rfl
  refine va_callv (va_runI (As := [.int (nI 64)]) (rest := [.ref q18, .ref h0]) ⟨hx, hb, hml, hown, hts⟩ (rf_X6_init l dC dI q18 H.size 64 (Nat.le_of_ble_eq_true rfl) (Nat.le_of_ble_eq_true rfl)) (cwI 1 hts gX4_init_X6_init rfl rfl rfl (hts (.initialized RX6) (by decide +kernel)) (hts (.methodLink RX4 13 yX6_init) (by decide +kernel)) (hts (.instanceMethod yX6_init) (by decide +kernel)) rfl (by decide +kernel) ⟨Nat.le_of_ble_eq_true rfl, Nat.le_of_ble_eq_true rfl⟩) ⟨rf_blind, fun U hU hW => ⟨rfl, by rw [hU], by rw [hU]; exact hPc, va_K.moved hW.alike hKc, hDc.weaken (fun _ _ _ _ => trivial), rf_nz_warm hW hN⟩⟩ rfl rfl hl.1 rfl (lv_room (Nat.le_of_ble_eq_true rfl)) dX4_init_24 ⟨Nat.le_of_ble_eq_true rfl, Nat.le_of_ble_eq_true rfl⟩) hS (fun q _ h => hFc q h) hFc (fun u t H1 locs ht hvm hw hB hz1 hk1 hS => ?_)
  refine W.widen (k := 4) (n := 130) (Nat.le_of_ble_eq_true rfl) (Nat.le_of_ble_eq_true rfl) ?_
  obtain ⟨hP1, hK1, hD1⟩ := hB
  rw [ht] at hP1
  have hK1 := va_K.moved hvm.symm hK1
  have hP1 := hP1.sub (ws' := []) [] rfl
  have hD1 := hD1.sub (ws' := []) [] (by decide) rfl
  obtain ⟨hP, hD⟩ := va_join (wr := [(h0, .inr (4, [.ref q5, .null, .null, .int 0, .int 0, .int 0, .int 0, .int 0, .int 0, .int 0, .int 0]))]) (w1 := []) hP hD [1] [0] rfl rfl (by decide) (by decide) hk1 hFc hP1 hD1
  generalize H1 = H at hP hS ⊢
  have hP : va_P (dC, dI) vwCl [(h0, .inr (4, [.ref q5, .null, .null, .int 0, .int 0, .int 0, .int 0, .int 0, .int 0, .int 0, .int 0]))] H := hP
  have hD : va_D A [(h0, .inr (4, [.ref q5, .null, .null, .int 0, .int 0, .int 0, .int 0, .int 0, .int 0, .int 0, .int 0]))] := hD
  refine va_putF (D := (dC, dI)) (ci := 4) (v := .ref q18) (ty := .object "EachSeesOne$Row") (C := RX4) (T := TX4) (N := 11) hx hb hts (by decide +kernel) tyX4 tyX4_ok nmX4 hown hK hP hD hS 0 rfl rfl 1 (by decide) (hts (.fieldLink RX4 20 "EachSeesOne$Plan" "homeCells" "LEachSeesOne$Row;") (by decide +kernel)) (fun _ h9 => h9) rfl hin rfl (by decide +kernel) rfl rfl (Nat.le_of_ble_eq_true rfl) dX4_init_27 (fun H locs hP hD hS => ?_)
  have hP : va_P (dC, dI) vwCl [(h0, .inr (4, [.ref q5, .ref q18, .null, .int 0, .int 0, .int 0, .int 0, .int 0, .int 0, .int 0, .int 0]))] H := hP
  have hD : va_D A [(h0, .inr (4, [.ref q5, .ref q18, .null, .int 0, .int 0, .int 0, .int 0, .int 0, .int 0, .int 0, .int 0]))] := hD
  refine lv_aload_n hx hb dX4_init_30 rfl (lv_at hl 0 rfl) ?_
  refine va_new (ci := 6) (fs := [.null]) (C := RX6) (T := TX6) (N := 1) hx hb hts (by decide +kernel) tyX6 tyX6_ok hown (hts (.classLink RX4 9 RX6) (by decide +kernel)) (hts (.instantiable RX6 1) (by decide +kernel)) (hts (.initialized RX6) (by decide +kernel)) hK hP hD hS hA rfl (fun j hj => by rcases (show j = 0 by omega) with rfl <;> rfl) (Nat.le_of_ble_eq_true rfl) (Nat.le_of_ble_eq_true rfl) dX4_init_31 (fun q31 H hP hD hS => ?_)
  refine W.widen (k := 5) (n := 131) (Nat.le_of_ble_eq_true rfl) (Nat.le_of_ble_eq_true rfl) ?_
  have hP : va_P (dC, dI) vwCl [(h0, .inr (4, [.ref q5, .ref q18, .null, .int 0, .int 0, .int 0, .int 0, .int 0, .int 0, .int 0, .int 0])), (q31, .inr (6, [.null]))] H := hP
  have hD : va_D A [(h0, .inr (4, [.ref q5, .ref q18, .null, .int 0, .int 0, .int 0, .int 0, .int 0, .int 0, .int 0, .int 0])), (q31, .inr (6, [.null]))] := hD
  refine lv_dup hx hb dX4_init_34 rfl ?_
  refine lv_iconst (v := nI 4) hx hb dX4_init_35 (by decide) ?_
  have hPc := hP.sub (ws' := [(q31, .inr (6, [.null]))]) [1] rfl
  have hDc := hD.sub (ws' := [(q31, .inr (6, [.null]))]) [1] (by decide) rfl
  have hKc := hK.sub (tys' := []) [] rfl
  have hFc := va_free (wc := [(q31, .inr (6, [.null]))]) hD hS hA [1] rfl
  refine va_callv (va_runI (As := [.int (nI 4)]) (rest := [.ref q31, .ref h0]) ⟨hx, hb, hml, hown, hts⟩ (rf_X6_init l dC dI q31 H.size 4 (Nat.le_of_ble_eq_true rfl) (Nat.le_of_ble_eq_true rfl)) (cwI 1 hts gX4_init_X6_init rfl rfl rfl (hts (.initialized RX6) (by decide +kernel)) (hts (.methodLink RX4 13 yX6_init) (by decide +kernel)) (hts (.instanceMethod yX6_init) (by decide +kernel)) rfl (by decide +kernel) ⟨Nat.le_of_ble_eq_true rfl, Nat.le_of_ble_eq_true rfl⟩) ⟨rf_blind, fun U hU hW => ⟨rfl, by rw [hU], by rw [hU]; exact hPc, va_K.moved hW.alike hKc, hDc.weaken (fun _ _ _ _ => trivial), rf_nz_warm hW hN⟩⟩ rfl rfl hl.1 rfl (lv_room (Nat.le_of_ble_eq_true rfl)) dX4_init_36 ⟨Nat.le_of_ble_eq_true rfl, Nat.le_of_ble_eq_true rfl⟩) hS (fun q _ h => hFc q h) hFc (fun u t H1 locs ht hvm hw hB hz1 hk1 hS => ?_)
  refine W.widen (k := 6) (n := 135) (Nat.le_of_ble_eq_true rfl) (Nat.le_of_ble_eq_true rfl) ?_
  obtain ⟨hP1, hK1, hD1⟩ := hB
  rw [ht] at hP1
  have hK1 := va_K.moved hvm.symm hK1
  have hP1 := hP1.sub (ws' := []) [] rfl
  have hD1 := hD1.sub (ws' := []) [] (by decide) rfl
  obtain ⟨hP, hD⟩ := va_join (wr := [(h0, .inr (4, [.ref q5, .ref q18, .null, .int 0, .int 0, .int 0, .int 0, .int 0, .int 0, .int 0, .int 0]))]) (w1 := []) hP hD [1] [0] rfl rfl (by decide) (by decide) hk1 hFc hP1 hD1
  generalize H1 = H at hP hS ⊢
  have hP : va_P (dC, dI) vwCl [(h0, .inr (4, [.ref q5, .ref q18, .null, .int 0, .int 0, .int 0, .int 0, .int 0, .int 0, .int 0, .int 0]))] H := hP
  have hD : va_D A [(h0, .inr (4, [.ref q5, .ref q18, .null, .int 0, .int 0, .int 0, .int 0, .int 0, .int 0, .int 0, .int 0]))] := hD
  refine va_putF (D := (dC, dI)) (ci := 4) (v := .ref q31) (ty := .object "EachSeesOne$Row") (C := RX4) (T := TX4) (N := 11) hx hb hts (by decide +kernel) tyX4 tyX4_ok nmX4 hown hK hP hD hS 0 rfl rfl 2 (by decide) (hts (.fieldLink RX4 23 "EachSeesOne$Plan" "manners" "LEachSeesOne$Row;") (by decide +kernel)) (fun _ h9 => h9) rfl hin rfl (by decide +kernel) rfl rfl (Nat.le_of_ble_eq_true rfl) dX4_init_39 (fun H locs hP hD hS => ?_)
  have hP : va_P (dC, dI) vwCl [(h0, .inr (4, [.ref q5, .ref q18, .ref q31, .int 0, .int 0, .int 0, .int 0, .int 0, .int 0, .int 0, .int 0]))] H := hP
  have hD : va_D A [(h0, .inr (4, [.ref q5, .ref q18, .ref q31, .int 0, .int 0, .int 0, .int 0, .int 0, .int 0, .int 0, .int 0]))] := hD
  have hP9 := hP.sub (ws' := []) [] rfl
  have hD9 := hD.sub (ws' := []) [] (by decide) rfl
  have hK9 := hK.sub (tys' := []) [] rfl
  exact W.vret hx hb hr (fun t ht hW => ⟨⟨(), rfl, trivial, by rw [ht]; exact hP9, va_K.moved hW.alike hK9, hD9⟩, hS.F ht⟩) hS.2.2 dX4_init_42
set_option maxHeartbeats 4000000 in
set_option maxRecDepth 100000 in
theorem rf_X5_init (l : Launch) (dC : Nat → ClassId) (dI : Nat → Nat → Nat) (h0 sz : Nat) : Met l yX5_init wsX5_init ({ frames := 2, cells := 2, slots := 4, locals := 33 }) (va_Pc [.ref h0] (fun U => U.heap.size = sz ∧ va_P (dC, dI) vwCl [(h0, .inr (5, [.null]))] U.heap ∧ va_K (dC, dI) vwCl [] U ∧ va_D (fun _ => True) [(h0, .inr (5, [.null]))] ∧ rf_nz U)) (va_Qv (fun _ : Unit => True) (fun u t => va_P (dC, dI) vwCl [] t.heap ∧ va_K (dC, dI) vwCl [] t ∧ va_D (va_A [(h0, .inr (5, [.null]))] sz) []) (va_A [(h0, .inr (5, [.null]))] sz)) 2 4 (va_A [(h0, .inr (5, [.null]))] sz) := by
  refine Met.ofW (cc := cX5_init) (maxL := 1) (ret := none) (by decide) rfl ?_
  intro p e s m args below meth c s₁ B hml hv
  obtain ⟨rfl, hsz, hP, hK, hD0, hN⟩ := hv
  have hx := B.exec
  have hb := B.bytes
  have hr := B.returns
  have hts := atoms_spec (ws := wsX5_init) B.pre
  have hown : s.vm.findClass RX5 = some m.cls := findClass_of_methodNamed B.named
  have hlocks := B.notSynchronized
  have hin : meth.name = "<init>" := (name_of_methodNamed B.named B.method).1
  subst hsz
  have hD := hD0.self (sz := s.heap.size)
  generalize hAe : va_A [(h0, .inr (5, [.null]))] s.heap.size = A at hD ⊢
  have hA : ∀ q : Nat, s.heap.size ≤ q → A q := fun q h => by rw [← hAe]; exact Or.inr h
  have hS : va_S A s.heap s.heap [] := va_S.rf
  have hP : va_P (dC, dI) vwCl [(h0, .inr (5, [.null]))] s.heap := hP
  have hl := lv_entry ([.ref h0]) (n := 1) (Nat.le_of_ble_eq_true rfl)
  rw [lg_entry_eq]
  generalize (lg_sl ([.ref h0]) ++ List.replicate (1 - (lg_sl ([.ref h0])).length) Slot.unset).toArray = ls at hl ⊢
  have hl : lv_has ls 1 [(0, .ref h0)] := hl
  refine lv_aload_n hx hb dX5_init_0 rfl (lv_at hl 0 rfl) ?_
  refine W.objInit hx hb hown (hts (.methodLink RX5 3 objectInit) (by decide +kernel)) (hts (.instanceMethod objectInit) (by decide +kernel)) (hts (.code objectInit ⟨#[0xb1]⟩ 1 none) (List.mem_of_getElem? (i := 3) rfl)) rfl (by rw [hml]; exact hl.1) rfl dX5_init_1 (Nat.le_of_ble_eq_true rfl) (Nat.le_of_ble_eq_true rfl) ?_
  refine W.eq (g2 := F0 m 4 ls []) rfl ?_
  refine lv_aload_n hx hb dX5_init_4 rfl (lv_at hl 0 rfl) ?_
  refine va_new (ci := 6) (fs := [.null]) (C := RX6) (T := TX6) (N := 1) hx hb hts (by decide +kernel) tyX6 tyX6_ok hown (hts (.classLink RX5 9 RX6) (by decide +kernel)) (hts (.instantiable RX6 1) (by decide +kernel)) (hts (.initialized RX6) (by decide +kernel)) hK hP hD hS hA rfl (fun j hj => by rcases (show j = 0 by omega) with rfl <;> rfl) (Nat.le_of_ble_eq_true rfl) (Nat.le_of_ble_eq_true rfl) dX5_init_5 (fun q5 H hP hD hS => ?_)
  refine W.widen (k := 1) (n := 1) (Nat.le_of_ble_eq_true rfl) (Nat.le_of_ble_eq_true rfl) ?_
  have hP : va_P (dC, dI) vwCl [(h0, .inr (5, [.null])), (q5, .inr (6, [.null]))] H := hP
  have hD : va_D A [(h0, .inr (5, [.null])), (q5, .inr (6, [.null]))] := hD
  refine lv_dup hx hb dX5_init_8 rfl ?_
  refine lv_iconst (v := nI 3) hx hb dX5_init_9 (by decide) ?_
  have hPc := hP.sub (ws' := [(q5, .inr (6, [.null]))]) [1] rfl
  have hDc := hD.sub (ws' := [(q5, .inr (6, [.null]))]) [1] (by decide) rfl
  have hKc := hK.sub (tys' := []) [] rfl
  have hFc := va_free (wc := [(q5, .inr (6, [.null]))]) hD hS hA [1] rfl
  refine va_callv (va_runI (As := [.int (nI 3)]) (rest := [.ref q5, .ref h0]) ⟨hx, hb, hml, hown, hts⟩ (rf_X6_init l dC dI q5 H.size 3 (Nat.le_of_ble_eq_true rfl) (Nat.le_of_ble_eq_true rfl)) (cwI 1 hts gX5_init_X6_init rfl rfl rfl (hts (.initialized RX6) (by decide +kernel)) (hts (.methodLink RX5 13 yX6_init) (by decide +kernel)) (hts (.instanceMethod yX6_init) (by decide +kernel)) rfl (by decide +kernel) ⟨Nat.le_of_ble_eq_true rfl, Nat.le_of_ble_eq_true rfl⟩) ⟨rf_blind, fun U hU hW => ⟨rfl, by rw [hU], by rw [hU]; exact hPc, va_K.moved hW.alike hKc, hDc.weaken (fun _ _ _ _ => trivial), rf_nz_warm hW hN⟩⟩ rfl rfl hl.1 rfl (lv_room (Nat.le_of_ble_eq_true rfl)) dX5_init_10 ⟨Nat.le_of_ble_eq_true rfl, Nat.le_of_ble_eq_true rfl⟩) hS (fun q _ h => hFc q h) hFc (fun u t H1 locs ht hvm hw hB hz1 hk1 hS => ?_)
  refine W.widen (k := 2) (n := 4) (Nat.le_of_ble_eq_true rfl) (Nat.le_of_ble_eq_true rfl) ?_
  obtain ⟨hP1, hK1, hD1⟩ := hB
  rw [ht] at hP1
  have hK1 := va_K.moved hvm.symm hK1
  have hP1 := hP1.sub (ws' := []) [] rfl
  have hD1 := hD1.sub (ws' := []) [] (by decide) rfl
  obtain ⟨hP, hD⟩ := va_join (wr := [(h0, .inr (5, [.null]))]) (w1 := []) hP hD [1] [0] rfl rfl (by decide) (by decide) hk1 hFc hP1 hD1
  generalize H1 = H at hP hS ⊢
  have hP : va_P (dC, dI) vwCl [(h0, .inr (5, [.null]))] H := hP
  have hD : va_D A [(h0, .inr (5, [.null]))] := hD
  refine va_putF (D := (dC, dI)) (ci := 5) (v := .ref q5) (ty := .object "EachSeesOne$Row") (C := RX5) (T := TX5) (N := 1) hx hb hts (by decide +kernel) tyX5 tyX5_ok nmX5 hown hK hP hD hS 0 rfl rfl 0 (by decide) (hts (.fieldLink RX5 16 "EachSeesOne$Reader" "told" "LEachSeesOne$Row;") (by decide +kernel)) (fun _ h9 => h9) rfl hin rfl (by decide +kernel) rfl rfl (Nat.le_of_ble_eq_true rfl) dX5_init_13 (fun H locs hP hD hS => ?_)
  have hP : va_P (dC, dI) vwCl [(h0, .inr (5, [.ref q5]))] H := hP
  have hD : va_D A [(h0, .inr (5, [.ref q5]))] := hD
  have hP9 := hP.sub (ws' := []) [] rfl
  have hD9 := hD.sub (ws' := []) [] (by decide) rfl
  have hK9 := hK.sub (tys' := []) [] rfl
  exact W.vret hx hb hr (fun t ht hW => ⟨⟨(), rfl, trivial, by rw [ht]; exact hP9, va_K.moved hW.alike hK9, hD9⟩, hS.F ht⟩) hS.2.2 dX5_init_16
set_option maxHeartbeats 4000000 in
set_option maxRecDepth 100000 in
theorem rf_X10_init (l : Launch) (dC : Nat → ClassId) (dI : Nat → Nat → Nat) (h0 sz : Nat) : Met l yX10_init wsX10_init ({ frames := 2, cells := 6, slots := 579, locals := 33 }) (va_Pc [.ref h0] (fun U => U.heap.size = sz ∧ va_P (dC, dI) vwCl [(h0, .inr (10, [.null, .null, .null, .int 0, .int 0, .int 0, .int 0, .int 0, .int 0]))] U.heap ∧ va_K (dC, dI) vwCl [] U ∧ va_D (fun _ => True) [(h0, .inr (10, [.null, .null, .null, .int 0, .int 0, .int 0, .int 0, .int 0, .int 0]))] ∧ rf_nz U)) (va_Qv (fun _ : Unit => True) (fun u t => va_P (dC, dI) vwCl [] t.heap ∧ va_K (dC, dI) vwCl [] t ∧ va_D (va_A [(h0, .inr (10, [.null, .null, .null, .int 0, .int 0, .int 0, .int 0, .int 0, .int 0]))] sz) []) (va_A [(h0, .inr (10, [.null, .null, .null, .int 0, .int 0, .int 0, .int 0, .int 0, .int 0]))] sz)) 6 579 (va_A [(h0, .inr (10, [.null, .null, .null, .int 0, .int 0, .int 0, .int 0, .int 0, .int 0]))] sz) := by
  refine Met.ofW (cc := cX10_init) (maxL := 1) (ret := none) (by decide) rfl ?_
  intro p e s m args below meth c s₁ B hml hv
  obtain ⟨rfl, hsz, hP, hK, hD0, hN⟩ := hv
  have hx := B.exec
  have hb := B.bytes
  have hr := B.returns
  have hts := atoms_spec (ws := wsX10_init) B.pre
  have hown : s.vm.findClass RX10 = some m.cls := findClass_of_methodNamed B.named
  have hlocks := B.notSynchronized
  have hin : meth.name = "<init>" := (name_of_methodNamed B.named B.method).1
  subst hsz
  have hD := hD0.self (sz := s.heap.size)
  generalize hAe : va_A [(h0, .inr (10, [.null, .null, .null, .int 0, .int 0, .int 0, .int 0, .int 0, .int 0]))] s.heap.size = A at hD ⊢
  have hA : ∀ q : Nat, s.heap.size ≤ q → A q := fun q h => by rw [← hAe]; exact Or.inr h
  have hS : va_S A s.heap s.heap [] := va_S.rf
  have hP : va_P (dC, dI) vwCl [(h0, .inr (10, [.null, .null, .null, .int 0, .int 0, .int 0, .int 0, .int 0, .int 0]))] s.heap := hP
  have hl := lv_entry ([.ref h0]) (n := 1) (Nat.le_of_ble_eq_true rfl)
  rw [lg_entry_eq]
  generalize (lg_sl ([.ref h0]) ++ List.replicate (1 - (lg_sl ([.ref h0])).length) Slot.unset).toArray = ls at hl ⊢
  have hl : lv_has ls 1 [(0, .ref h0)] := hl
  refine lv_aload_n hx hb dX10_init_0 rfl (lv_at hl 0 rfl) ?_
  refine W.objInit hx hb hown (hts (.methodLink RX10 3 objectInit) (by decide +kernel)) (hts (.instanceMethod objectInit) (by decide +kernel)) (hts (.code objectInit ⟨#[0xb1]⟩ 1 none) (List.mem_of_getElem? (i := 3) rfl)) rfl (by rw [hml]; exact hl.1) rfl dX10_init_1 (Nat.le_of_ble_eq_true rfl) (Nat.le_of_ble_eq_true rfl) ?_
  refine W.eq (g2 := F0 m 4 ls []) rfl ?_
  refine lv_aload_n hx hb dX10_init_4 rfl (lv_at hl 0 rfl) ?_
  refine va_new (ci := 6) (fs := [.null]) (C := RX6) (T := TX6) (N := 1) hx hb hts (by decide +kernel) tyX6 tyX6_ok hown (hts (.classLink RX10 9 RX6) (by decide +kernel)) (hts (.instantiable RX6 1) (by decide +kernel)) (hts (.initialized RX6) (by decide +kernel)) hK hP hD hS hA rfl (fun j hj => by rcases (show j = 0 by omega) with rfl <;> rfl) (Nat.le_of_ble_eq_true rfl) (Nat.le_of_ble_eq_true rfl) dX10_init_5 (fun q5 H hP hD hS => ?_)
  refine W.widen (k := 1) (n := 1) (Nat.le_of_ble_eq_true rfl) (Nat.le_of_ble_eq_true rfl) ?_
  have hP : va_P (dC, dI) vwCl [(h0, .inr (10, [.null, .null, .null, .int 0, .int 0, .int 0, .int 0, .int 0, .int 0])), (q5, .inr (6, [.null]))] H := hP
  have hD : va_D A [(h0, .inr (10, [.null, .null, .null, .int 0, .int 0, .int 0, .int 0, .int 0, .int 0])), (q5, .inr (6, [.null]))] := hD
  refine lv_dup hx hb dX10_init_8 rfl ?_
  refine lv_bipush (v := nI 64) hx hb dX10_init_9 (by decide) ?_
  have hPc := hP.sub (ws' := [(q5, .inr (6, [.null]))]) [1] rfl
  have hDc := hD.sub (ws' := [(q5, .inr (6, [.null]))]) [1] (by decide) rfl
  have hKc := hK.sub (tys' := []) [] rfl
  have hFc := va_free (wc := [(q5, .inr (6, [.null]))]) hD hS hA [1] rfl
  refine va_callv (va_runI (As := [.int (nI 64)]) (rest := [.ref q5, .ref h0]) ⟨hx, hb, hml, hown, hts⟩ (rf_X6_init l dC dI q5 H.size 64 (Nat.le_of_ble_eq_true rfl) (Nat.le_of_ble_eq_true rfl)) (cwI 1 hts gX10_init_X6_init rfl rfl rfl (hts (.initialized RX6) (by decide +kernel)) (hts (.methodLink RX10 13 yX6_init) (by decide +kernel)) (hts (.instanceMethod yX6_init) (by decide +kernel)) rfl (by decide +kernel) ⟨Nat.le_of_ble_eq_true rfl, Nat.le_of_ble_eq_true rfl⟩) ⟨rf_blind, fun U hU hW => ⟨rfl, by rw [hU], by rw [hU]; exact hPc, va_K.moved hW.alike hKc, hDc.weaken (fun _ _ _ _ => trivial), rf_nz_warm hW hN⟩⟩ rfl rfl hl.1 rfl (lv_room (Nat.le_of_ble_eq_true rfl)) dX10_init_11 ⟨Nat.le_of_ble_eq_true rfl, Nat.le_of_ble_eq_true rfl⟩) hS (fun q _ h => hFc q h) hFc (fun u t H1 locs ht hvm hw hB hz1 hk1 hS => ?_)
  refine W.widen (k := 2) (n := 65) (Nat.le_of_ble_eq_true rfl) (Nat.le_of_ble_eq_true rfl) ?_
  obtain ⟨hP1, hK1, hD1⟩ := hB
  rw [ht] at hP1
  have hK1 := va_K.moved hvm.symm hK1
  have hP1 := hP1.sub (ws' := []) [] rfl
  have hD1 := hD1.sub (ws' := []) [] (by decide) rfl
  obtain ⟨hP, hD⟩ := va_join (wr := [(h0, .inr (10, [.null, .null, .null, .int 0, .int 0, .int 0, .int 0, .int 0, .int 0]))]) (w1 := []) hP hD [1] [0] rfl rfl (by decide) (by decide) hk1 hFc hP1 hD1
  generalize H1 = H at hP hS ⊢
  have hP : va_P (dC, dI) vwCl [(h0, .inr (10, [.null, .null, .null, .int 0, .int 0, .int 0, .int 0, .int 0, .int 0]))] H := hP
  have hD : va_D A [(h0, .inr (10, [.null, .null, .null, .int 0, .int 0, .int 0, .int 0, .int 0, .int 0]))] := hD
  refine va_putF (D := (dC, dI)) (ci := 10) (v := .ref q5) (ty := .object "EachSeesOne$Row") (C := RX10) (T := TX10) (N := 9) hx hb hts (by decide +kernel) tyX10 tyX10_ok nmX10 hown hK hP hD hS 0 rfl rfl 0 (by decide) (hts (.fieldLink RX10 16 "EachSeesOne$Water" "kinds" "LEachSeesOne$Row;") (by decide +kernel)) (fun _ h9 => h9) rfl hin rfl (by decide +kernel) rfl rfl (Nat.le_of_ble_eq_true rfl) dX10_init_14 (fun H locs hP hD hS => ?_)
  have hP : va_P (dC, dI) vwCl [(h0, .inr (10, [.ref q5, .null, .null, .int 0, .int 0, .int 0, .int 0, .int 0, .int 0]))] H := hP
  have hD : va_D A [(h0, .inr (10, [.ref q5, .null, .null, .int 0, .int 0, .int 0, .int 0, .int 0, .int 0]))] := hD
  refine lv_aload_n hx hb dX10_init_17 rfl (lv_at hl 0 rfl) ?_
  refine va_new (ci := 6) (fs := [.null]) (C := RX6) (T := TX6) (N := 1) hx hb hts (by decide +kernel) tyX6 tyX6_ok hown (hts (.classLink RX10 9 RX6) (by decide +kernel)) (hts (.instantiable RX6 1) (by decide +kernel)) (hts (.initialized RX6) (by decide +kernel)) hK hP hD hS hA rfl (fun j hj => by rcases (show j = 0 by omega) with rfl <;> rfl) (Nat.le_of_ble_eq_true rfl) (Nat.le_of_ble_eq_true rfl) dX10_init_18 (fun q18 H hP hD hS => ?_)
  refine W.widen (k := 3) (n := 66) (Nat.le_of_ble_eq_true rfl) (Nat.le_of_ble_eq_true rfl) ?_
  have hP : va_P (dC, dI) vwCl [(h0, .inr (10, [.ref q5, .null, .null, .int 0, .int 0, .int 0, .int 0, .int 0, .int 0])), (q18, .inr (6, [.null]))] H := hP
  have hD : va_D A [(h0, .inr (10, [.ref q5, .null, .null, .int 0, .int 0, .int 0, .int 0, .int 0, .int 0])), (q18, .inr (6, [.null]))] := hD
  refine lv_dup hx hb dX10_init_21 rfl ?_
  refine lv_sipush (v := nI 256) hx hb dX10_init_22 (by decide) ?_
  have hPc := hP.sub (ws' := [(q18, .inr (6, [.null]))]) [1] rfl
  have hDc := hD.sub (ws' := [(q18, .inr (6, [.null]))]) [1] (by decide) rfl
  have hKc := hK.sub (tys' := []) [] rfl
  have hFc := va_free (wc := [(q18, .inr (6, [.null]))]) hD hS hA [1] rfl
  refine va_callv (va_runI (As := [.int (nI 256)]) (rest := [.ref q18, .ref h0]) ⟨hx, hb, hml, hown, hts⟩ (rf_X6_init l dC dI q18 H.size 256 (Nat.le_of_ble_eq_true rfl) (Nat.le_of_ble_eq_true rfl)) (cwI 1 hts gX10_init_X6_init rfl rfl rfl (hts (.initialized RX6) (by decide +kernel)) (hts (.methodLink RX10 13 yX6_init) (by decide +kernel)) (hts (.instanceMethod yX6_init) (by decide +kernel)) rfl (by decide +kernel) ⟨Nat.le_of_ble_eq_true rfl, Nat.le_of_ble_eq_true rfl⟩) ⟨rf_blind, fun U hU hW => ⟨rfl, by rw [hU], by rw [hU]; exact hPc, va_K.moved hW.alike hKc, hDc.weaken (fun _ _ _ _ => trivial), rf_nz_warm hW hN⟩⟩ rfl rfl hl.1 rfl (lv_room (Nat.le_of_ble_eq_true rfl)) dX10_init_25 ⟨Nat.le_of_ble_eq_true rfl, Nat.le_of_ble_eq_true rfl⟩) hS (fun q _ h => hFc q h) hFc (fun u t H1 locs ht hvm hw hB hz1 hk1 hS => ?_)
  refine W.widen (k := 4) (n := 322) (Nat.le_of_ble_eq_true rfl) (Nat.le_of_ble_eq_true rfl) ?_
  obtain ⟨hP1, hK1, hD1⟩ := hB
  rw [ht] at hP1
  have hK1 := va_K.moved hvm.symm hK1
  have hP1 := hP1.sub (ws' := []) [] rfl
  have hD1 := hD1.sub (ws' := []) [] (by decide) rfl
  obtain ⟨hP, hD⟩ := va_join (wr := [(h0, .inr (10, [.ref q5, .null, .null, .int 0, .int 0, .int 0, .int 0, .int 0, .int 0]))]) (w1 := []) hP hD [1] [0] rfl rfl (by decide) (by decide) hk1 hFc hP1 hD1
  generalize H1 = H at hP hS ⊢
  have hP : va_P (dC, dI) vwCl [(h0, .inr (10, [.ref q5, .null, .null, .int 0, .int 0, .int 0, .int 0, .int 0, .int 0]))] H := hP
  have hD : va_D A [(h0, .inr (10, [.ref q5, .null, .null, .int 0, .int 0, .int 0, .int 0, .int 0, .int 0]))] := hD
  refine va_putF (D := (dC, dI)) (ci := 10) (v := .ref q18) (ty := .object "EachSeesOne$Row") (C := RX10) (T := TX10) (N := 9) hx hb hts (by decide +kernel) tyX10 tyX10_ok nmX10 hown hK hP hD hS 0 rfl rfl 1 (by decide) (hts (.fieldLink RX10 20 "EachSeesOne$Water" "beside" "LEachSeesOne$Row;") (by decide +kernel)) (fun _ h9 => h9) rfl hin rfl (by decide +kernel) rfl rfl (Nat.le_of_ble_eq_true rfl) dX10_init_28 (fun H locs hP hD hS => ?_)
  have hP : va_P (dC, dI) vwCl [(h0, .inr (10, [.ref q5, .ref q18, .null, .int 0, .int 0, .int 0, .int 0, .int 0, .int 0]))] H := hP
  have hD : va_D A [(h0, .inr (10, [.ref q5, .ref q18, .null, .int 0, .int 0, .int 0, .int 0, .int 0, .int 0]))] := hD
  refine lv_aload_n hx hb dX10_init_31 rfl (lv_at hl 0 rfl) ?_
  refine va_new (ci := 6) (fs := [.null]) (C := RX6) (T := TX6) (N := 1) hx hb hts (by decide +kernel) tyX6 tyX6_ok hown (hts (.classLink RX10 9 RX6) (by decide +kernel)) (hts (.instantiable RX6 1) (by decide +kernel)) (hts (.initialized RX6) (by decide +kernel)) hK hP hD hS hA rfl (fun j hj => by rcases (show j = 0 by omega) with rfl <;> rfl) (Nat.le_of_ble_eq_true rfl) (Nat.le_of_ble_eq_true rfl) dX10_init_32 (fun q32 H hP hD hS => ?_)
  refine W.widen (k := 5) (n := 323) (Nat.le_of_ble_eq_true rfl) (Nat.le_of_ble_eq_true rfl) ?_
  have hP : va_P (dC, dI) vwCl [(h0, .inr (10, [.ref q5, .ref q18, .null, .int 0, .int 0, .int 0, .int 0, .int 0, .int 0])), (q32, .inr (6, [.null]))] H := hP
  have hD : va_D A [(h0, .inr (10, [.ref q5, .ref q18, .null, .int 0, .int 0, .int 0, .int 0, .int 0, .int 0])), (q32, .inr (6, [.null]))] := hD
  refine lv_dup hx hb dX10_init_35 rfl ?_
  refine lv_sipush (v := nI 256) hx hb dX10_init_36 (by decide) ?_
  have hPc := hP.sub (ws' := [(q32, .inr (6, [.null]))]) [1] rfl
  have hDc := hD.sub (ws' := [(q32, .inr (6, [.null]))]) [1] (by decide) rfl
  have hKc := hK.sub (tys' := []) [] rfl
  have hFc := va_free (wc := [(q32, .inr (6, [.null]))]) hD hS hA [1] rfl
  refine va_callv (va_runI (As := [.int (nI 256)]) (rest := [.ref q32, .ref h0]) ⟨hx, hb, hml, hown, hts⟩ (rf_X6_init l dC dI q32 H.size 256 (Nat.le_of_ble_eq_true rfl) (Nat.le_of_ble_eq_true rfl)) (cwI 1 hts gX10_init_X6_init rfl rfl rfl (hts (.initialized RX6) (by decide +kernel)) (hts (.methodLink RX10 13 yX6_init) (by decide +kernel)) (hts (.instanceMethod yX6_init) (by decide +kernel)) rfl (by decide +kernel) ⟨Nat.le_of_ble_eq_true rfl, Nat.le_of_ble_eq_true rfl⟩) ⟨rf_blind, fun U hU hW => ⟨rfl, by rw [hU], by rw [hU]; exact hPc, va_K.moved hW.alike hKc, hDc.weaken (fun _ _ _ _ => trivial), rf_nz_warm hW hN⟩⟩ rfl rfl hl.1 rfl (lv_room (Nat.le_of_ble_eq_true rfl)) dX10_init_39 ⟨Nat.le_of_ble_eq_true rfl, Nat.le_of_ble_eq_true rfl⟩) hS (fun q _ h => hFc q h) hFc (fun u t H1 locs ht hvm hw hB hz1 hk1 hS => ?_)
  refine W.widen (k := 6) (n := 579) (Nat.le_of_ble_eq_true rfl) (Nat.le_of_ble_eq_true rfl) ?_
  obtain ⟨hP1, hK1, hD1⟩ := hB
  rw [ht] at hP1
  have hK1 := va_K.moved hvm.symm hK1
  have hP1 := hP1.sub (ws' := []) [] rfl
  have hD1 := hD1.sub (ws' := []) [] (by decide) rfl
  obtain ⟨hP, hD⟩ := va_join (wr := [(h0, .inr (10, [.ref q5, .ref q18, .null, .int 0, .int 0, .int 0, .int 0, .int 0, .int 0]))]) (w1 := []) hP hD [1] [0] rfl rfl (by decide) (by decide) hk1 hFc hP1 hD1
  generalize H1 = H at hP hS ⊢
  have hP : va_P (dC, dI) vwCl [(h0, .inr (10, [.ref q5, .ref q18, .null, .int 0, .int 0, .int 0, .int 0, .int 0, .int 0]))] H := hP
  have hD : va_D A [(h0, .inr (10, [.ref q5, .ref q18, .null, .int 0, .int 0, .int 0, .int 0, .int 0, .int 0]))] := hD
  refine va_putF (D := (dC, dI)) (ci := 10) (v := .ref q32) (ty := .object "EachSeesOne$Row") (C := RX10) (T := TX10) (N := 9) hx hb hts (by decide +kernel) tyX10 tyX10_ok nmX10 hown hK hP hD hS 0 rfl rfl 2 (by decide) (hts (.fieldLink RX10 23 "EachSeesOne$Water" "sights" "LEachSeesOne$Row;") (by decide +kernel)) (fun _ h9 => h9) rfl hin rfl (by decide +kernel) rfl rfl (Nat.le_of_ble_eq_true rfl) dX10_init_42 (fun H locs hP hD hS => ?_)
  have hP : va_P (dC, dI) vwCl [(h0, .inr (10, [.ref q5, .ref q18, .ref q32, .int 0, .int 0, .int 0, .int 0, .int 0, .int 0]))] H := hP
  have hD : va_D A [(h0, .inr (10, [.ref q5, .ref q18, .ref q32, .int 0, .int 0, .int 0, .int 0, .int 0, .int 0]))] := hD
  have hP9 := hP.sub (ws' := []) [] rfl
  have hD9 := hD.sub (ws' := []) [] (by decide) rfl
  have hK9 := hK.sub (tys' := []) [] rfl
  exact W.vret hx hb hr (fun t ht hW => ⟨⟨(), rfl, trivial, by rw [ht]; exact hP9, va_K.moved hW.alike hK9, hD9⟩, hS.F ht⟩) hS.2.2 dX10_init_45
set_option maxHeartbeats 4000000 in
set_option maxRecDepth 100000 in
theorem rf_X1_init (l : Launch) (dC : Nat → ClassId) (dI : Nat → Nat → Nat) (h0 sz : Nat) : Met l yX1_init wsX1_init ({ frames := 2, cells := 2, slots := 5, locals := 33 }) (va_Pc [.ref h0] (fun U => U.heap.size = sz ∧ va_P (dC, dI) vwCl [(h0, .inr (1, [.null, .int 0, .int 0, .int 0, .int 0, .int 0, .int 0]))] U.heap ∧ va_K (dC, dI) vwCl [] U ∧ va_D (fun _ => True) [(h0, .inr (1, [.null, .int 0, .int 0, .int 0, .int 0, .int 0, .int 0]))] ∧ rf_nz U)) (va_Qv (fun _ : Unit => True) (fun u t => va_P (dC, dI) vwCl [] t.heap ∧ va_K (dC, dI) vwCl [] t ∧ va_D (va_A [(h0, .inr (1, [.null, .int 0, .int 0, .int 0, .int 0, .int 0, .int 0]))] sz) []) (va_A [(h0, .inr (1, [.null, .int 0, .int 0, .int 0, .int 0, .int 0, .int 0]))] sz)) 2 5 (va_A [(h0, .inr (1, [.null, .int 0, .int 0, .int 0, .int 0, .int 0, .int 0]))] sz) := by
  refine Met.ofW (cc := cX1_init) (maxL := 1) (ret := none) (by decide) rfl ?_
  intro p e s m args below meth c s₁ B hml hv
  obtain ⟨rfl, hsz, hP, hK, hD0, hN⟩ := hv
  have hx := B.exec
  have hb := B.bytes
  have hr := B.returns
  have hts := atoms_spec (ws := wsX1_init) B.pre
  have hown : s.vm.findClass RX1 = some m.cls := findClass_of_methodNamed B.named
  have hlocks := B.notSynchronized
  have hin : meth.name = "<init>" := (name_of_methodNamed B.named B.method).1
  subst hsz
  have hD := hD0.self (sz := s.heap.size)
  generalize hAe : va_A [(h0, .inr (1, [.null, .int 0, .int 0, .int 0, .int 0, .int 0, .int 0]))] s.heap.size = A at hD ⊢
  have hA : ∀ q : Nat, s.heap.size ≤ q → A q := fun q h => by rw [← hAe]; exact Or.inr h
  have hS : va_S A s.heap s.heap [] := va_S.rf
  have hP : va_P (dC, dI) vwCl [(h0, .inr (1, [.null, .int 0, .int 0, .int 0, .int 0, .int 0, .int 0]))] s.heap := hP
  have hl := lv_entry ([.ref h0]) (n := 1) (Nat.le_of_ble_eq_true rfl)
  rw [lg_entry_eq]
  generalize (lg_sl ([.ref h0]) ++ List.replicate (1 - (lg_sl ([.ref h0])).length) Slot.unset).toArray = ls at hl ⊢
  have hl : lv_has ls 1 [(0, .ref h0)] := hl
  refine lv_aload_n hx hb dX1_init_0 rfl (lv_at hl 0 rfl) ?_
  refine W.objInit hx hb hown (hts (.methodLink RX1 3 objectInit) (by decide +kernel)) (hts (.instanceMethod objectInit) (by decide +kernel)) (hts (.code objectInit ⟨#[0xb1]⟩ 1 none) (List.mem_of_getElem? (i := 3) rfl)) rfl (by rw [hml]; exact hl.1) rfl dX1_init_1 (Nat.le_of_ble_eq_true rfl) (Nat.le_of_ble_eq_true rfl) ?_
  refine W.eq (g2 := F0 m 4 ls []) rfl ?_
  refine lv_aload_n hx hb dX1_init_4 rfl (lv_at hl 0 rfl) ?_
  refine va_new (ci := 6) (fs := [.null]) (C := RX6) (T := TX6) (N := 1) hx hb hts (by decide +kernel) tyX6 tyX6_ok hown (hts (.classLink RX1 9 RX6) (by decide +kernel)) (hts (.instantiable RX6 1) (by decide +kernel)) (hts (.initialized RX6) (by decide +kernel)) hK hP hD hS hA rfl (fun j hj => by rcases (show j = 0 by omega) with rfl <;> rfl) (Nat.le_of_ble_eq_true rfl) (Nat.le_of_ble_eq_true rfl) dX1_init_5 (fun q5 H hP hD hS => ?_)
  refine W.widen (k := 1) (n := 1) (Nat.le_of_ble_eq_true rfl) (Nat.le_of_ble_eq_true rfl) ?_
  have hP : va_P (dC, dI) vwCl [(h0, .inr (1, [.null, .int 0, .int 0, .int 0, .int 0, .int 0, .int 0])), (q5, .inr (6, [.null]))] H := hP
  have hD : va_D A [(h0, .inr (1, [.null, .int 0, .int 0, .int 0, .int 0, .int 0, .int 0])), (q5, .inr (6, [.null]))] := hD
  refine lv_dup hx hb dX1_init_8 rfl ?_
  refine lv_iconst (v := nI 4) hx hb dX1_init_9 (by decide) ?_
  have hPc := hP.sub (ws' := [(q5, .inr (6, [.null]))]) [1] rfl
  have hDc := hD.sub (ws' := [(q5, .inr (6, [.null]))]) [1] (by decide) rfl
  have hKc := hK.sub (tys' := []) [] rfl
  have hFc := va_free (wc := [(q5, .inr (6, [.null]))]) hD hS hA [1] rfl
  refine va_callv (va_runI (As := [.int (nI 4)]) (rest := [.ref q5, .ref h0]) ⟨hx, hb, hml, hown, hts⟩ (rf_X6_init l dC dI q5 H.size 4 (Nat.le_of_ble_eq_true rfl) (Nat.le_of_ble_eq_true rfl)) (cwI 1 hts gX1_init_X6_init rfl rfl rfl (hts (.initialized RX6) (by decide +kernel)) (hts (.methodLink RX1 11 yX6_init) (by decide +kernel)) (hts (.instanceMethod yX6_init) (by decide +kernel)) rfl (by decide +kernel) ⟨Nat.le_of_ble_eq_true rfl, Nat.le_of_ble_eq_true rfl⟩) ⟨rf_blind, fun U hU hW => ⟨rfl, by rw [hU], by rw [hU]; exact hPc, va_K.moved hW.alike hKc, hDc.weaken (fun _ _ _ _ => trivial), rf_nz_warm hW hN⟩⟩ rfl rfl hl.1 rfl (lv_room (Nat.le_of_ble_eq_true rfl)) dX1_init_10 ⟨Nat.le_of_ble_eq_true rfl, Nat.le_of_ble_eq_true rfl⟩) hS (fun q _ h => hFc q h) hFc (fun u t H1 locs ht hvm hw hB hz1 hk1 hS => ?_)
  refine W.widen (k := 2) (n := 5) (Nat.le_of_ble_eq_true rfl) (Nat.le_of_ble_eq_true rfl) ?_
  obtain ⟨hP1, hK1, hD1⟩ := hB
  rw [ht] at hP1
  have hK1 := va_K.moved hvm.symm hK1
  have hP1 := hP1.sub (ws' := []) [] rfl
  have hD1 := hD1.sub (ws' := []) [] (by decide) rfl
  obtain ⟨hP, hD⟩ := va_join (wr := [(h0, .inr (1, [.null, .int 0, .int 0, .int 0, .int 0, .int 0, .int 0]))]) (w1 := []) hP hD [1] [0] rfl rfl (by decide) (by decide) hk1 hFc hP1 hD1
  generalize H1 = H at hP hS ⊢
  have hP : va_P (dC, dI) vwCl [(h0, .inr (1, [.null, .int 0, .int 0, .int 0, .int 0, .int 0, .int 0]))] H := hP
  have hD : va_D A [(h0, .inr (1, [.null, .int 0, .int 0, .int 0, .int 0, .int 0, .int 0]))] := hD
  refine va_putF (D := (dC, dI)) (ci := 1) (v := .ref q5) (ty := .object "EachSeesOne$Row") (C := RX1) (T := TX1) (N := 7) hx hb hts (by decide +kernel) tyX1 tyX1_ok nmX1 hown hK hP hD hS 0 rfl rfl 0 (by decide) (hts (.fieldLink RX1 14 "EachSeesOne$Crew" "manners" "LEachSeesOne$Row;") (by decide +kernel)) (fun _ h9 => h9) rfl hin rfl (by decide +kernel) rfl rfl (Nat.le_of_ble_eq_true rfl) dX1_init_13 (fun H locs hP hD hS => ?_)
  have hP : va_P (dC, dI) vwCl [(h0, .inr (1, [.ref q5, .int 0, .int 0, .int 0, .int 0, .int 0, .int 0]))] H := hP
  have hD : va_D A [(h0, .inr (1, [.ref q5, .int 0, .int 0, .int 0, .int 0, .int 0, .int 0]))] := hD
  have hP9 := hP.sub (ws' := []) [] rfl
  have hD9 := hD.sub (ws' := []) [] (by decide) rfl
  have hK9 := hK.sub (tys' := []) [] rfl
  exact W.vret hx hb hr (fun t ht hW => ⟨⟨(), rfl, trivial, by rw [ht]; exact hP9, va_K.moved hW.alike hK9, hD9⟩, hS.F ht⟩) hS.2.2 dX1_init_16
set_option maxHeartbeats 4000000 in
set_option maxRecDepth 100000 in
theorem rf_X0_init (l : Launch) (dC : Nat → ClassId) (dI : Nat → Nat → Nat) (h0 sz : Nat) : Met l yX0_init wsX0_init ({ frames := 1, cells := 0, slots := 0, locals := 12 }) (va_Pc [.ref h0] (fun U => U.heap.size = sz ∧ va_P (dC, dI) vwCl [(h0, .inr (0, [.int 0, .int 0, .int 0, .int 0, .int 0]))] U.heap ∧ va_K (dC, dI) vwCl [] U ∧ va_D (fun _ => True) [(h0, .inr (0, [.int 0, .int 0, .int 0, .int 0, .int 0]))] ∧ rf_nz U)) (va_Qv (fun _ : Unit => True) (fun u t => va_P (dC, dI) vwCl [] t.heap ∧ va_K (dC, dI) vwCl [] t ∧ va_D (va_A [(h0, .inr (0, [.int 0, .int 0, .int 0, .int 0, .int 0]))] sz) []) (va_A [(h0, .inr (0, [.int 0, .int 0, .int 0, .int 0, .int 0]))] sz)) 0 0 (va_A [(h0, .inr (0, [.int 0, .int 0, .int 0, .int 0, .int 0]))] sz) := by
  refine Met.ofW (cc := cX0_init) (maxL := 1) (ret := none) (by decide) rfl ?_
  intro p e s m args below meth c s₁ B hml hv
  obtain ⟨rfl, hsz, hP, hK, hD0, hN⟩ := hv
  have hx := B.exec
  have hb := B.bytes
  have hr := B.returns
  have hts := atoms_spec (ws := wsX0_init) B.pre
  have hown : s.vm.findClass RX0 = some m.cls := findClass_of_methodNamed B.named
  have hlocks := B.notSynchronized
  have hin : meth.name = "<init>" := (name_of_methodNamed B.named B.method).1
  subst hsz
  have hD := hD0.self (sz := s.heap.size)
  generalize hAe : va_A [(h0, .inr (0, [.int 0, .int 0, .int 0, .int 0, .int 0]))] s.heap.size = A at hD ⊢
  have hA : ∀ q : Nat, s.heap.size ≤ q → A q := fun q h => by rw [← hAe]; exact Or.inr h
  have hS : va_S A s.heap s.heap [] := va_S.rf
  have hP : va_P (dC, dI) vwCl [(h0, .inr (0, [.int 0, .int 0, .int 0, .int 0, .int 0]))] s.heap := hP
  have hl := lv_entry ([.ref h0]) (n := 1) (Nat.le_of_ble_eq_true rfl)
  rw [lg_entry_eq]
  generalize (lg_sl ([.ref h0]) ++ List.replicate (1 - (lg_sl ([.ref h0])).length) Slot.unset).toArray = ls at hl ⊢
  have hl : lv_has ls 1 [(0, .ref h0)] := hl
  refine lv_aload_n hx hb dX0_init_0 rfl (lv_at hl 0 rfl) ?_
  refine W.objInit hx hb hown (hts (.methodLink RX0 3 objectInit) (by decide +kernel)) (hts (.instanceMethod objectInit) (by decide +kernel)) (hts (.code objectInit ⟨#[0xb1]⟩ 1 none) (List.mem_of_getElem? (i := 3) rfl)) rfl (by rw [hml]; exact hl.1) rfl dX0_init_1 (Nat.le_of_ble_eq_true rfl) (Nat.le_of_ble_eq_true rfl) ?_
  refine W.eq (g2 := F0 m 4 ls []) rfl ?_
  have hP9 := hP.sub (ws' := []) [] rfl
  have hD9 := hD.sub (ws' := []) [] (by decide) rfl
  have hK9 := hK.sub (tys' := []) [] rfl
  exact W.vret hx hb hr (fun t ht hW => ⟨⟨(), rfl, trivial, by rw [ht]; exact hP9, va_K.moved hW.alike hK9, hD9⟩, hS.F ht⟩) hS.2.2 dX0_init_4
set_option maxHeartbeats 4000000 in
set_option maxRecDepth 100000 in
theorem rf_X9_init (l : Launch) (dC : Nat → ClassId) (dI : Nat → Nat → Nat) (h0 sz a1 a2 : Nat) : Met l yX9_init wsX9_init ({ frames := 2, cells := 3, slots := 26, locals := 33 }) (va_Pc [.ref h0, .ref a1, .ref a2] (fun U => U.heap.size = sz ∧ va_P (dC, dI) vwCl [(h0, .inr (9, [.null, .null, .null, .null]))] U.heap ∧ va_K (dC, dI) vwCl [] U ∧ va_D (fun _ => True) [(h0, .inr (9, [.null, .null, .null, .null]))] ∧ rf_nz U)) (va_Qv (fun _ : Unit => True) (fun u t => va_P (dC, dI) vwCl [] t.heap ∧ va_K (dC, dI) vwCl [] t ∧ va_D (va_A [(h0, .inr (9, [.null, .null, .null, .null]))] sz) []) (va_A [(h0, .inr (9, [.null, .null, .null, .null]))] sz)) 3 26 (va_A [(h0, .inr (9, [.null, .null, .null, .null]))] sz) := by
  refine Met.ofW (cc := cX9_init) (maxL := 3) (ret := none) (by decide) rfl ?_
  intro p e s m args below meth c s₁ B hml hv
  obtain ⟨rfl, hsz, hP, hK, hD0, hN⟩ := hv
  have hx := B.exec
  have hb := B.bytes
  have hr := B.returns
  have hts := atoms_spec (ws := wsX9_init) B.pre
  have hown : s.vm.findClass RX9 = some m.cls := findClass_of_methodNamed B.named
  have hlocks := B.notSynchronized
  have hin : meth.name = "<init>" := (name_of_methodNamed B.named B.method).1
  subst hsz
  have hD := hD0.self (sz := s.heap.size)
  generalize hAe : va_A [(h0, .inr (9, [.null, .null, .null, .null]))] s.heap.size = A at hD ⊢
  have hA : ∀ q : Nat, s.heap.size ≤ q → A q := fun q h => by rw [← hAe]; exact Or.inr h
  have hS : va_S A s.heap s.heap [] := va_S.rf
  have hP : va_P (dC, dI) vwCl [(h0, .inr (9, [.null, .null, .null, .null]))] s.heap := hP
  have hl := lv_entry ([.ref h0, .ref a1, .ref a2]) (n := 3) (Nat.le_of_ble_eq_true rfl)
  rw [lg_entry_eq]
  generalize (lg_sl ([.ref h0, .ref a1, .ref a2]) ++ List.replicate (3 - (lg_sl ([.ref h0, .ref a1, .ref a2])).length) Slot.unset).toArray = ls at hl ⊢
  have hl : lv_has ls 3 [(0, .ref h0), (1, .ref a1), (2, .ref a2)] := hl
  refine lv_aload_n hx hb dX9_init_0 rfl (lv_at hl 0 rfl) ?_
  refine W.objInit hx hb hown (hts (.methodLink RX9 3 objectInit) (by decide +kernel)) (hts (.instanceMethod objectInit) (by decide +kernel)) (hts (.code objectInit ⟨#[0xb1]⟩ 1 none) (List.mem_of_getElem? (i := 3) rfl)) rfl (by rw [hml]; exact hl.1) rfl dX9_init_1 (Nat.le_of_ble_eq_true rfl) (Nat.le_of_ble_eq_true rfl) ?_
  refine W.eq (g2 := F0 m 4 ls []) rfl ?_
  refine lv_aload_n hx hb dX9_init_4 rfl (lv_at hl 0 rfl) ?_
  refine va_new (ci := 0) (fs := [.int 0, .int 0, .int 0, .int 0, .int 0]) (C := RX0) (T := TX0) (N := 5) hx hb hts (by decide +kernel) tyX0 tyX0_ok hown (hts (.classLink RX9 9 RX0) (by decide +kernel)) (hts (.instantiable RX0 5) (by decide +kernel)) (hts (.initialized RX0) (by decide +kernel)) hK hP hD hS hA rfl (fun j hj => by rcases (show j = 0 ∨ j = 1 ∨ j = 2 ∨ j = 3 ∨ j = 4 by omega) with rfl | rfl | rfl | rfl | rfl <;> rfl) (Nat.le_of_ble_eq_true rfl) (Nat.le_of_ble_eq_true rfl) dX9_init_5 (fun q5 H hP hD hS => ?_)
  refine W.widen (k := 1) (n := 5) (Nat.le_of_ble_eq_true rfl) (Nat.le_of_ble_eq_true rfl) ?_
  have hP : va_P (dC, dI) vwCl [(h0, .inr (9, [.null, .null, .null, .null])), (q5, .inr (0, [.int 0, .int 0, .int 0, .int 0, .int 0]))] H := hP
  have hD : va_D A [(h0, .inr (9, [.null, .null, .null, .null])), (q5, .inr (0, [.int 0, .int 0, .int 0, .int 0, .int 0]))] := hD
  refine lv_dup hx hb dX9_init_8 rfl ?_
  have hPc := hP.sub (ws' := [(q5, .inr (0, [.int 0, .int 0, .int 0, .int 0, .int 0]))]) [1] rfl
  have hDc := hD.sub (ws' := [(q5, .inr (0, [.int 0, .int 0, .int 0, .int 0, .int 0]))]) [1] (by decide) rfl
  have hKc := hK.sub (tys' := []) [] rfl
  have hFc := va_free (wc := [(q5, .inr (0, [.int 0, .int 0, .int 0, .int 0, .int 0]))]) hD hS hA [1] rfl
  refine va_callv (va_runIN (As := []) (rest := [.ref q5, .ref h0]) ⟨hx, hb, hml, hown, hts⟩ (rf_X0_init l dC dI q5 H.size) ⟨va_cnB (own := RX9) (host := RX11) (index := 11) 0 hts gX9_init_X0_init_n11 rfl rfl rfl (hN _ (by decide +kernel)) (hts (.initialized RX0) (by decide +kernel)) (by decide +kernel) ⟨Nat.le_of_ble_eq_true rfl, Nat.le_of_ble_eq_true rfl⟩, rfl, hts (.instanceMethod yX0_init) (by decide +kernel)⟩ ⟨rf_blind, fun U hU hW => ⟨rfl, by rw [hU], by rw [hU]; exact hPc, va_K.moved hW.alike hKc, hDc.weaken (fun _ _ _ _ => trivial), rf_nz_warm hW hN⟩⟩ rfl rfl hl.1 rfl (lv_room (Nat.le_of_ble_eq_true rfl)) dX9_init_9 ⟨Nat.le_of_ble_eq_true rfl, Nat.le_of_ble_eq_true rfl⟩) hS (fun q _ h => hFc q h) hFc (fun u t H1 locs ht hvm hw hB hz1 hk1 hS => ?_)
  refine W.widen (k := 1) (n := 5) (Nat.le_of_ble_eq_true rfl) (Nat.le_of_ble_eq_true rfl) ?_
  obtain ⟨hP1, hK1, hD1⟩ := hB
  rw [ht] at hP1
  have hK1 := va_K.moved hvm.symm hK1
  have hP1 := hP1.sub (ws' := []) [] rfl
  have hD1 := hD1.sub (ws' := []) [] (by decide) rfl
  obtain ⟨hP, hD⟩ := va_join (wr := [(h0, .inr (9, [.null, .null, .null, .null]))]) (w1 := []) hP hD [1] [0] rfl rfl (by decide) (by decide) hk1 hFc hP1 hD1
  generalize H1 = H at hP hS ⊢
  have hP : va_P (dC, dI) vwCl [(h0, .inr (9, [.null, .null, .null, .null]))] H := hP
  have hD : va_D A [(h0, .inr (9, [.null, .null, .null, .null]))] := hD
  refine va_putF (D := (dC, dI)) (ci := 9) (v := .ref q5) (ty := .object "EachSeesOne$Boat") (C := RX9) (T := TX9) (N := 4) hx hb hts (by decide +kernel) tyX9 tyX9_ok nmX9 hown hK hP hD hS 0 rfl rfl 2 (by decide) (hts (.fieldLink RX9 12 "EachSeesOne$Trial" "boat" "LEachSeesOne$Boat;") (by decide +kernel)) (fun _ h9 => h9) rfl hin rfl (by decide +kernel) rfl rfl (Nat.le_of_ble_eq_true rfl) dX9_init_12 (fun H locs hP hD hS => ?_)
  have hP : va_P (dC, dI) vwCl [(h0, .inr (9, [.null, .null, .ref q5, .null]))] H := hP
  have hD : va_D A [(h0, .inr (9, [.null, .null, .ref q5, .null]))] := hD
  refine lv_aload_n hx hb dX9_init_15 rfl (lv_at hl 0 rfl) ?_
  refine va_new (ci := 6) (fs := [.null]) (C := RX6) (T := TX6) (N := 1) hx hb hts (by decide +kernel) tyX6 tyX6_ok hown (hts (.classLink RX9 18 RX6) (by decide +kernel)) (hts (.instantiable RX6 1) (by decide +kernel)) (hts (.initialized RX6) (by decide +kernel)) hK hP hD hS hA rfl (fun j hj => by rcases (show j = 0 by omega) with rfl <;> rfl) (Nat.le_of_ble_eq_true rfl) (Nat.le_of_ble_eq_true rfl) dX9_init_16 (fun q16 H hP hD hS => ?_)
  refine W.widen (k := 2) (n := 6) (Nat.le_of_ble_eq_true rfl) (Nat.le_of_ble_eq_true rfl) ?_
  have hP : va_P (dC, dI) vwCl [(h0, .inr (9, [.null, .null, .ref q5, .null])), (q16, .inr (6, [.null]))] H := hP
  have hD : va_D A [(h0, .inr (9, [.null, .null, .ref q5, .null])), (q16, .inr (6, [.null]))] := hD
  refine lv_dup hx hb dX9_init_19 rfl ?_
  refine lv_bipush (v := nI 20) hx hb dX9_init_20 (by decide) ?_
  have hPc := hP.sub (ws' := [(q16, .inr (6, [.null]))]) [1] rfl
  have hDc := hD.sub (ws' := [(q16, .inr (6, [.null]))]) [1] (by decide) rfl
  have hKc := hK.sub (tys' := []) [] rfl
  have hFc := va_free (wc := [(q16, .inr (6, [.null]))]) hD hS hA [1] rfl
  refine va_callv (va_runI (As := [.int (nI 20)]) (rest := [.ref q16, .ref h0]) ⟨hx, hb, hml, hown, hts⟩ (rf_X6_init l dC dI q16 H.size 20 (Nat.le_of_ble_eq_true rfl) (Nat.le_of_ble_eq_true rfl)) (cwI 1 hts gX9_init_X6_init rfl rfl rfl (hts (.initialized RX6) (by decide +kernel)) (hts (.methodLink RX9 20 yX6_init) (by decide +kernel)) (hts (.instanceMethod yX6_init) (by decide +kernel)) rfl (by decide +kernel) ⟨Nat.le_of_ble_eq_true rfl, Nat.le_of_ble_eq_true rfl⟩) ⟨rf_blind, fun U hU hW => ⟨rfl, by rw [hU], by rw [hU]; exact hPc, va_K.moved hW.alike hKc, hDc.weaken (fun _ _ _ _ => trivial), rf_nz_warm hW hN⟩⟩ rfl rfl hl.1 rfl (lv_room (Nat.le_of_ble_eq_true rfl)) dX9_init_22 ⟨Nat.le_of_ble_eq_true rfl, Nat.le_of_ble_eq_true rfl⟩) hS (fun q _ h => hFc q h) hFc (fun u t H1 locs ht hvm hw hB hz1 hk1 hS => ?_)
  refine W.widen (k := 3) (n := 26) (Nat.le_of_ble_eq_true rfl) (Nat.le_of_ble_eq_true rfl) ?_
  obtain ⟨hP1, hK1, hD1⟩ := hB
  rw [ht] at hP1
  have hK1 := va_K.moved hvm.symm hK1
  have hP1 := hP1.sub (ws' := []) [] rfl
  have hD1 := hD1.sub (ws' := []) [] (by decide) rfl
  obtain ⟨hP, hD⟩ := va_join (wr := [(h0, .inr (9, [.null, .null, .ref q5, .null]))]) (w1 := []) hP hD [1] [0] rfl rfl (by decide) (by decide) hk1 hFc hP1 hD1
  generalize H1 = H at hP hS ⊢
  have hP : va_P (dC, dI) vwCl [(h0, .inr (9, [.null, .null, .ref q5, .null]))] H := hP
  have hD : va_D A [(h0, .inr (9, [.null, .null, .ref q5, .null]))] := hD
  refine va_putF (D := (dC, dI)) (ci := 9) (v := .ref q16) (ty := .object "EachSeesOne$Row") (C := RX9) (T := TX9) (N := 4) hx hb hts (by decide +kernel) tyX9 tyX9_ok nmX9 hown hK hP hD hS 0 rfl rfl 3 (by decide) (hts (.fieldLink RX9 23 "EachSeesOne$Trial" "told" "LEachSeesOne$Row;") (by decide +kernel)) (fun _ h9 => h9) rfl hin rfl (by decide +kernel) rfl rfl (Nat.le_of_ble_eq_true rfl) dX9_init_25 (fun H locs hP hD hS => ?_)
  have hP : va_P (dC, dI) vwCl [(h0, .inr (9, [.null, .null, .ref q5, .ref q16]))] H := hP
  have hD : va_D A [(h0, .inr (9, [.null, .null, .ref q5, .ref q16]))] := hD
  refine lv_aload_n hx hb dX9_init_28 rfl (lv_at hl 0 rfl) ?_
  refine lv_aload_n hx hb dX9_init_29 rfl (lv_at hl 1 rfl) ?_
  refine va_putF (D := (dC, dI)) (ci := 9) (v := .ref a1) (ty := .object "EachSeesOne$Water") (C := RX9) (T := TX9) (N := 4) hx hb hts (by decide +kernel) tyX9 tyX9_ok nmX9 hown hK hP hD hS 0 rfl rfl 0 (by decide) (hts (.fieldLink RX9 27 "EachSeesOne$Trial" "water" "LEachSeesOne$Water;") (by decide +kernel)) (fun _ h9 => h9) rfl hin rfl (by decide +kernel) rfl rfl (Nat.le_of_ble_eq_true rfl) dX9_init_30 (fun H locs hP hD hS => ?_)
  have hP : va_P (dC, dI) vwCl [(h0, .inr (9, [.ref a1, .null, .ref q5, .ref q16]))] H := hP
  have hD : va_D A [(h0, .inr (9, [.ref a1, .null, .ref q5, .ref q16]))] := hD
  refine lv_aload_n hx hb dX9_init_33 rfl (lv_at hl 0 rfl) ?_
  refine lv_aload_n hx hb dX9_init_34 rfl (lv_at hl 2 rfl) ?_
  refine va_putF (D := (dC, dI)) (ci := 9) (v := .ref a2) (ty := .object "EachSeesOne$Crew") (C := RX9) (T := TX9) (N := 4) hx hb hts (by decide +kernel) tyX9 tyX9_ok nmX9 hown hK hP hD hS 0 rfl rfl 1 (by decide) (hts (.fieldLink RX9 31 "EachSeesOne$Trial" "crew" "LEachSeesOne$Crew;") (by decide +kernel)) (fun _ h9 => h9) rfl hin rfl (by decide +kernel) rfl rfl (Nat.le_of_ble_eq_true rfl) dX9_init_35 (fun H locs hP hD hS => ?_)
  have hP : va_P (dC, dI) vwCl [(h0, .inr (9, [.ref a1, .ref a2, .ref q5, .ref q16]))] H := hP
  have hD : va_D A [(h0, .inr (9, [.ref a1, .ref a2, .ref q5, .ref q16]))] := hD
  have hP9 := hP.sub (ws' := []) [] rfl
  have hD9 := hD.sub (ws' := []) [] (by decide) rfl
  have hK9 := hK.sub (tys' := []) [] rfl
  exact W.vret hx hb hr (fun t ht hW => ⟨⟨(), rfl, trivial, by rw [ht]; exact hP9, va_K.moved hW.alike hK9, hD9⟩, hS.F ht⟩) hS.2.2 dX9_init_38
set_option maxHeartbeats 4000000 in
set_option maxRecDepth 100000 in
theorem rf_X7_init (l : Launch) (dC : Nat → ClassId) (dI : Nat → Nat → Nat) (h0 sz : Nat) : Met l yX7_init wsX7_init ({ frames := 2, cells := 5, slots := 8199, locals := 33 }) (va_Pc [.ref h0] (fun U => U.heap.size = sz ∧ va_P (dC, dI) vwCl [(h0, .inr (7, [.null, .null, .null, .int 0]))] U.heap ∧ va_K (dC, dI) vwCl [] U ∧ va_D (fun _ => True) [(h0, .inr (7, [.null, .null, .null, .int 0]))] ∧ rf_nz U)) (va_Qv (fun _ : Nat × ClassId => True) (fun u t => va_P (dC, dI) vwCl [(u.1, .inl (u.2, (4096, .inl (fun _ => 0))))] t.heap ∧ va_K (dC, dI) vwCl [] t ∧ va_D (va_A [(h0, .inr (7, [.null, .null, .null, .int 0]))] sz) [(u.1, .inl (u.2, (4096, .inl (fun _ => 0))))]) (va_A [(h0, .inr (7, [.null, .null, .null, .int 0]))] sz)) 5 8199 (va_A [(h0, .inr (7, [.null, .null, .null, .int 0]))] sz) := by
  refine Met.ofW (cc := cX7_init) (maxL := 1) (ret := none) (by decide) rfl ?_
  intro p e s m args below meth c s₁ B hml hv
  obtain ⟨rfl, hsz, hP, hK, hD0, hN⟩ := hv
  have hx := B.exec
  have hb := B.bytes
  have hr := B.returns
  have hts := atoms_spec (ws := wsX7_init) B.pre
  have hown : s.vm.findClass RX7 = some m.cls := findClass_of_methodNamed B.named
  have hlocks := B.notSynchronized
  have hin : meth.name = "<init>" := (name_of_methodNamed B.named B.method).1
  subst hsz
  have hD := hD0.self (sz := s.heap.size)
  generalize hAe : va_A [(h0, .inr (7, [.null, .null, .null, .int 0]))] s.heap.size = A at hD ⊢
  have hA : ∀ q : Nat, s.heap.size ≤ q → A q := fun q h => by rw [← hAe]; exact Or.inr h
  have hS : va_S A s.heap s.heap [] := va_S.rf
  have hP : va_P (dC, dI) vwCl [(h0, .inr (7, [.null, .null, .null, .int 0]))] s.heap := hP
  have hl := lv_entry ([.ref h0]) (n := 1) (Nat.le_of_ble_eq_true rfl)
  rw [lg_entry_eq]
  generalize (lg_sl ([.ref h0]) ++ List.replicate (1 - (lg_sl ([.ref h0])).length) Slot.unset).toArray = ls at hl ⊢
  have hl : lv_has ls 1 [(0, .ref h0)] := hl
  refine lv_aload_n hx hb dX7_init_0 rfl (lv_at hl 0 rfl) ?_
  refine W.objInit hx hb hown (hts (.methodLink RX7 7 objectInit) (by decide +kernel)) (hts (.instanceMethod objectInit) (by decide +kernel)) (hts (.code objectInit ⟨#[0xb1]⟩ 1 none) (List.mem_of_getElem? (i := 3) rfl)) rfl (by rw [hml]; exact hl.1) rfl dX7_init_1 (Nat.le_of_ble_eq_true rfl) (Nat.le_of_ble_eq_true rfl) ?_
  refine W.eq (g2 := F0 m 4 ls []) rfl ?_
  refine lv_aload_n hx hb dX7_init_4 rfl (lv_at hl 0 rfl) ?_
  refine va_new (ci := 6) (fs := [.null]) (C := RX6) (T := TX6) (N := 1) hx hb hts (by decide +kernel) tyX6 tyX6_ok hown (hts (.classLink RX7 13 RX6) (by decide +kernel)) (hts (.instantiable RX6 1) (by decide +kernel)) (hts (.initialized RX6) (by decide +kernel)) hK hP hD hS hA rfl (fun j hj => by rcases (show j = 0 by omega) with rfl <;> rfl) (Nat.le_of_ble_eq_true rfl) (Nat.le_of_ble_eq_true rfl) dX7_init_5 (fun q5 H hP hD hS => ?_)
  refine W.widen (k := 1) (n := 1) (Nat.le_of_ble_eq_true rfl) (Nat.le_of_ble_eq_true rfl) ?_
  have hP : va_P (dC, dI) vwCl [(h0, .inr (7, [.null, .null, .null, .int 0])), (q5, .inr (6, [.null]))] H := hP
  have hD : va_D A [(h0, .inr (7, [.null, .null, .null, .int 0])), (q5, .inr (6, [.null]))] := hD
  refine lv_dup hx hb dX7_init_8 rfl ?_
  refine lv_sipush (v := nI 4096) hx hb dX7_init_9 (by decide) ?_
  have hPc := hP.sub (ws' := [(q5, .inr (6, [.null]))]) [1] rfl
  have hDc := hD.sub (ws' := [(q5, .inr (6, [.null]))]) [1] (by decide) rfl
  have hKc := hK.sub (tys' := []) [] rfl
  have hFc := va_free (wc := [(q5, .inr (6, [.null]))]) hD hS hA [1] rfl
  refine va_callv (va_runI (As := [.int (nI 4096)]) (rest := [.ref q5, .ref h0]) ⟨hx, hb, hml, hown, hts⟩ (rf_X6_init l dC dI q5 H.size 4096 (Nat.le_of_ble_eq_true rfl) (Nat.le_of_ble_eq_true rfl)) (cwI 1 hts gX7_init_X6_init rfl rfl rfl (hts (.initialized RX6) (by decide +kernel)) (hts (.methodLink RX7 15 yX6_init) (by decide +kernel)) (hts (.instanceMethod yX6_init) (by decide +kernel)) rfl (by decide +kernel) ⟨Nat.le_of_ble_eq_true rfl, Nat.le_of_ble_eq_true rfl⟩) ⟨rf_blind, fun U hU hW => ⟨rfl, by rw [hU], by rw [hU]; exact hPc, va_K.moved hW.alike hKc, hDc.weaken (fun _ _ _ _ => trivial), rf_nz_warm hW hN⟩⟩ rfl rfl hl.1 rfl (lv_room (Nat.le_of_ble_eq_true rfl)) dX7_init_12 ⟨Nat.le_of_ble_eq_true rfl, Nat.le_of_ble_eq_true rfl⟩) hS (fun q _ h => hFc q h) hFc (fun u t H1 locs ht hvm hw hB hz1 hk1 hS => ?_)
  refine W.widen (k := 2) (n := 4097) (Nat.le_of_ble_eq_true rfl) (Nat.le_of_ble_eq_true rfl) ?_
  obtain ⟨hP1, hK1, hD1⟩ := hB
  rw [ht] at hP1
  have hK1 := va_K.moved hvm.symm hK1
  obtain ⟨r12, cA12⟩ := u
  obtain ⟨hP, hD⟩ := va_join (wr := [(h0, .inr (7, [.null, .null, .null, .int 0]))]) (w1 := [(r12, .inl (cA12, (4096, .inl (fun _ => 0))))]) hP hD [1] [0] rfl rfl (by decide) (by decide) hk1 hFc hP1 hD1
  generalize H1 = H at hP hS ⊢
  have hP : va_P (dC, dI) vwCl [(h0, .inr (7, [.null, .null, .null, .int 0])), (r12, .inl (cA12, (4096, .inl (fun _ => 0))))] H := hP
  have hD : va_D A [(h0, .inr (7, [.null, .null, .null, .int 0])), (r12, .inl (cA12, (4096, .inl (fun _ => 0))))] := hD
  refine va_putF (D := (dC, dI)) (ci := 7) (v := .ref q5) (ty := .object "EachSeesOne$Row") (C := RX7) (T := TX7) (N := 4) hx hb hts (by decide +kernel) tyX7 tyX7_ok nmX7 hown hK hP hD hS 0 rfl rfl 0 (by decide) (hts (.fieldLink RX7 18 "EachSeesOne$Tally" "notes" "LEachSeesOne$Row;") (by decide +kernel)) (fun _ h9 => h9) rfl hin rfl (by decide +kernel) rfl rfl (Nat.le_of_ble_eq_true rfl) dX7_init_15 (fun H locs hP hD hS => ?_)
  have hP : va_P (dC, dI) vwCl [(h0, .inr (7, [.ref q5, .null, .null, .int 0])), (r12, .inl (cA12, (4096, .inl (fun _ => 0))))] H := hP
  have hD : va_D A [(h0, .inr (7, [.ref q5, .null, .null, .int 0])), (r12, .inl (cA12, (4096, .inl (fun _ => 0))))] := hD
  refine lv_aload_n hx hb dX7_init_18 rfl (lv_at hl 0 rfl) ?_
  refine va_new (ci := 6) (fs := [.null]) (C := RX6) (T := TX6) (N := 1) hx hb hts (by decide +kernel) tyX6 tyX6_ok hown (hts (.classLink RX7 13 RX6) (by decide +kernel)) (hts (.instantiable RX6 1) (by decide +kernel)) (hts (.initialized RX6) (by decide +kernel)) hK hP hD hS hA rfl (fun j hj => by rcases (show j = 0 by omega) with rfl <;> rfl) (Nat.le_of_ble_eq_true rfl) (Nat.le_of_ble_eq_true rfl) dX7_init_19 (fun q19 H hP hD hS => ?_)
  refine W.widen (k := 3) (n := 4098) (Nat.le_of_ble_eq_true rfl) (Nat.le_of_ble_eq_true rfl) ?_
  have hP : va_P (dC, dI) vwCl [(h0, .inr (7, [.ref q5, .null, .null, .int 0])), (r12, .inl (cA12, (4096, .inl (fun _ => 0)))), (q19, .inr (6, [.null]))] H := hP
  have hD : va_D A [(h0, .inr (7, [.ref q5, .null, .null, .int 0])), (r12, .inl (cA12, (4096, .inl (fun _ => 0)))), (q19, .inr (6, [.null]))] := hD
  refine lv_dup hx hb dX7_init_22 rfl ?_
  refine lv_sipush (v := nI 4096) hx hb dX7_init_23 (by decide) ?_
  have hPc := hP.sub (ws' := [(q19, .inr (6, [.null]))]) [2] rfl
  have hDc := hD.sub (ws' := [(q19, .inr (6, [.null]))]) [2] (by decide) rfl
  have hKc := hK.sub (tys' := []) [] rfl
  have hFc := va_free (wc := [(q19, .inr (6, [.null]))]) hD hS hA [2] rfl
  refine va_callv (va_runI (As := [.int (nI 4096)]) (rest := [.ref q19, .ref h0]) ⟨hx, hb, hml, hown, hts⟩ (rf_X6_init l dC dI q19 H.size 4096 (Nat.le_of_ble_eq_true rfl) (Nat.le_of_ble_eq_true rfl)) (cwI 1 hts gX7_init_X6_init rfl rfl rfl (hts (.initialized RX6) (by decide +kernel)) (hts (.methodLink RX7 15 yX6_init) (by decide +kernel)) (hts (.instanceMethod yX6_init) (by decide +kernel)) rfl (by decide +kernel) ⟨Nat.le_of_ble_eq_true rfl, Nat.le_of_ble_eq_true rfl⟩) ⟨rf_blind, fun U hU hW => ⟨rfl, by rw [hU], by rw [hU]; exact hPc, va_K.moved hW.alike hKc, hDc.weaken (fun _ _ _ _ => trivial), rf_nz_warm hW hN⟩⟩ rfl rfl hl.1 rfl (lv_room (Nat.le_of_ble_eq_true rfl)) dX7_init_26 ⟨Nat.le_of_ble_eq_true rfl, Nat.le_of_ble_eq_true rfl⟩) hS (fun q _ h => hFc q h) hFc (fun u t H1 locs ht hvm hw hB hz1 hk1 hS => ?_)
  refine W.widen (k := 4) (n := 8194) (Nat.le_of_ble_eq_true rfl) (Nat.le_of_ble_eq_true rfl) ?_
  obtain ⟨hP1, hK1, hD1⟩ := hB
  rw [ht] at hP1
  have hK1 := va_K.moved hvm.symm hK1
  have hP1 := hP1.sub (ws' := []) [] rfl
  have hD1 := hD1.sub (ws' := []) [] (by decide) rfl
  obtain ⟨hP, hD⟩ := va_join (wr := [(h0, .inr (7, [.ref q5, .null, .null, .int 0])), (r12, .inl (cA12, (4096, .inl (fun _ => 0))))]) (w1 := []) hP hD [2] [0, 1] rfl rfl (by decide) (by decide) hk1 hFc hP1 hD1
  generalize H1 = H at hP hS ⊢
  have hP : va_P (dC, dI) vwCl [(h0, .inr (7, [.ref q5, .null, .null, .int 0])), (r12, .inl (cA12, (4096, .inl (fun _ => 0))))] H := hP
  have hD : va_D A [(h0, .inr (7, [.ref q5, .null, .null, .int 0])), (r12, .inl (cA12, (4096, .inl (fun _ => 0))))] := hD
  refine va_putF (D := (dC, dI)) (ci := 7) (v := .ref q19) (ty := .object "EachSeesOne$Row") (C := RX7) (T := TX7) (N := 4) hx hb hts (by decide +kernel) tyX7 tyX7_ok nmX7 hown hK hP hD hS 0 rfl rfl 1 (by decide) (hts (.fieldLink RX7 22 "EachSeesOne$Tally" "path" "LEachSeesOne$Row;") (by decide +kernel)) (fun _ h9 => h9) rfl hin rfl (by decide +kernel) rfl rfl (Nat.le_of_ble_eq_true rfl) dX7_init_29 (fun H locs hP hD hS => ?_)
  have hP : va_P (dC, dI) vwCl [(h0, .inr (7, [.ref q5, .ref q19, .null, .int 0])), (r12, .inl (cA12, (4096, .inl (fun _ => 0))))] H := hP
  have hD : va_D A [(h0, .inr (7, [.ref q5, .ref q19, .null, .int 0])), (r12, .inl (cA12, (4096, .inl (fun _ => 0))))] := hD
  refine lv_aload_n hx hb dX7_init_32 rfl (lv_at hl 0 rfl) ?_
  refine va_new (ci := 0) (fs := [.int 0, .int 0, .int 0, .int 0, .int 0]) (C := RX0) (T := TX0) (N := 5) hx hb hts (by decide +kernel) tyX0 tyX0_ok hown (hts (.classLink RX7 25 RX0) (by decide +kernel)) (hts (.instantiable RX0 5) (by decide +kernel)) (hts (.initialized RX0) (by decide +kernel)) hK hP hD hS hA rfl (fun j hj => by rcases (show j = 0 ∨ j = 1 ∨ j = 2 ∨ j = 3 ∨ j = 4 by omega) with rfl | rfl | rfl | rfl | rfl <;> rfl) (Nat.le_of_ble_eq_true rfl) (Nat.le_of_ble_eq_true rfl) dX7_init_33 (fun q33 H hP hD hS => ?_)
  refine W.widen (k := 5) (n := 8199) (Nat.le_of_ble_eq_true rfl) (Nat.le_of_ble_eq_true rfl) ?_
  have hP : va_P (dC, dI) vwCl [(h0, .inr (7, [.ref q5, .ref q19, .null, .int 0])), (r12, .inl (cA12, (4096, .inl (fun _ => 0)))), (q33, .inr (0, [.int 0, .int 0, .int 0, .int 0, .int 0]))] H := hP
  have hD : va_D A [(h0, .inr (7, [.ref q5, .ref q19, .null, .int 0])), (r12, .inl (cA12, (4096, .inl (fun _ => 0)))), (q33, .inr (0, [.int 0, .int 0, .int 0, .int 0, .int 0]))] := hD
  refine lv_dup hx hb dX7_init_36 rfl ?_
  have hPc := hP.sub (ws' := [(q33, .inr (0, [.int 0, .int 0, .int 0, .int 0, .int 0]))]) [2] rfl
  have hDc := hD.sub (ws' := [(q33, .inr (0, [.int 0, .int 0, .int 0, .int 0, .int 0]))]) [2] (by decide) rfl
  have hKc := hK.sub (tys' := []) [] rfl
  have hFc := va_free (wc := [(q33, .inr (0, [.int 0, .int 0, .int 0, .int 0, .int 0]))]) hD hS hA [2] rfl
  refine va_callv (va_runIN (As := []) (rest := [.ref q33, .ref h0]) ⟨hx, hb, hml, hown, hts⟩ (rf_X0_init l dC dI q33 H.size) ⟨va_cnB (own := RX7) (host := RX11) (index := 27) 0 hts gX7_init_X0_init_n27 rfl rfl rfl (hN _ (by decide +kernel)) (hts (.initialized RX0) (by decide +kernel)) (by decide +kernel) ⟨Nat.le_of_ble_eq_true rfl, Nat.le_of_ble_eq_true rfl⟩, rfl, hts (.instanceMethod yX0_init) (by decide +kernel)⟩ ⟨rf_blind, fun U hU hW => ⟨rfl, by rw [hU], by rw [hU]; exact hPc, va_K.moved hW.alike hKc, hDc.weaken (fun _ _ _ _ => trivial), rf_nz_warm hW hN⟩⟩ rfl rfl hl.1 rfl (lv_room (Nat.le_of_ble_eq_true rfl)) dX7_init_37 ⟨Nat.le_of_ble_eq_true rfl, Nat.le_of_ble_eq_true rfl⟩) hS (fun q _ h => hFc q h) hFc (fun u t H1 locs ht hvm hw hB hz1 hk1 hS => ?_)
  refine W.widen (k := 5) (n := 8199) (Nat.le_of_ble_eq_true rfl) (Nat.le_of_ble_eq_true rfl) ?_
  obtain ⟨hP1, hK1, hD1⟩ := hB
  rw [ht] at hP1
  have hK1 := va_K.moved hvm.symm hK1
  have hP1 := hP1.sub (ws' := []) [] rfl
  have hD1 := hD1.sub (ws' := []) [] (by decide) rfl
  obtain ⟨hP, hD⟩ := va_join (wr := [(h0, .inr (7, [.ref q5, .ref q19, .null, .int 0])), (r12, .inl (cA12, (4096, .inl (fun _ => 0))))]) (w1 := []) hP hD [2] [0, 1] rfl rfl (by decide) (by decide) hk1 hFc hP1 hD1
  generalize H1 = H at hP hS ⊢
  have hP : va_P (dC, dI) vwCl [(h0, .inr (7, [.ref q5, .ref q19, .null, .int 0])), (r12, .inl (cA12, (4096, .inl (fun _ => 0))))] H := hP
  have hD : va_D A [(h0, .inr (7, [.ref q5, .ref q19, .null, .int 0])), (r12, .inl (cA12, (4096, .inl (fun _ => 0))))] := hD
  refine va_putF (D := (dC, dI)) (ci := 7) (v := .ref q33) (ty := .object "EachSeesOne$Boat") (C := RX7) (T := TX7) (N := 4) hx hb hts (by decide +kernel) tyX7 tyX7_ok nmX7 hown hK hP hD hS 0 rfl rfl 2 (by decide) (hts (.fieldLink RX7 28 "EachSeesOne$Tally" "boat" "LEachSeesOne$Boat;") (by decide +kernel)) (fun _ h9 => h9) rfl hin rfl (by decide +kernel) rfl rfl (Nat.le_of_ble_eq_true rfl) dX7_init_40 (fun H locs hP hD hS => ?_)
  have hP : va_P (dC, dI) vwCl [(h0, .inr (7, [.ref q5, .ref q19, .ref q33, .int 0])), (r12, .inl (cA12, (4096, .inl (fun _ => 0))))] H := hP
  have hD : va_D A [(h0, .inr (7, [.ref q5, .ref q19, .ref q33, .int 0])), (r12, .inl (cA12, (4096, .inl (fun _ => 0))))] := hD
  have hP9 := hP.sub (ws' := [(r12, .inl (cA12, (4096, .inl (fun _ => 0))))]) [1] rfl
  have hD9 := hD.sub (ws' := [(r12, .inl (cA12, (4096, .inl (fun _ => 0))))]) [1] (by decide) rfl
  have hK9 := hK.sub (tys' := []) [] rfl
  exact W.vret hx hb hr (fun t ht hW => ⟨⟨(r12, cA12), rfl, trivial, by rw [ht]; exact hP9, va_K.moved hW.alike hK9, hD9⟩, hS.F ht⟩) hS.2.2 dX7_init_43
set_option maxHeartbeats 4000000 in
set_option maxRecDepth 100000 in
theorem rf_X2_init (l : Launch) (dC : Nat → ClassId) (dI : Nat → Nat → Nat) (h0 sz a1 a2 : Nat) : Met l yX2_init wsX2_init ({ frames := 3, cells := 9, slots := 8215, locals := 53 }) (va_Pc [.ref h0, .ref a1, .ref a2] (fun U => U.heap.size = sz ∧ va_P (dC, dI) vwCl [(h0, .inr (2, [.null, .null, .null, .null, .int 0, .int 0, .int 0, .int 0, .int 0]))] U.heap ∧ va_K (dC, dI) vwCl [] U ∧ va_D (fun _ => True) [(h0, .inr (2, [.null, .null, .null, .null, .int 0, .int 0, .int 0, .int 0, .int 0]))] ∧ rf_nz U)) (va_Qv (fun _ : Nat × ClassId => True) (fun u t => va_P (dC, dI) vwCl [(u.1, .inl (u.2, (4096, .inl (fun _ => 0))))] t.heap ∧ va_K (dC, dI) vwCl [] t ∧ va_D (va_A [(h0, .inr (2, [.null, .null, .null, .null, .int 0, .int 0, .int 0, .int 0, .int 0]))] sz) [(u.1, .inl (u.2, (4096, .inl (fun _ => 0))))]) (va_A [(h0, .inr (2, [.null, .null, .null, .null, .int 0, .int 0, .int 0, .int 0, .int 0]))] sz)) 9 8215 (va_A [(h0, .inr (2, [.null, .null, .null, .null, .int 0, .int 0, .int 0, .int 0, .int 0]))] sz) := by
  refine Met.ofW (cc := cX2_init) (maxL := 3) (ret := none) (by decide) rfl ?_
  intro p e s m args below meth c s₁ B hml hv
  obtain ⟨rfl, hsz, hP, hK, hD0, hN⟩ := hv
  have hx := B.exec
  have hb := B.bytes
  have hr := B.returns
  have hts := atoms_spec (ws := wsX2_init) B.pre
  have hown : s.vm.findClass RX2 = some m.cls := findClass_of_methodNamed B.named
  have hlocks := B.notSynchronized
  have hin : meth.name = "<init>" := (name_of_methodNamed B.named B.method).1
  subst hsz
  have hD := hD0.self (sz := s.heap.size)
  generalize hAe : va_A [(h0, .inr (2, [.null, .null, .null, .null, .int 0, .int 0, .int 0, .int 0, .int 0]))] s.heap.size = A at hD ⊢
  have hA : ∀ q : Nat, s.heap.size ≤ q → A q := fun q h => by rw [← hAe]; exact Or.inr h
  have hS : va_S A s.heap s.heap [] := va_S.rf
  have hP : va_P (dC, dI) vwCl [(h0, .inr (2, [.null, .null, .null, .null, .int 0, .int 0, .int 0, .int 0, .int 0]))] s.heap := hP
  have hl := lv_entry ([.ref h0, .ref a1, .ref a2]) (n := 3) (Nat.le_of_ble_eq_true rfl)
  rw [lg_entry_eq]
  generalize (lg_sl ([.ref h0, .ref a1, .ref a2]) ++ List.replicate (3 - (lg_sl ([.ref h0, .ref a1, .ref a2])).length) Slot.unset).toArray = ls at hl ⊢
  have hl : lv_has ls 3 [(0, .ref h0), (1, .ref a1), (2, .ref a2)] := hl
  refine lv_aload_n hx hb dX2_init_0 rfl (lv_at hl 0 rfl) ?_
  refine W.objInit hx hb hown (hts (.methodLink RX2 3 objectInit) (by decide +kernel)) (hts (.instanceMethod objectInit) (by decide +kernel)) (hts (.code objectInit ⟨#[0xb1]⟩ 1 none) (List.mem_of_getElem? (i := 3) rfl)) rfl (by rw [hml]; exact hl.1) rfl dX2_init_1 (Nat.le_of_ble_eq_true rfl) (Nat.le_of_ble_eq_true rfl) ?_
  refine W.eq (g2 := F0 m 4 ls []) rfl ?_
  refine lv_aload_n hx hb dX2_init_4 rfl (lv_at hl 0 rfl) ?_
  refine va_new (ci := 1) (fs := [.null, .int 0, .int 0, .int 0, .int 0, .int 0, .int 0]) (C := RX1) (T := TX1) (N := 7) hx hb hts (by decide +kernel) tyX1 tyX1_ok hown (hts (.classLink RX2 9 RX1) (by decide +kernel)) (hts (.instantiable RX1 7) (by decide +kernel)) (hts (.initialized RX1) (by decide +kernel)) hK hP hD hS hA rfl (fun j hj => by rcases (show j = 0 ∨ j = 1 ∨ j = 2 ∨ j = 3 ∨ j = 4 ∨ j = 5 ∨ j = 6 by omega) with rfl | rfl | rfl | rfl | rfl | rfl | rfl <;> rfl) (Nat.le_of_ble_eq_true rfl) (Nat.le_of_ble_eq_true rfl) dX2_init_5 (fun q5 H hP hD hS => ?_)
  refine W.widen (k := 1) (n := 7) (Nat.le_of_ble_eq_true rfl) (Nat.le_of_ble_eq_true rfl) ?_
  have hP : va_P (dC, dI) vwCl [(h0, .inr (2, [.null, .null, .null, .null, .int 0, .int 0, .int 0, .int 0, .int 0])), (q5, .inr (1, [.null, .int 0, .int 0, .int 0, .int 0, .int 0, .int 0]))] H := hP
  have hD : va_D A [(h0, .inr (2, [.null, .null, .null, .null, .int 0, .int 0, .int 0, .int 0, .int 0])), (q5, .inr (1, [.null, .int 0, .int 0, .int 0, .int 0, .int 0, .int 0]))] := hD
  refine lv_dup hx hb dX2_init_8 rfl ?_
  have hPc := hP.sub (ws' := [(q5, .inr (1, [.null, .int 0, .int 0, .int 0, .int 0, .int 0, .int 0]))]) [1] rfl
  have hDc := hD.sub (ws' := [(q5, .inr (1, [.null, .int 0, .int 0, .int 0, .int 0, .int 0, .int 0]))]) [1] (by decide) rfl
  have hKc := hK.sub (tys' := []) [] rfl
  have hFc := va_free (wc := [(q5, .inr (1, [.null, .int 0, .int 0, .int 0, .int 0, .int 0, .int 0]))]) hD hS hA [1] rfl
  refine va_callv (va_runIN (As := []) (rest := [.ref q5, .ref h0]) ⟨hx, hb, hml, hown, hts⟩ (rf_X1_init l dC dI q5 H.size) ⟨va_cnB (own := RX2) (host := RX11) (index := 11) 0 hts gX2_init_X1_init_n11 rfl rfl rfl (hN _ (by decide +kernel)) (hts (.initialized RX1) (by decide +kernel)) (by decide +kernel) ⟨Nat.le_of_ble_eq_true rfl, Nat.le_of_ble_eq_true rfl⟩, rfl, hts (.instanceMethod yX1_init) (by decide +kernel)⟩ ⟨rf_blind, fun U hU hW => ⟨rfl, by rw [hU], by rw [hU]; exact hPc, va_K.moved hW.alike hKc, hDc.weaken (fun _ _ _ _ => trivial), rf_nz_warm hW hN⟩⟩ rfl rfl hl.1 rfl (lv_room (Nat.le_of_ble_eq_true rfl)) dX2_init_9 ⟨Nat.le_of_ble_eq_true rfl, Nat.le_of_ble_eq_true rfl⟩) hS (fun q _ h => hFc q h) hFc (fun u t H1 locs ht hvm hw hB hz1 hk1 hS => ?_)
  refine W.widen (k := 3) (n := 12) (Nat.le_of_ble_eq_true rfl) (Nat.le_of_ble_eq_true rfl) ?_
  obtain ⟨hP1, hK1, hD1⟩ := hB
  rw [ht] at hP1
  have hK1 := va_K.moved hvm.symm hK1
  have hP1 := hP1.sub (ws' := []) [] rfl
  have hD1 := hD1.sub (ws' := []) [] (by decide) rfl
  obtain ⟨hP, hD⟩ := va_join (wr := [(h0, .inr (2, [.null, .null, .null, .null, .int 0, .int 0, .int 0, .int 0, .int 0]))]) (w1 := []) hP hD [1] [0] rfl rfl (by decide) (by decide) hk1 hFc hP1 hD1
  generalize H1 = H at hP hS ⊢
  have hP : va_P (dC, dI) vwCl [(h0, .inr (2, [.null, .null, .null, .null, .int 0, .int 0, .int 0, .int 0, .int 0]))] H := hP
  have hD : va_D A [(h0, .inr (2, [.null, .null, .null, .null, .int 0, .int 0, .int 0, .int 0, .int 0]))] := hD
  refine va_putF (D := (dC, dI)) (ci := 2) (v := .ref q5) (ty := .object "EachSeesOne$Crew") (C := RX2) (T := TX2) (N := 9) hx hb hts (by decide +kernel) tyX2 tyX2_ok nmX2 hown hK hP hD hS 0 rfl rfl 2 (by decide) (hts (.fieldLink RX2 12 "EachSeesOne$Inquiry" "tried" "LEachSeesOne$Crew;") (by decide +kernel)) (fun _ h9 => h9) rfl hin rfl (by decide +kernel) rfl rfl (Nat.le_of_ble_eq_true rfl) dX2_init_12 (fun H locs hP hD hS => ?_)
  have hP : va_P (dC, dI) vwCl [(h0, .inr (2, [.null, .null, .ref q5, .null, .int 0, .int 0, .int 0, .int 0, .int 0]))] H := hP
  have hD : va_D A [(h0, .inr (2, [.null, .null, .ref q5, .null, .int 0, .int 0, .int 0, .int 0, .int 0]))] := hD
  refine lv_aload_n hx hb dX2_init_15 rfl (lv_at hl 0 rfl) ?_
  refine va_new (ci := 7) (fs := [.null, .null, .null, .int 0]) (C := RX7) (T := TX7) (N := 4) hx hb hts (by decide +kernel) tyX7 tyX7_ok hown (hts (.classLink RX2 18 RX7) (by decide +kernel)) (hts (.instantiable RX7 4) (by decide +kernel)) (hts (.initialized RX7) (by decide +kernel)) hK hP hD hS hA rfl (fun j hj => by rcases (show j = 0 ∨ j = 1 ∨ j = 2 ∨ j = 3 by omega) with rfl | rfl | rfl | rfl <;> rfl) (Nat.le_of_ble_eq_true rfl) (Nat.le_of_ble_eq_true rfl) dX2_init_16 (fun q16 H hP hD hS => ?_)
  refine W.widen (k := 4) (n := 16) (Nat.le_of_ble_eq_true rfl) (Nat.le_of_ble_eq_true rfl) ?_
  have hP : va_P (dC, dI) vwCl [(h0, .inr (2, [.null, .null, .ref q5, .null, .int 0, .int 0, .int 0, .int 0, .int 0])), (q16, .inr (7, [.null, .null, .null, .int 0]))] H := hP
  have hD : va_D A [(h0, .inr (2, [.null, .null, .ref q5, .null, .int 0, .int 0, .int 0, .int 0, .int 0])), (q16, .inr (7, [.null, .null, .null, .int 0]))] := hD
  refine lv_dup hx hb dX2_init_19 rfl ?_
  have hPc := hP.sub (ws' := [(q16, .inr (7, [.null, .null, .null, .int 0]))]) [1] rfl
  have hDc := hD.sub (ws' := [(q16, .inr (7, [.null, .null, .null, .int 0]))]) [1] (by decide) rfl
  have hKc := hK.sub (tys' := []) [] rfl
  have hFc := va_free (wc := [(q16, .inr (7, [.null, .null, .null, .int 0]))]) hD hS hA [1] rfl
  refine va_callv (va_runIN (As := []) (rest := [.ref q16, .ref h0]) ⟨hx, hb, hml, hown, hts⟩ (rf_X7_init l dC dI q16 H.size) ⟨va_cnB (own := RX2) (host := RX11) (index := 20) 0 hts gX2_init_X7_init_n20 rfl rfl rfl (hN _ (by decide +kernel)) (hts (.initialized RX7) (by decide +kernel)) (by decide +kernel) ⟨Nat.le_of_ble_eq_true rfl, Nat.le_of_ble_eq_true rfl⟩, rfl, hts (.instanceMethod yX7_init) (by decide +kernel)⟩ ⟨rf_blind, fun U hU hW => ⟨rfl, by rw [hU], by rw [hU]; exact hPc, va_K.moved hW.alike hKc, hDc.weaken (fun _ _ _ _ => trivial), rf_nz_warm hW hN⟩⟩ rfl rfl hl.1 rfl (lv_room (Nat.le_of_ble_eq_true rfl)) dX2_init_20 ⟨Nat.le_of_ble_eq_true rfl, Nat.le_of_ble_eq_true rfl⟩) hS (fun q _ h => hFc q h) hFc (fun u t H1 locs ht hvm hw hB hz1 hk1 hS => ?_)
  refine W.widen (k := 9) (n := 8215) (Nat.le_of_ble_eq_true rfl) (Nat.le_of_ble_eq_true rfl) ?_
  obtain ⟨hP1, hK1, hD1⟩ := hB
  rw [ht] at hP1
  have hK1 := va_K.moved hvm.symm hK1
  obtain ⟨r20, cA20⟩ := u
  obtain ⟨hP, hD⟩ := va_join (wr := [(h0, .inr (2, [.null, .null, .ref q5, .null, .int 0, .int 0, .int 0, .int 0, .int 0]))]) (w1 := [(r20, .inl (cA20, (4096, .inl (fun _ => 0))))]) hP hD [1] [0] rfl rfl (by decide) (by decide) hk1 hFc hP1 hD1
  generalize H1 = H at hP hS ⊢
  have hP : va_P (dC, dI) vwCl [(h0, .inr (2, [.null, .null, .ref q5, .null, .int 0, .int 0, .int 0, .int 0, .int 0])), (r20, .inl (cA20, (4096, .inl (fun _ => 0))))] H := hP
  have hD : va_D A [(h0, .inr (2, [.null, .null, .ref q5, .null, .int 0, .int 0, .int 0, .int 0, .int 0])), (r20, .inl (cA20, (4096, .inl (fun _ => 0))))] := hD
  refine va_putF (D := (dC, dI)) (ci := 2) (v := .ref q16) (ty := .object "EachSeesOne$Tally") (C := RX2) (T := TX2) (N := 9) hx hb hts (by decide +kernel) tyX2 tyX2_ok nmX2 hown hK hP hD hS 0 rfl rfl 3 (by decide) (hts (.fieldLink RX2 21 "EachSeesOne$Inquiry" "tally" "LEachSeesOne$Tally;") (by decide +kernel)) (fun _ h9 => h9) rfl hin rfl (by decide +kernel) rfl rfl (Nat.le_of_ble_eq_true rfl) dX2_init_23 (fun H locs hP hD hS => ?_)
  have hP : va_P (dC, dI) vwCl [(h0, .inr (2, [.null, .null, .ref q5, .ref q16, .int 0, .int 0, .int 0, .int 0, .int 0])), (r20, .inl (cA20, (4096, .inl (fun _ => 0))))] H := hP
  have hD : va_D A [(h0, .inr (2, [.null, .null, .ref q5, .ref q16, .int 0, .int 0, .int 0, .int 0, .int 0])), (r20, .inl (cA20, (4096, .inl (fun _ => 0))))] := hD
  refine lv_aload_n hx hb dX2_init_26 rfl (lv_at hl 0 rfl) ?_
  refine lv_aload_n hx hb dX2_init_27 rfl (lv_at hl 1 rfl) ?_
  refine va_putF (D := (dC, dI)) (ci := 2) (v := .ref a1) (ty := .object "EachSeesOne$Water") (C := RX2) (T := TX2) (N := 9) hx hb hts (by decide +kernel) tyX2 tyX2_ok nmX2 hown hK hP hD hS 0 rfl rfl 0 (by decide) (hts (.fieldLink RX2 25 "EachSeesOne$Inquiry" "water" "LEachSeesOne$Water;") (by decide +kernel)) (fun _ h9 => h9) rfl hin rfl (by decide +kernel) rfl rfl (Nat.le_of_ble_eq_true rfl) dX2_init_28 (fun H locs hP hD hS => ?_)
  have hP : va_P (dC, dI) vwCl [(h0, .inr (2, [.ref a1, .null, .ref q5, .ref q16, .int 0, .int 0, .int 0, .int 0, .int 0])), (r20, .inl (cA20, (4096, .inl (fun _ => 0))))] H := hP
  have hD : va_D A [(h0, .inr (2, [.ref a1, .null, .ref q5, .ref q16, .int 0, .int 0, .int 0, .int 0, .int 0])), (r20, .inl (cA20, (4096, .inl (fun _ => 0))))] := hD
  refine lv_aload_n hx hb dX2_init_31 rfl (lv_at hl 0 rfl) ?_
  refine lv_aload_n hx hb dX2_init_32 rfl (lv_at hl 2 rfl) ?_
  refine va_putF (D := (dC, dI)) (ci := 2) (v := .ref a2) (ty := .object "EachSeesOne$Crew") (C := RX2) (T := TX2) (N := 9) hx hb hts (by decide +kernel) tyX2 tyX2_ok nmX2 hown hK hP hD hS 0 rfl rfl 1 (by decide) (hts (.fieldLink RX2 29 "EachSeesOne$Inquiry" "crew" "LEachSeesOne$Crew;") (by decide +kernel)) (fun _ h9 => h9) rfl hin rfl (by decide +kernel) rfl rfl (Nat.le_of_ble_eq_true rfl) dX2_init_33 (fun H locs hP hD hS => ?_)
  have hP : va_P (dC, dI) vwCl [(h0, .inr (2, [.ref a1, .ref a2, .ref q5, .ref q16, .int 0, .int 0, .int 0, .int 0, .int 0])), (r20, .inl (cA20, (4096, .inl (fun _ => 0))))] H := hP
  have hD : va_D A [(h0, .inr (2, [.ref a1, .ref a2, .ref q5, .ref q16, .int 0, .int 0, .int 0, .int 0, .int 0])), (r20, .inl (cA20, (4096, .inl (fun _ => 0))))] := hD
  have hP9 := hP.sub (ws' := [(r20, .inl (cA20, (4096, .inl (fun _ => 0))))]) [1] rfl
  have hD9 := hD.sub (ws' := [(r20, .inl (cA20, (4096, .inl (fun _ => 0))))]) [1] (by decide) rfl
  have hK9 := hK.sub (tys' := []) [] rfl
  exact W.vret hx hb hr (fun t ht hW => ⟨⟨(r20, cA20), rfl, trivial, by rw [ht]; exact hP9, va_K.moved hW.alike hK9, hD9⟩, hS.F ht⟩) hS.2.2 dX2_init_36
end
section
/-! THE ROOM, 3: into EachSeesOne(), up to behind its Inquiry: an array of 4096 is new; so the Statement's room can't hold. -/
def rf_room : Jvm.Room := ({ frames := 12, cells := 68, slots := 9500, locals := 472 } : Jvm.Room)
/-- still within the invocation, and 4096 slots more in use -/
def rf_G (below : List Frame) (n : Nat) (t : State) : Prop := Within t below ∧ n + 4096 ≤ t.slotsUsed
theorem rf_reach {p : Program} {l : Launch} {e : Env} {R : Room} {s : State} {m : MethodId} {args : Array Value} {below : List Frame} {meth : Method} {c : Code} {H : Heap} {locs : List Loc} {cells slots q : Nat} {cell : Cell} {n : Nat} (hn : n ≤ s.slotsUsed) {mid below' : List Frame} (hbel : below = mid ++ below') (hq : s.heap.size ≤ q) (hc : H[q]? = some cell) (hs : cell.slots.size = 4096) {g : JFrame} : W p l e R s m args below meth c H locs cells slots (rf_G below' n) g := by
  intro T hT X
  refine ⟨T.setTop g, Steps.refl _, ?_, ?_⟩
  · have h := At.within X.here g
    rw [hbel] at h
    exact h.weaken
  · have h4 : T.slotsUsed = s.slotsUsed + ((T.heap.toList.drop s.heap.size).map (·.slots.size)).sum := X.same.2.2.2.1
    have h5 := rf_sum (H := T.heap) hq (by rw [hT]; exact hc) hs
    show n + 4096 ≤ T.slotsUsed
    rw [h4]
    exact Nat.add_le_add hn h5
theorem rf_sz (cA : ClassId) (n : Nat) (f : Nat → Int32) : (vp_cell cA (n, .inl f)).slots.size = n := by
  rw [vp_cell_i]
  exact arrV_size _ _ _
set_option maxHeartbeats 4000000 in
set_option maxRecDepth 100000 in
theorem rf_x {p : Program} {l : Launch} {e : Env} {s : State} {m : MethodId} {below : List Frame} {meth : Method} {c : Code} {s₁ : State} (dC : Nat → ClassId) (dI : Nat → Nat → Nat) (h0 : Nat) (B : BodyLoose p l yX11_init (headSpec wsX11_init ({ frames := 4, cells := 38, slots := 9413, locals := 75 })) cX11_init 1 none e s m (Value.ref h0 :: []).toArray below meth c s₁) (hml : c.maxLocals = 1) {mid below' : List Frame} (hbel : below = mid ++ below') (n : Nat) (hn : n ≤ s.slotsUsed) (hP : va_P (dC, dI) vwCl [(h0, .inr (11, [.null, .null, .null, .null, .null, .null, .null, .null, .null, .null, .null, .int 0, .int 0]))] s.heap) (hK : va_K (dC, dI) vwCl [] s) (hD0 : va_D (fun _ => True) [(h0, .inr (11, [.null, .null, .null, .null, .null, .null, .null, .null, .null, .null, .null, .int 0, .int 0]))]) (hN : rf_nz s) : W p l e ((headSpec wsX11_init ({ frames := 4, cells := 38, slots := 9413, locals := 75 })).room) s m (Value.ref h0 :: []).toArray below meth c s.heap [] 0 0 (rf_G below' n) (entryFrame m (Value.ref h0 :: []).toArray 1) := by
  have hx := B.exec
  have hb := B.bytes
  have hr := B.returns
  have hts := atoms_spec (ws := wsX11_init) B.pre
  have hown : s.vm.findClass RX11 = some m.cls := findClass_of_methodNamed B.named
  have hlocks := B.notSynchronized
  have hin : meth.name = "<init>" := (name_of_methodNamed B.named B.method).1
  have hD := hD0.self (sz := s.heap.size)
  generalize hAe : va_A [(h0, .inr (11, [.null, .null, .null, .null, .null, .null, .null, .null, .null, .null, .null, .int 0, .int 0]))] s.heap.size = A at hD ⊢
  have hA : ∀ q : Nat, s.heap.size ≤ q → A q := fun q h => by rw [← hAe]; exact Or.inr h
  have hS : va_S A s.heap s.heap [] := va_S.rf
  have hP : va_P (dC, dI) vwCl [(h0, .inr (11, [.null, .null, .null, .null, .null, .null, .null, .null, .null, .null, .null, .int 0, .int 0]))] s.heap := hP
  have hl := lv_entry ([.ref h0]) (n := 1) (Nat.le_of_ble_eq_true rfl)
  rw [lg_entry_eq]
  generalize (lg_sl ([.ref h0]) ++ List.replicate (1 - (lg_sl ([.ref h0])).length) Slot.unset).toArray = ls at hl ⊢
  have hl : lv_has ls 1 [(0, .ref h0)] := hl
  refine lv_aload_n hx hb dX11_init_0 rfl (lv_at hl 0 rfl) ?_
  refine W.objInit hx hb hown (hts (.methodLink RX11 1 objectInit) (mR_wsR_own _ (List.mem_of_getElem? (i := 0) rfl))) (hts (.instanceMethod objectInit) (mR_wsR_own _ (List.mem_of_getElem? (i := 1) rfl))) (hts (.code objectInit ⟨#[0xb1]⟩ 1 none) (List.mem_of_getElem? (i := 3) rfl)) rfl (by rw [hml]; exact hl.1) rfl dX11_init_1 (Nat.le_of_ble_eq_true rfl) (Nat.le_of_ble_eq_true rfl) ?_
  refine W.eq (g2 := F0 m 4 ls []) rfl ?_
  refine lv_aload_n hx hb dX11_init_4 rfl (lv_at hl 0 rfl) ?_
  refine va_new (ci := 8) (fs := [.null, .int 0]) (C := RX8) (T := TX8) (N := 2) hx hb hts mR_wsX80 tyX8 tyX8_ok hown (hts (.classLink RX11 7 RX8) (mR_wsR_own _ (List.mem_of_getElem? (i := 3) rfl))) (hts (.instantiable RX8 2) (mR_wsR_own _ (List.mem_of_getElem? (i := 4) rfl))) (hts (.initialized RX8) (mR_wsR_own _ (List.mem_of_getElem? (i := 5) rfl))) hK hP hD hS hA rfl (fun j hj => by rcases (show j = 0 ∨ j = 1 by omega) with rfl | rfl <;> rfl) (Nat.le_of_ble_eq_true rfl) (Nat.le_of_ble_eq_true rfl) dX11_init_5 (fun q5 H hP hD hS => ?_)
  refine W.widen (k := 1) (n := 2) (Nat.le_of_ble_eq_true rfl) (Nat.le_of_ble_eq_true rfl) ?_
  have hP : va_P (dC, dI) vwCl [(h0, .inr (11, [.null, .null, .null, .null, .null, .null, .null, .null, .null, .null, .null, .int 0, .int 0])), (q5, .inr (8, [.null, .int 0]))] H := hP
  have hD : va_D A [(h0, .inr (11, [.null, .null, .null, .null, .null, .null, .null, .null, .null, .null, .null, .int 0, .int 0])), (q5, .inr (8, [.null, .int 0]))] := hD
  refine lv_dup hx hb dX11_init_8 rfl ?_
  have hPc := hP.sub (ws' := [(q5, .inr (8, [.null, .int 0]))]) [1] rfl
  have hDc := hD.sub (ws' := [(q5, .inr (8, [.null, .int 0]))]) [1] (by decide) rfl
  have hKc := hK.sub (tys' := []) [] rfl
  have hFc := va_free (wc := [(q5, .inr (8, [.null, .int 0]))]) hD hS hA [1] rfl
  refine va_callv (va_runIN (As := []) (rest := [.ref q5, .ref h0]) ⟨hx, hb, hml, hown, hts⟩ (rf_X8_init l dC dI q5 H.size) ⟨va_cnB (own := RX11) (host := RX11) (index := 9) 0 hts gX11_init_X8_init_n9 rfl rfl rfl (hN _ (by decide +kernel)) (hts (.initialized RX8) (mR_wsR_own _ (List.mem_of_getElem? (i := 5) rfl))) (by decide +kernel) ⟨Nat.le_of_ble_eq_true rfl, Nat.le_of_ble_eq_true rfl⟩, rfl, hts (.instanceMethod yX8_init) (mR_wsR_own _ (List.mem_of_getElem? (i := 44) rfl))⟩ ⟨rf_blind, fun U hU hW => ⟨rfl, by rw [hU], by rw [hU]; exact hPc, va_K.moved hW.alike hKc, hDc.weaken (fun _ _ _ _ => trivial), rf_nz_warm hW hN⟩⟩ rfl rfl hl.1 rfl (lv_room (Nat.le_of_ble_eq_true rfl)) dX11_init_9 ⟨Nat.le_of_ble_eq_true rfl, Nat.le_of_ble_eq_true rfl⟩) hS (fun q _ h => hFc q h) hFc (fun u t H1 locs ht hvm hw hB hz1 hk1 hS => ?_)
  refine W.widen (k := 3) (n := 403) (Nat.le_of_ble_eq_true rfl) (Nat.le_of_ble_eq_true rfl) ?_
  obtain ⟨hP1, hK1, hD1⟩ := hB
  rw [ht] at hP1
  have hK1 := va_K.moved hvm.symm hK1
  have hP1 := hP1.sub (ws' := []) [] rfl
  have hD1 := hD1.sub (ws' := []) [] (by decide) rfl
  obtain ⟨hP, hD⟩ := va_join (wr := [(h0, .inr (11, [.null, .null, .null, .null, .null, .null, .null, .null, .null, .null, .null, .int 0, .int 0]))]) (w1 := []) hP hD [1] [0] rfl rfl (by decide) (by decide) hk1 hFc hP1 hD1
  generalize H1 = H at hP hS ⊢
  have hP : va_P (dC, dI) vwCl [(h0, .inr (11, [.null, .null, .null, .null, .null, .null, .null, .null, .null, .null, .null, .int 0, .int 0]))] H := hP
  have hD : va_D A [(h0, .inr (11, [.null, .null, .null, .null, .null, .null, .null, .null, .null, .null, .null, .int 0, .int 0]))] := hD
  refine va_putF (D := (dC, dI)) (ci := 11) (v := .ref q5) (ty := .object "EachSeesOne$Text") (C := RX11) (T := TX11) (N := 13) hx hb hts mR_wsX110 tyX11 tyX11_ok nmX11 hown hK hP hD hS 0 rfl rfl 0 (by decide) (hts (.fieldLink RX11 10 "EachSeesOne" "text" "LEachSeesOne$Text;") (mR_wsR_own _ (List.mem_of_getElem? (i := 33) rfl))) (fun _ h9 => h9) rfl hin rfl (by decide +kernel) rfl rfl (Nat.le_of_ble_eq_true rfl) dX11_init_12 (fun H locs hP hD hS => ?_)
  have hP : va_P (dC, dI) vwCl [(h0, .inr (11, [.ref q5, .null, .null, .null, .null, .null, .null, .null, .null, .null, .null, .int 0, .int 0]))] H := hP
  have hD : va_D A [(h0, .inr (11, [.ref q5, .null, .null, .null, .null, .null, .null, .null, .null, .null, .null, .int 0, .int 0]))] := hD
  refine lv_aload_n hx hb dX11_init_15 rfl (lv_at hl 0 rfl) ?_
  refine va_new (ci := 4) (fs := [.null, .null, .null, .int 0, .int 0, .int 0, .int 0, .int 0, .int 0, .int 0, .int 0]) (C := RX4) (T := TX4) (N := 11) hx hb hts mR_wsX40 tyX4 tyX4_ok hown (hts (.classLink RX11 16 RX4) (mR_wsR_own _ (List.mem_of_getElem? (i := 6) rfl))) (hts (.instantiable RX4 11) (mR_wsR_own _ (List.mem_of_getElem? (i := 7) rfl))) (hts (.initialized RX4) (mR_wsR_own _ (List.mem_of_getElem? (i := 8) rfl))) hK hP hD hS hA rfl (fun j hj => by rcases (show j = 0 ∨ j = 1 ∨ j = 2 ∨ j = 3 ∨ j = 4 ∨ j = 5 ∨ j = 6 ∨ j = 7 ∨ j = 8 ∨ j = 9 ∨ j = 10 by omega) with rfl | rfl | rfl | rfl | rfl | rfl | rfl | rfl | rfl | rfl | rfl <;> rfl) (Nat.le_of_ble_eq_true rfl) (Nat.le_of_ble_eq_true rfl) dX11_init_16 (fun q16 H hP hD hS => ?_)
  refine W.widen (k := 4) (n := 414) (Nat.le_of_ble_eq_true rfl) (Nat.le_of_ble_eq_true rfl) ?_
  have hP : va_P (dC, dI) vwCl [(h0, .inr (11, [.ref q5, .null, .null, .null, .null, .null, .null, .null, .null, .null, .null, .int 0, .int 0])), (q16, .inr (4, [.null, .null, .null, .int 0, .int 0, .int 0, .int 0, .int 0, .int 0, .int 0, .int 0]))] H := hP
  have hD : va_D A [(h0, .inr (11, [.ref q5, .null, .null, .null, .null, .null, .null, .null, .null, .null, .null, .int 0, .int 0])), (q16, .inr (4, [.null, .null, .null, .int 0, .int 0, .int 0, .int 0, .int 0, .int 0, .int 0, .int 0]))] := hD
  refine lv_dup hx hb dX11_init_19 rfl ?_
  have hPc := hP.sub (ws' := [(q16, .inr (4, [.null, .null, .null, .int 0, .int 0, .int 0, .int 0, .int 0, .int 0, .int 0, .int 0]))]) [1] rfl
  have hDc := hD.sub (ws' := [(q16, .inr (4, [.null, .null, .null, .int 0, .int 0, .int 0, .int 0, .int 0, .int 0, .int 0, .int 0]))]) [1] (by decide) rfl
  have hKc := hK.sub (tys' := []) [] rfl
  have hFc := va_free (wc := [(q16, .inr (4, [.null, .null, .null, .int 0, .int 0, .int 0, .int 0, .int 0, .int 0, .int 0, .int 0]))]) hD hS hA [1] rfl
  refine va_callv (va_runIN (As := []) (rest := [.ref q16, .ref h0]) ⟨hx, hb, hml, hown, hts⟩ (rf_X4_init l dC dI q16 H.size) ⟨va_cnB (own := RX11) (host := RX11) (index := 18) 0 hts gX11_init_X4_init_n18 rfl rfl rfl (hN _ (by decide +kernel)) (hts (.initialized RX4) (mR_wsR_own _ (List.mem_of_getElem? (i := 8) rfl))) (by decide +kernel) ⟨Nat.le_of_ble_eq_true rfl, Nat.le_of_ble_eq_true rfl⟩, rfl, hts (.instanceMethod yX4_init) (mR_wsR_own _ (List.mem_of_getElem? (i := 45) rfl))⟩ ⟨rf_blind, fun U hU hW => ⟨rfl, by rw [hU], by rw [hU]; exact hPc, va_K.moved hW.alike hKc, hDc.weaken (fun _ _ _ _ => trivial), rf_nz_warm hW hN⟩⟩ rfl rfl hl.1 rfl (lv_room (Nat.le_of_ble_eq_true rfl)) dX11_init_20 ⟨Nat.le_of_ble_eq_true rfl, Nat.le_of_ble_eq_true rfl⟩) hS (fun q _ h => hFc q h) hFc (fun u t H1 locs ht hvm hw hB hz1 hk1 hS => ?_)
  refine W.widen (k := 10) (n := 549) (Nat.le_of_ble_eq_true rfl) (Nat.le_of_ble_eq_true rfl) ?_
  obtain ⟨hP1, hK1, hD1⟩ := hB
  rw [ht] at hP1
  have hK1 := va_K.moved hvm.symm hK1
  have hP1 := hP1.sub (ws' := []) [] rfl
  have hD1 := hD1.sub (ws' := []) [] (by decide) rfl
  obtain ⟨hP, hD⟩ := va_join (wr := [(h0, .inr (11, [.ref q5, .null, .null, .null, .null, .null, .null, .null, .null, .null, .null, .int 0, .int 0]))]) (w1 := []) hP hD [1] [0] rfl rfl (by decide) (by decide) hk1 hFc hP1 hD1
  generalize H1 = H at hP hS ⊢
  have hP : va_P (dC, dI) vwCl [(h0, .inr (11, [.ref q5, .null, .null, .null, .null, .null, .null, .null, .null, .null, .null, .int 0, .int 0]))] H := hP
  have hD : va_D A [(h0, .inr (11, [.ref q5, .null, .null, .null, .null, .null, .null, .null, .null, .null, .null, .int 0, .int 0]))] := hD
  refine va_putF (D := (dC, dI)) (ci := 11) (v := .ref q16) (ty := .object "EachSeesOne$Plan") (C := RX11) (T := TX11) (N := 13) hx hb hts mR_wsX110 tyX11 tyX11_ok nmX11 hown hK hP hD hS 0 rfl rfl 1 (by decide) (hts (.fieldLink RX11 19 "EachSeesOne" "plan" "LEachSeesOne$Plan;") (mR_wsR_own _ (List.mem_of_getElem? (i := 34) rfl))) (fun _ h9 => h9) rfl hin rfl (by decide +kernel) rfl rfl (Nat.le_of_ble_eq_true rfl) dX11_init_23 (fun H locs hP hD hS => ?_)
  have hP : va_P (dC, dI) vwCl [(h0, .inr (11, [.ref q5, .ref q16, .null, .null, .null, .null, .null, .null, .null, .null, .null, .int 0, .int 0]))] H := hP
  have hD : va_D A [(h0, .inr (11, [.ref q5, .ref q16, .null, .null, .null, .null, .null, .null, .null, .null, .null, .int 0, .int 0]))] := hD
  refine lv_aload_n hx hb dX11_init_26 rfl (lv_at hl 0 rfl) ?_
  refine va_new (ci := 5) (fs := [.null]) (C := RX5) (T := TX5) (N := 1) hx hb hts mR_wsX50 tyX5 tyX5_ok hown (hts (.classLink RX11 23 RX5) (mR_wsR_own _ (List.mem_of_getElem? (i := 9) rfl))) (hts (.instantiable RX5 1) (mR_wsR_own _ (List.mem_of_getElem? (i := 10) rfl))) (hts (.initialized RX5) (mR_wsR_own _ (List.mem_of_getElem? (i := 11) rfl))) hK hP hD hS hA rfl (fun j hj => by rcases (show j = 0 by omega) with rfl <;> rfl) (Nat.le_of_ble_eq_true rfl) (Nat.le_of_ble_eq_true rfl) dX11_init_27 (fun q27 H hP hD hS => ?_)
  refine W.widen (k := 11) (n := 550) (Nat.le_of_ble_eq_true rfl) (Nat.le_of_ble_eq_true rfl) ?_
  have hP : va_P (dC, dI) vwCl [(h0, .inr (11, [.ref q5, .ref q16, .null, .null, .null, .null, .null, .null, .null, .null, .null, .int 0, .int 0])), (q27, .inr (5, [.null]))] H := hP
  have hD : va_D A [(h0, .inr (11, [.ref q5, .ref q16, .null, .null, .null, .null, .null, .null, .null, .null, .null, .int 0, .int 0])), (q27, .inr (5, [.null]))] := hD
  refine lv_dup hx hb dX11_init_30 rfl ?_
  have hPc := hP.sub (ws' := [(q27, .inr (5, [.null]))]) [1] rfl
  have hDc := hD.sub (ws' := [(q27, .inr (5, [.null]))]) [1] (by decide) rfl
  have hKc := hK.sub (tys' := []) [] rfl
  have hFc := va_free (wc := [(q27, .inr (5, [.null]))]) hD hS hA [1] rfl
  refine va_callv (va_runIN (As := []) (rest := [.ref q27, .ref h0]) ⟨hx, hb, hml, hown, hts⟩ (rf_X5_init l dC dI q27 H.size) ⟨va_cnB (own := RX11) (host := RX11) (index := 25) 0 hts gX11_init_X5_init_n25 rfl rfl rfl (hN _ (by decide +kernel)) (hts (.initialized RX5) (mR_wsR_own _ (List.mem_of_getElem? (i := 11) rfl))) (by decide +kernel) ⟨Nat.le_of_ble_eq_true rfl, Nat.le_of_ble_eq_true rfl⟩, rfl, hts (.instanceMethod yX5_init) (mR_wsR_own _ (List.mem_of_getElem? (i := 46) rfl))⟩ ⟨rf_blind, fun U hU hW => ⟨rfl, by rw [hU], by rw [hU]; exact hPc, va_K.moved hW.alike hKc, hDc.weaken (fun _ _ _ _ => trivial), rf_nz_warm hW hN⟩⟩ rfl rfl hl.1 rfl (lv_room (Nat.le_of_ble_eq_true rfl)) dX11_init_31 ⟨Nat.le_of_ble_eq_true rfl, Nat.le_of_ble_eq_true rfl⟩) hS (fun q _ h => hFc q h) hFc (fun u t H1 locs ht hvm hw hB hz1 hk1 hS => ?_)
  refine W.widen (k := 13) (n := 554) (Nat.le_of_ble_eq_true rfl) (Nat.le_of_ble_eq_true rfl) ?_
  obtain ⟨hP1, hK1, hD1⟩ := hB
  rw [ht] at hP1
  have hK1 := va_K.moved hvm.symm hK1
  have hP1 := hP1.sub (ws' := []) [] rfl
  have hD1 := hD1.sub (ws' := []) [] (by decide) rfl
  obtain ⟨hP, hD⟩ := va_join (wr := [(h0, .inr (11, [.ref q5, .ref q16, .null, .null, .null, .null, .null, .null, .null, .null, .null, .int 0, .int 0]))]) (w1 := []) hP hD [1] [0] rfl rfl (by decide) (by decide) hk1 hFc hP1 hD1
  generalize H1 = H at hP hS ⊢
  have hP : va_P (dC, dI) vwCl [(h0, .inr (11, [.ref q5, .ref q16, .null, .null, .null, .null, .null, .null, .null, .null, .null, .int 0, .int 0]))] H := hP
  have hD : va_D A [(h0, .inr (11, [.ref q5, .ref q16, .null, .null, .null, .null, .null, .null, .null, .null, .null, .int 0, .int 0]))] := hD
  refine va_putF (D := (dC, dI)) (ci := 11) (v := .ref q27) (ty := .object "EachSeesOne$Reader") (C := RX11) (T := TX11) (N := 13) hx hb hts mR_wsX110 tyX11 tyX11_ok nmX11 hown hK hP hD hS 0 rfl rfl 2 (by decide) (hts (.fieldLink RX11 26 "EachSeesOne" "reader" "LEachSeesOne$Reader;") (mR_wsR_own _ (List.mem_of_getElem? (i := 35) rfl))) (fun _ h9 => h9) rfl hin rfl (by decide +kernel) rfl rfl (Nat.le_of_ble_eq_true rfl) dX11_init_34 (fun H locs hP hD hS => ?_)
  have hP : va_P (dC, dI) vwCl [(h0, .inr (11, [.ref q5, .ref q16, .ref q27, .null, .null, .null, .null, .null, .null, .null, .null, .int 0, .int 0]))] H := hP
  have hD : va_D A [(h0, .inr (11, [.ref q5, .ref q16, .ref q27, .null, .null, .null, .null, .null, .null, .null, .null, .int 0, .int 0]))] := hD
  refine lv_aload_n hx hb dX11_init_37 rfl (lv_at hl 0 rfl) ?_
  refine va_new (ci := 10) (fs := [.null, .null, .null, .int 0, .int 0, .int 0, .int 0, .int 0, .int 0]) (C := RX10) (T := TX10) (N := 9) hx hb hts mR_wsX100 tyX10 tyX10_ok hown (hts (.classLink RX11 30 RX10) (mR_wsR_own _ (List.mem_of_getElem? (i := 12) rfl))) (hts (.instantiable RX10 9) (mR_wsR_own _ (List.mem_of_getElem? (i := 13) rfl))) (hts (.initialized RX10) (mR_wsR_own _ (List.mem_of_getElem? (i := 14) rfl))) hK hP hD hS hA rfl (fun j hj => by rcases (show j = 0 ∨ j = 1 ∨ j = 2 ∨ j = 3 ∨ j = 4 ∨ j = 5 ∨ j = 6 ∨ j = 7 ∨ j = 8 by omega) with rfl | rfl | rfl | rfl | rfl | rfl | rfl | rfl | rfl <;> rfl) (Nat.le_of_ble_eq_true rfl) (Nat.le_of_ble_eq_true rfl) dX11_init_38 (fun q38 H hP hD hS => ?_)
  refine W.widen (k := 14) (n := 563) (Nat.le_of_ble_eq_true rfl) (Nat.le_of_ble_eq_true rfl) ?_
  have hP : va_P (dC, dI) vwCl [(h0, .inr (11, [.ref q5, .ref q16, .ref q27, .null, .null, .null, .null, .null, .null, .null, .null, .int 0, .int 0])), (q38, .inr (10, [.null, .null, .null, .int 0, .int 0, .int 0, .int 0, .int 0, .int 0]))] H := hP
  have hD : va_D A [(h0, .inr (11, [.ref q5, .ref q16, .ref q27, .null, .null, .null, .null, .null, .null, .null, .null, .int 0, .int 0])), (q38, .inr (10, [.null, .null, .null, .int 0, .int 0, .int 0, .int 0, .int 0, .int 0]))] := hD
  refine lv_dup hx hb dX11_init_41 rfl ?_
  have hPc := hP.sub (ws' := [(q38, .inr (10, [.null, .null, .null, .int 0, .int 0, .int 0, .int 0, .int 0, .int 0]))]) [1] rfl
  have hDc := hD.sub (ws' := [(q38, .inr (10, [.null, .null, .null, .int 0, .int 0, .int 0, .int 0, .int 0, .int 0]))]) [1] (by decide) rfl
  have hKc := hK.sub (tys' := []) [] rfl
  have hFc := va_free (wc := [(q38, .inr (10, [.null, .null, .null, .int 0, .int 0, .int 0, .int 0, .int 0, .int 0]))]) hD hS hA [1] rfl
  refine va_callv (va_runIN (As := []) (rest := [.ref q38, .ref h0]) ⟨hx, hb, hml, hown, hts⟩ (rf_X10_init l dC dI q38 H.size) ⟨va_cnB (own := RX11) (host := RX11) (index := 32) 0 hts gX11_init_X10_init_n32 rfl rfl rfl (hN _ (by decide +kernel)) (hts (.initialized RX10) (mR_wsR_own _ (List.mem_of_getElem? (i := 14) rfl))) (by decide +kernel) ⟨Nat.le_of_ble_eq_true rfl, Nat.le_of_ble_eq_true rfl⟩, rfl, hts (.instanceMethod yX10_init) (mR_wsR_own _ (List.mem_of_getElem? (i := 47) rfl))⟩ ⟨rf_blind, fun U hU hW => ⟨rfl, by rw [hU], by rw [hU]; exact hPc, va_K.moved hW.alike hKc, hDc.weaken (fun _ _ _ _ => trivial), rf_nz_warm hW hN⟩⟩ rfl rfl hl.1 rfl (lv_room (Nat.le_of_ble_eq_true rfl)) dX11_init_42 ⟨Nat.le_of_ble_eq_true rfl, Nat.le_of_ble_eq_true rfl⟩) hS (fun q _ h => hFc q h) hFc (fun u t H1 locs ht hvm hw hB hz1 hk1 hS => ?_)
  refine W.widen (k := 20) (n := 1142) (Nat.le_of_ble_eq_true rfl) (Nat.le_of_ble_eq_true rfl) ?_
  obtain ⟨hP1, hK1, hD1⟩ := hB
  rw [ht] at hP1
  have hK1 := va_K.moved hvm.symm hK1
  have hP1 := hP1.sub (ws' := []) [] rfl
  have hD1 := hD1.sub (ws' := []) [] (by decide) rfl
  obtain ⟨hP, hD⟩ := va_join (wr := [(h0, .inr (11, [.ref q5, .ref q16, .ref q27, .null, .null, .null, .null, .null, .null, .null, .null, .int 0, .int 0]))]) (w1 := []) hP hD [1] [0] rfl rfl (by decide) (by decide) hk1 hFc hP1 hD1
  generalize H1 = H at hP hS ⊢
  have hP : va_P (dC, dI) vwCl [(h0, .inr (11, [.ref q5, .ref q16, .ref q27, .null, .null, .null, .null, .null, .null, .null, .null, .int 0, .int 0]))] H := hP
  have hD : va_D A [(h0, .inr (11, [.ref q5, .ref q16, .ref q27, .null, .null, .null, .null, .null, .null, .null, .null, .int 0, .int 0]))] := hD
  refine va_putF (D := (dC, dI)) (ci := 11) (v := .ref q38) (ty := .object "EachSeesOne$Water") (C := RX11) (T := TX11) (N := 13) hx hb hts mR_wsX110 tyX11 tyX11_ok nmX11 hown hK hP hD hS 0 rfl rfl 3 (by decide) (hts (.fieldLink RX11 33 "EachSeesOne" "water" "LEachSeesOne$Water;") (mR_wsR_own _ (List.mem_of_getElem? (i := 36) rfl))) (fun _ h9 => h9) rfl hin rfl (by decide +kernel) rfl rfl (Nat.le_of_ble_eq_true rfl) dX11_init_45 (fun H locs hP hD hS => ?_)
  have hP : va_P (dC, dI) vwCl [(h0, .inr (11, [.ref q5, .ref q16, .ref q27, .ref q38, .null, .null, .null, .null, .null, .null, .null, .int 0, .int 0]))] H := hP
  have hD : va_D A [(h0, .inr (11, [.ref q5, .ref q16, .ref q27, .ref q38, .null, .null, .null, .null, .null, .null, .null, .int 0, .int 0]))] := hD
  refine lv_aload_n hx hb dX11_init_48 rfl (lv_at hl 0 rfl) ?_
  refine va_new (ci := 1) (fs := [.null, .int 0, .int 0, .int 0, .int 0, .int 0, .int 0]) (C := RX1) (T := TX1) (N := 7) hx hb hts mR_wsX10 tyX1 tyX1_ok hown (hts (.classLink RX11 37 RX1) (mR_wsR_own _ (List.mem_of_getElem? (i := 15) rfl))) (hts (.instantiable RX1 7) (mR_wsR_own _ (List.mem_of_getElem? (i := 16) rfl))) (hts (.initialized RX1) (mR_wsR_own _ (List.mem_of_getElem? (i := 17) rfl))) hK hP hD hS hA rfl (fun j hj => by rcases (show j = 0 ∨ j = 1 ∨ j = 2 ∨ j = 3 ∨ j = 4 ∨ j = 5 ∨ j = 6 by omega) with rfl | rfl | rfl | rfl | rfl | rfl | rfl <;> rfl) (Nat.le_of_ble_eq_true rfl) (Nat.le_of_ble_eq_true rfl) dX11_init_49 (fun q49 H hP hD hS => ?_)
  refine W.widen (k := 21) (n := 1149) (Nat.le_of_ble_eq_true rfl) (Nat.le_of_ble_eq_true rfl) ?_
  have hP : va_P (dC, dI) vwCl [(h0, .inr (11, [.ref q5, .ref q16, .ref q27, .ref q38, .null, .null, .null, .null, .null, .null, .null, .int 0, .int 0])), (q49, .inr (1, [.null, .int 0, .int 0, .int 0, .int 0, .int 0, .int 0]))] H := hP
  have hD : va_D A [(h0, .inr (11, [.ref q5, .ref q16, .ref q27, .ref q38, .null, .null, .null, .null, .null, .null, .null, .int 0, .int 0])), (q49, .inr (1, [.null, .int 0, .int 0, .int 0, .int 0, .int 0, .int 0]))] := hD
  refine lv_dup hx hb dX11_init_52 rfl ?_
  have hPc := hP.sub (ws' := [(q49, .inr (1, [.null, .int 0, .int 0, .int 0, .int 0, .int 0, .int 0]))]) [1] rfl
  have hDc := hD.sub (ws' := [(q49, .inr (1, [.null, .int 0, .int 0, .int 0, .int 0, .int 0, .int 0]))]) [1] (by decide) rfl
  have hKc := hK.sub (tys' := []) [] rfl
  have hFc := va_free (wc := [(q49, .inr (1, [.null, .int 0, .int 0, .int 0, .int 0, .int 0, .int 0]))]) hD hS hA [1] rfl
  refine va_callv (va_runIN (As := []) (rest := [.ref q49, .ref h0]) ⟨hx, hb, hml, hown, hts⟩ (rf_X1_init l dC dI q49 H.size) ⟨va_cnB (own := RX11) (host := RX11) (index := 39) 0 hts gX11_init_X1_init_n39 rfl rfl rfl (hN _ (by decide +kernel)) (hts (.initialized RX1) (mR_wsR_own _ (List.mem_of_getElem? (i := 17) rfl))) (by decide +kernel) ⟨Nat.le_of_ble_eq_true rfl, Nat.le_of_ble_eq_true rfl⟩, rfl, hts (.instanceMethod yX1_init) (mR_wsR_own _ (List.mem_of_getElem? (i := 48) rfl))⟩ ⟨rf_blind, fun U hU hW => ⟨rfl, by rw [hU], by rw [hU]; exact hPc, va_K.moved hW.alike hKc, hDc.weaken (fun _ _ _ _ => trivial), rf_nz_warm hW hN⟩⟩ rfl rfl hl.1 rfl (lv_room (Nat.le_of_ble_eq_true rfl)) dX11_init_53 ⟨Nat.le_of_ble_eq_true rfl, Nat.le_of_ble_eq_true rfl⟩) hS (fun q _ h => hFc q h) hFc (fun u t H1 locs ht hvm hw hB hz1 hk1 hS => ?_)
  refine W.widen (k := 23) (n := 1154) (Nat.le_of_ble_eq_true rfl) (Nat.le_of_ble_eq_true rfl) ?_
  obtain ⟨hP1, hK1, hD1⟩ := hB
  rw [ht] at hP1
  have hK1 := va_K.moved hvm.symm hK1
  have hP1 := hP1.sub (ws' := []) [] rfl
  have hD1 := hD1.sub (ws' := []) [] (by decide) rfl
  obtain ⟨hP, hD⟩ := va_join (wr := [(h0, .inr (11, [.ref q5, .ref q16, .ref q27, .ref q38, .null, .null, .null, .null, .null, .null, .null, .int 0, .int 0]))]) (w1 := []) hP hD [1] [0] rfl rfl (by decide) (by decide) hk1 hFc hP1 hD1
  generalize H1 = H at hP hS ⊢
  have hP : va_P (dC, dI) vwCl [(h0, .inr (11, [.ref q5, .ref q16, .ref q27, .ref q38, .null, .null, .null, .null, .null, .null, .null, .int 0, .int 0]))] H := hP
  have hD : va_D A [(h0, .inr (11, [.ref q5, .ref q16, .ref q27, .ref q38, .null, .null, .null, .null, .null, .null, .null, .int 0, .int 0]))] := hD
  refine va_putF (D := (dC, dI)) (ci := 11) (v := .ref q49) (ty := .object "EachSeesOne$Crew") (C := RX11) (T := TX11) (N := 13) hx hb hts mR_wsX110 tyX11 tyX11_ok nmX11 hown hK hP hD hS 0 rfl rfl 4 (by decide) (hts (.fieldLink RX11 40 "EachSeesOne" "crew" "LEachSeesOne$Crew;") (mR_wsR_own _ (List.mem_of_getElem? (i := 37) rfl))) (fun _ h9 => h9) rfl hin rfl (by decide +kernel) rfl rfl (Nat.le_of_ble_eq_true rfl) dX11_init_56 (fun H locs hP hD hS => ?_)
  have hP : va_P (dC, dI) vwCl [(h0, .inr (11, [.ref q5, .ref q16, .ref q27, .ref q38, .ref q49, .null, .null, .null, .null, .null, .null, .int 0, .int 0]))] H := hP
  have hD : va_D A [(h0, .inr (11, [.ref q5, .ref q16, .ref q27, .ref q38, .ref q49, .null, .null, .null, .null, .null, .null, .int 0, .int 0]))] := hD
  refine lv_aload_n hx hb dX11_init_59 rfl (lv_at hl 0 rfl) ?_
  refine va_new (ci := 0) (fs := [.int 0, .int 0, .int 0, .int 0, .int 0]) (C := RX0) (T := TX0) (N := 5) hx hb hts mR_wsX00 tyX0 tyX0_ok hown (hts (.classLink RX11 44 RX0) (mR_wsR_own _ (List.mem_of_getElem? (i := 18) rfl))) (hts (.instantiable RX0 5) (mR_wsR_own _ (List.mem_of_getElem? (i := 19) rfl))) (hts (.initialized RX0) (mR_wsR_own _ (List.mem_of_getElem? (i := 20) rfl))) hK hP hD hS hA rfl (fun j hj => by rcases (show j = 0 ∨ j = 1 ∨ j = 2 ∨ j = 3 ∨ j = 4 by omega) with rfl | rfl | rfl | rfl | rfl <;> rfl) (Nat.le_of_ble_eq_true rfl) (Nat.le_of_ble_eq_true rfl) dX11_init_60 (fun q60 H hP hD hS => ?_)
  refine W.widen (k := 24) (n := 1159) (Nat.le_of_ble_eq_true rfl) (Nat.le_of_ble_eq_true rfl) ?_
  have hP : va_P (dC, dI) vwCl [(h0, .inr (11, [.ref q5, .ref q16, .ref q27, .ref q38, .ref q49, .null, .null, .null, .null, .null, .null, .int 0, .int 0])), (q60, .inr (0, [.int 0, .int 0, .int 0, .int 0, .int 0]))] H := hP
  have hD : va_D A [(h0, .inr (11, [.ref q5, .ref q16, .ref q27, .ref q38, .ref q49, .null, .null, .null, .null, .null, .null, .int 0, .int 0])), (q60, .inr (0, [.int 0, .int 0, .int 0, .int 0, .int 0]))] := hD
  refine lv_dup hx hb dX11_init_63 rfl ?_
  have hPc := hP.sub (ws' := [(q60, .inr (0, [.int 0, .int 0, .int 0, .int 0, .int 0]))]) [1] rfl
  have hDc := hD.sub (ws' := [(q60, .inr (0, [.int 0, .int 0, .int 0, .int 0, .int 0]))]) [1] (by decide) rfl
  have hKc := hK.sub (tys' := []) [] rfl
  have hFc := va_free (wc := [(q60, .inr (0, [.int 0, .int 0, .int 0, .int 0, .int 0]))]) hD hS hA [1] rfl
  refine va_callv (va_runIN (As := []) (rest := [.ref q60, .ref h0]) ⟨hx, hb, hml, hown, hts⟩ (rf_X0_init l dC dI q60 H.size) ⟨va_cnB (own := RX11) (host := RX11) (index := 46) 0 hts gX11_init_X0_init_n46 rfl rfl rfl (hN _ (by decide +kernel)) (hts (.initialized RX0) (mR_wsR_own _ (List.mem_of_getElem? (i := 20) rfl))) (by decide +kernel) ⟨Nat.le_of_ble_eq_true rfl, Nat.le_of_ble_eq_true rfl⟩, rfl, hts (.instanceMethod yX0_init) (mR_wsR_own _ (List.mem_of_getElem? (i := 49) rfl))⟩ ⟨rf_blind, fun U hU hW => ⟨rfl, by rw [hU], by rw [hU]; exact hPc, va_K.moved hW.alike hKc, hDc.weaken (fun _ _ _ _ => trivial), rf_nz_warm hW hN⟩⟩ rfl rfl hl.1 rfl (lv_room (Nat.le_of_ble_eq_true rfl)) dX11_init_64 ⟨Nat.le_of_ble_eq_true rfl, Nat.le_of_ble_eq_true rfl⟩) hS (fun q _ h => hFc q h) hFc (fun u t H1 locs ht hvm hw hB hz1 hk1 hS => ?_)
  refine W.widen (k := 24) (n := 1159) (Nat.le_of_ble_eq_true rfl) (Nat.le_of_ble_eq_true rfl) ?_
  obtain ⟨hP1, hK1, hD1⟩ := hB
  rw [ht] at hP1
  have hK1 := va_K.moved hvm.symm hK1
  have hP1 := hP1.sub (ws' := []) [] rfl
  have hD1 := hD1.sub (ws' := []) [] (by decide) rfl
  obtain ⟨hP, hD⟩ := va_join (wr := [(h0, .inr (11, [.ref q5, .ref q16, .ref q27, .ref q38, .ref q49, .null, .null, .null, .null, .null, .null, .int 0, .int 0]))]) (w1 := []) hP hD [1] [0] rfl rfl (by decide) (by decide) hk1 hFc hP1 hD1
  generalize H1 = H at hP hS ⊢
  have hP : va_P (dC, dI) vwCl [(h0, .inr (11, [.ref q5, .ref q16, .ref q27, .ref q38, .ref q49, .null, .null, .null, .null, .null, .null, .int 0, .int 0]))] H := hP
  have hD : va_D A [(h0, .inr (11, [.ref q5, .ref q16, .ref q27, .ref q38, .ref q49, .null, .null, .null, .null, .null, .null, .int 0, .int 0]))] := hD
  refine va_putF (D := (dC, dI)) (ci := 11) (v := .ref q60) (ty := .object "EachSeesOne$Boat") (C := RX11) (T := TX11) (N := 13) hx hb hts mR_wsX110 tyX11 tyX11_ok nmX11 hown hK hP hD hS 0 rfl rfl 5 (by decide) (hts (.fieldLink RX11 47 "EachSeesOne" "theBarge" "LEachSeesOne$Boat;") (mR_wsR_own _ (List.mem_of_getElem? (i := 38) rfl))) (fun _ h9 => h9) rfl hin rfl (by decide +kernel) rfl rfl (Nat.le_of_ble_eq_true rfl) dX11_init_67 (fun H locs hP hD hS => ?_)
  have hP : va_P (dC, dI) vwCl [(h0, .inr (11, [.ref q5, .ref q16, .ref q27, .ref q38, .ref q49, .ref q60, .null, .null, .null, .null, .null, .int 0, .int 0]))] H := hP
  have hD : va_D A [(h0, .inr (11, [.ref q5, .ref q16, .ref q27, .ref q38, .ref q49, .ref q60, .null, .null, .null, .null, .null, .int 0, .int 0]))] := hD
  refine lv_aload_n hx hb dX11_init_70 rfl (lv_at hl 0 rfl) ?_
  refine va_new (ci := 9) (fs := [.null, .null, .null, .null]) (C := RX9) (T := TX9) (N := 4) hx hb hts mR_wsX90 tyX9 tyX9_ok hown (hts (.classLink RX11 51 RX9) (mR_wsR_own _ (List.mem_of_getElem? (i := 21) rfl))) (hts (.instantiable RX9 4) (mR_wsR_own _ (List.mem_of_getElem? (i := 22) rfl))) (hts (.initialized RX9) (mR_wsR_own _ (List.mem_of_getElem? (i := 23) rfl))) hK hP hD hS hA rfl (fun j hj => by rcases (show j = 0 ∨ j = 1 ∨ j = 2 ∨ j = 3 by omega) with rfl | rfl | rfl | rfl <;> rfl) (Nat.le_of_ble_eq_true rfl) (Nat.le_of_ble_eq_true rfl) dX11_init_71 (fun q71 H hP hD hS => ?_)
  refine W.widen (k := 25) (n := 1163) (Nat.le_of_ble_eq_true rfl) (Nat.le_of_ble_eq_true rfl) ?_
  have hP : va_P (dC, dI) vwCl [(h0, .inr (11, [.ref q5, .ref q16, .ref q27, .ref q38, .ref q49, .ref q60, .null, .null, .null, .null, .null, .int 0, .int 0])), (q71, .inr (9, [.null, .null, .null, .null]))] H := hP
  have hD : va_D A [(h0, .inr (11, [.ref q5, .ref q16, .ref q27, .ref q38, .ref q49, .ref q60, .null, .null, .null, .null, .null, .int 0, .int 0])), (q71, .inr (9, [.null, .null, .null, .null]))] := hD
  refine lv_dup hx hb dX11_init_74 rfl ?_
  refine lv_aload_n hx hb dX11_init_75 rfl (lv_at hl 0 rfl) ?_
  refine va_get (D := (dC, dI)) (ci := 11) (v := .ref q38) (C := RX11) (T := TX11) (N := 13) hx hb hts mR_wsX110 hown hK hP 0 rfl rfl 3 (by decide) (hts (.fieldLink RX11 33 "EachSeesOne" "water" "LEachSeesOne$Water;") (mR_wsR_own _ (List.mem_of_getElem? (i := 36) rfl))) (fun _ h9 => h9) rfl dX11_init_76 ?_
  refine lv_aload_n hx hb dX11_init_79 rfl (lv_at hl 0 rfl) ?_
  refine va_get (D := (dC, dI)) (ci := 11) (v := .ref q49) (C := RX11) (T := TX11) (N := 13) hx hb hts mR_wsX110 hown hK hP 0 rfl rfl 4 (by decide) (hts (.fieldLink RX11 40 "EachSeesOne" "crew" "LEachSeesOne$Crew;") (mR_wsR_own _ (List.mem_of_getElem? (i := 37) rfl))) (fun _ h9 => h9) rfl dX11_init_80 ?_
  have hPc := hP.sub (ws' := [(q71, .inr (9, [.null, .null, .null, .null]))]) [1] rfl
  have hDc := hD.sub (ws' := [(q71, .inr (9, [.null, .null, .null, .null]))]) [1] (by decide) rfl
  have hKc := hK.sub (tys' := []) [] rfl
  have hFc := va_free (wc := [(q71, .inr (9, [.null, .null, .null, .null]))]) hD hS hA [1] rfl
  refine va_callv (va_runI (As := [.ref q38, .ref q49]) (rest := [.ref q71, .ref h0]) ⟨hx, hb, hml, hown, hts⟩ (rf_X9_init l dC dI q71 H.size q38 q49) (cwI 2 hts gX11_init_X9_init rfl rfl rfl (hts (.initialized RX9) (mR_wsR_own _ (List.mem_of_getElem? (i := 23) rfl))) (hts (.methodLink RX11 53 yX9_init) (mR_wsR_own _ (List.mem_of_getElem? (i := 50) rfl))) (hts (.instanceMethod yX9_init) (mR_wsR_own _ (List.mem_of_getElem? (i := 51) rfl))) rfl (by decide +kernel) ⟨Nat.le_of_ble_eq_true rfl, Nat.le_of_ble_eq_true rfl⟩) ⟨rf_blind, fun U hU hW => ⟨rfl, by rw [hU], by rw [hU]; exact hPc, va_K.moved hW.alike hKc, hDc.weaken (fun _ _ _ _ => trivial), rf_nz_warm hW hN⟩⟩ rfl rfl hl.1 rfl (lv_room (Nat.le_of_ble_eq_true rfl)) dX11_init_83 ⟨Nat.le_of_ble_eq_true rfl, Nat.le_of_ble_eq_true rfl⟩) hS (fun q _ h => hFc q h) hFc (fun u t H1 locs ht hvm hw hB hz1 hk1 hS => ?_)
  refine W.widen (k := 28) (n := 1189) (Nat.le_of_ble_eq_true rfl) (Nat.le_of_ble_eq_true rfl) ?_
  obtain ⟨hP1, hK1, hD1⟩ := hB
  rw [ht] at hP1
  have hK1 := va_K.moved hvm.symm hK1
  have hP1 := hP1.sub (ws' := []) [] rfl
  have hD1 := hD1.sub (ws' := []) [] (by decide) rfl
  obtain ⟨hP, hD⟩ := va_join (wr := [(h0, .inr (11, [.ref q5, .ref q16, .ref q27, .ref q38, .ref q49, .ref q60, .null, .null, .null, .null, .null, .int 0, .int 0]))]) (w1 := []) hP hD [1] [0] rfl rfl (by decide) (by decide) hk1 hFc hP1 hD1
  generalize H1 = H at hP hS ⊢
  have hP : va_P (dC, dI) vwCl [(h0, .inr (11, [.ref q5, .ref q16, .ref q27, .ref q38, .ref q49, .ref q60, .null, .null, .null, .null, .null, .int 0, .int 0]))] H := hP
  have hD : va_D A [(h0, .inr (11, [.ref q5, .ref q16, .ref q27, .ref q38, .ref q49, .ref q60, .null, .null, .null, .null, .null, .int 0, .int 0]))] := hD
  refine va_putF (D := (dC, dI)) (ci := 11) (v := .ref q71) (ty := .object "EachSeesOne$Trial") (C := RX11) (T := TX11) (N := 13) hx hb hts mR_wsX110 tyX11 tyX11_ok nmX11 hown hK hP hD hS 0 rfl rfl 6 (by decide) (hts (.fieldLink RX11 56 "EachSeesOne" "trial" "LEachSeesOne$Trial;") (mR_wsR_own _ (List.mem_of_getElem? (i := 39) rfl))) (fun _ h9 => h9) rfl hin rfl (by decide +kernel) rfl rfl (Nat.le_of_ble_eq_true rfl) dX11_init_86 (fun H locs hP hD hS => ?_)
  have hP : va_P (dC, dI) vwCl [(h0, .inr (11, [.ref q5, .ref q16, .ref q27, .ref q38, .ref q49, .ref q60, .ref q71, .null, .null, .null, .null, .int 0, .int 0]))] H := hP
  have hD : va_D A [(h0, .inr (11, [.ref q5, .ref q16, .ref q27, .ref q38, .ref q49, .ref q60, .ref q71, .null, .null, .null, .null, .int 0, .int 0]))] := hD
  refine lv_aload_n hx hb dX11_init_89 rfl (lv_at hl 0 rfl) ?_
  refine va_new (ci := 2) (fs := [.null, .null, .null, .null, .int 0, .int 0, .int 0, .int 0, .int 0]) (C := RX2) (T := TX2) (N := 9) hx hb hts mR_wsX20 tyX2 tyX2_ok hown (hts (.classLink RX11 60 RX2) (mR_wsR_own _ (List.mem_of_getElem? (i := 24) rfl))) (hts (.instantiable RX2 9) (mR_wsR_own _ (List.mem_of_getElem? (i := 25) rfl))) (hts (.initialized RX2) (mR_wsR_own _ (List.mem_of_getElem? (i := 26) rfl))) hK hP hD hS hA rfl (fun j hj => by rcases (show j = 0 ∨ j = 1 ∨ j = 2 ∨ j = 3 ∨ j = 4 ∨ j = 5 ∨ j = 6 ∨ j = 7 ∨ j = 8 by omega) with rfl | rfl | rfl | rfl | rfl | rfl | rfl | rfl | rfl <;> rfl) (Nat.le_of_ble_eq_true rfl) (Nat.le_of_ble_eq_true rfl) dX11_init_90 (fun q90 H hP hD hS => ?_)
  refine W.widen (k := 29) (n := 1198) (Nat.le_of_ble_eq_true rfl) (Nat.le_of_ble_eq_true rfl) ?_
  have hP : va_P (dC, dI) vwCl [(h0, .inr (11, [.ref q5, .ref q16, .ref q27, .ref q38, .ref q49, .ref q60, .ref q71, .null, .null, .null, .null, .int 0, .int 0])), (q90, .inr (2, [.null, .null, .null, .null, .int 0, .int 0, .int 0, .int 0, .int 0]))] H := hP
  have hD : va_D A [(h0, .inr (11, [.ref q5, .ref q16, .ref q27, .ref q38, .ref q49, .ref q60, .ref q71, .null, .null, .null, .null, .int 0, .int 0])), (q90, .inr (2, [.null, .null, .null, .null, .int 0, .int 0, .int 0, .int 0, .int 0]))] := hD
  refine lv_dup hx hb dX11_init_93 rfl ?_
  refine lv_aload_n hx hb dX11_init_94 rfl (lv_at hl 0 rfl) ?_
  refine va_get (D := (dC, dI)) (ci := 11) (v := .ref q38) (C := RX11) (T := TX11) (N := 13) hx hb hts mR_wsX110 hown hK hP 0 rfl rfl 3 (by decide) (hts (.fieldLink RX11 33 "EachSeesOne" "water" "LEachSeesOne$Water;") (mR_wsR_own _ (List.mem_of_getElem? (i := 36) rfl))) (fun _ h9 => h9) rfl dX11_init_95 ?_
  refine lv_aload_n hx hb dX11_init_98 rfl (lv_at hl 0 rfl) ?_
  refine va_get (D := (dC, dI)) (ci := 11) (v := .ref q49) (C := RX11) (T := TX11) (N := 13) hx hb hts mR_wsX110 hown hK hP 0 rfl rfl 4 (by decide) (hts (.fieldLink RX11 40 "EachSeesOne" "crew" "LEachSeesOne$Crew;") (mR_wsR_own _ (List.mem_of_getElem? (i := 37) rfl))) (fun _ h9 => h9) rfl dX11_init_99 ?_
  have hPc := hP.sub (ws' := [(q90, .inr (2, [.null, .null, .null, .null, .int 0, .int 0, .int 0, .int 0, .int 0]))]) [1] rfl
  have hDc := hD.sub (ws' := [(q90, .inr (2, [.null, .null, .null, .null, .int 0, .int 0, .int 0, .int 0, .int 0]))]) [1] (by decide) rfl
  have hKc := hK.sub (tys' := []) [] rfl
  have hFc := va_free (wc := [(q90, .inr (2, [.null, .null, .null, .null, .int 0, .int 0, .int 0, .int 0, .int 0]))]) hD hS hA [1] rfl
  refine va_callv (va_runI (As := [.ref q38, .ref q49]) (rest := [.ref q90, .ref h0]) ⟨hx, hb, hml, hown, hts⟩ (rf_X2_init l dC dI q90 H.size q38 q49) (cwI 2 hts gX11_init_X2_init rfl rfl rfl (hts (.initialized RX2) (mR_wsR_own _ (List.mem_of_getElem? (i := 26) rfl))) (hts (.methodLink RX11 62 yX2_init) (mR_wsR_own _ (List.mem_of_getElem? (i := 52) rfl))) (hts (.instanceMethod yX2_init) (mR_wsR_own _ (List.mem_of_getElem? (i := 53) rfl))) rfl (by decide +kernel) ⟨Nat.le_of_ble_eq_true rfl, Nat.le_of_ble_eq_true rfl⟩) ⟨rf_blind, fun U hU hW => ⟨rfl, by rw [hU], by rw [hU]; exact hPc, va_K.moved hW.alike hKc, hDc.weaken (fun _ _ _ _ => trivial), rf_nz_warm hW hN⟩⟩ rfl rfl hl.1 rfl (lv_room (Nat.le_of_ble_eq_true rfl)) dX11_init_102 ⟨Nat.le_of_ble_eq_true rfl, Nat.le_of_ble_eq_true rfl⟩) hS (fun q _ h => hFc q h) hFc (fun u t H1 locs ht hvm hw hB hz1 hk1 hS => ?_)
  refine W.widen (k := 38) (n := 9413) (Nat.le_of_ble_eq_true rfl) (Nat.le_of_ble_eq_true rfl) ?_
  obtain ⟨hP1, hK1, hD1⟩ := hB
  rw [ht] at hP1
  have hK1 := va_K.moved hvm.symm hK1
  obtain ⟨r102, cA102⟩ := u
  obtain ⟨hP, hD⟩ := va_join (wr := [(h0, .inr (11, [.ref q5, .ref q16, .ref q27, .ref q38, .ref q49, .ref q60, .ref q71, .null, .null, .null, .null, .int 0, .int 0]))]) (w1 := [(r102, .inl (cA102, (4096, .inl (fun _ => 0))))]) hP hD [1] [0] rfl rfl (by decide) (by decide) hk1 hFc hP1 hD1
  generalize H1 = H at hP hS ⊢
  have hP : va_P (dC, dI) vwCl [(h0, .inr (11, [.ref q5, .ref q16, .ref q27, .ref q38, .ref q49, .ref q60, .ref q71, .null, .null, .null, .null, .int 0, .int 0])), (r102, .inl (cA102, (4096, .inl (fun _ => 0))))] H := hP
  have hD : va_D A [(h0, .inr (11, [.ref q5, .ref q16, .ref q27, .ref q38, .ref q49, .ref q60, .ref q71, .null, .null, .null, .null, .int 0, .int 0])), (r102, .inl (cA102, (4096, .inl (fun _ => 0))))] := hD
  have hAr : s.heap.size ≤ r102 := by
    have h1 : A r102 := hD.2 1 _ rfl
    rw [← hAe] at h1
    rcases h1 with ⟨k, e9, h1⟩ | h1
    · have hk : k < 1 := (List.getElem?_eq_some_iff.mp h1).1
      rw [show k = 0 by omega] at h1
      have he : h0 = r102 := congrArg Prod.fst (Option.some.inj h1)
      exact absurd (hD.1 0 1 _ _ rfl rfl he) (by decide)
    · exact h1
  have hc9 : H[r102]? = some (vp_cell cA102 (4096, .inl (fun _ => 0))) := hP 1 _ rfl
  exact rf_reach hn hbel hAr hc9 (rf_sz cA102 4096 (fun _ => 0))
set_option maxHeartbeats 4000000 in
set_option maxRecDepth 100000 in
theorem rf_law {p : Program} {e : Env} {s : State} {m : MethodId} {below : List Frame} {meth : Method} {c : Code} (l : Launch) {b : Nat} (hx : p.tables.exec = Jvm.exec) (hb : c.code = cL_law) (hml : c.maxLocals = 4) (hown : s.vm.findClass RL = some m.cls) (hts : ∀ w ∈ wsT, w.before #[Value.ref b] s = true) (hN : rf_nz s) : W p l e rf_room s m #[Value.ref b] below meth c s.heap [] 0 0 (rf_G below s.slotsUsed) (entryFrame m ([Value.ref b] : List Value).toArray 4) := by
  have hA : ∀ q : Nat, s.heap.size ≤ q → (fun q : Nat => s.heap.size ≤ q) q := fun _ h => h
  obtain ⟨c0, i0, hKn0⟩ := u_known (C := RX0) (T := TX0) (N := 5) (n := 5) hts inlX0 (hts (.instantiable RX0 5) (by decide +kernel))
  obtain ⟨c1, i1, hKn1⟩ := u_known (C := RX1) (T := TX1) (N := 7) (n := 7) hts inlX1 (hts (.instantiable RX1 7) (by decide +kernel))
  obtain ⟨c2, i2, hKn2⟩ := u_known (C := RX2) (T := TX2) (N := 9) (n := 9) hts inlX2 (hts (.instantiable RX2 9) (by decide +kernel))
  obtain ⟨c3, i3, hKn3⟩ := u_known (C := RX3) (T := TX3) (N := 2) (n := 2) hts inlX3 (hts (.instantiable RX3 2) (by decide +kernel))
  obtain ⟨c4, i4, hKn4⟩ := u_known (C := RX4) (T := TX4) (N := 11) (n := 11) hts inlX4 (hts (.instantiable RX4 11) (by decide +kernel))
  obtain ⟨c5, i5, hKn5⟩ := u_known (C := RX5) (T := TX5) (N := 1) (n := 1) hts inlX5 (hts (.instantiable RX5 1) (by decide +kernel))
  obtain ⟨c6, i6, hKn6⟩ := u_known (C := RX6) (T := TX6) (N := 1) (n := 1) hts inlX6 (hts (.instantiable RX6 1) (by decide +kernel))
  obtain ⟨c7, i7, hKn7⟩ := u_known (C := RX7) (T := TX7) (N := 4) (n := 4) hts inlX7 (hts (.instantiable RX7 4) (by decide +kernel))
  obtain ⟨c8, i8, hKn8⟩ := u_known (C := RX8) (T := TX8) (N := 2) (n := 2) hts inlX8 (hts (.instantiable RX8 2) (by decide +kernel))
  obtain ⟨c9, i9, hKn9⟩ := u_known (C := RX9) (T := TX9) (N := 4) (n := 4) hts inlX9 (hts (.instantiable RX9 4) (by decide +kernel))
  obtain ⟨c10, i10, hKn10⟩ := u_known (C := RX10) (T := TX10) (N := 9) (n := 9) hts inlX10 (hts (.instantiable RX10 9) (by decide +kernel))
  obtain ⟨c11, i11, hKn11⟩ := u_known (C := RX11) (T := TX11) (N := 13) (n := 13) hts inlX11 (hts (.instantiable RX11 13) (by decide +kernel))
  obtain ⟨c12, i12, hKn12⟩ := u_known (C := RX12) (T := TX12) (N := 28) (n := 28) hts inlX12 (hts (.instantiable RX12 28) (by decide +kernel))
  obtain ⟨dC, dI, hKc⟩ : ∃ (dC : Nat → ClassId) (dI : Nat → Nat → Nat), ∀ (k : Nat) (q : vw_C), vwCl[k]? = some q → u_Kn s q.1 q.2.1 q.2.2 (dC k) (dI k) := by
    refine ⟨fun k => if k = 0 then c0 else if k = 1 then c1 else if k = 2 then c2 else if k = 3 then c3 else if k = 4 then c4 else if k = 5 then c5 else if k = 6 then c6 else if k = 7 then c7 else if k = 8 then c8 else if k = 9 then c9 else if k = 10 then c10 else if k = 11 then c11 else c12, fun k => if k = 0 then i0 else if k = 1 then i1 else if k = 2 then i2 else if k = 3 then i3 else if k = 4 then i4 else if k = 5 then i5 else if k = 6 then i6 else if k = 7 then i7 else if k = 8 then i8 else if k = 9 then i9 else if k = 10 then i10 else if k = 11 then i11 else i12, ?_⟩
    intro k q hq
    match k, hq with
    | 0, hq => cases hq; exact hKn0
    | 1, hq => cases hq; exact hKn1
    | 2, hq => cases hq; exact hKn2
    | 3, hq => cases hq; exact hKn3
    | 4, hq => cases hq; exact hKn4
    | 5, hq => cases hq; exact hKn5
    | 6, hq => cases hq; exact hKn6
    | 7, hq => cases hq; exact hKn7
    | 8, hq => cases hq; exact hKn8
    | 9, hq => cases hq; exact hKn9
    | 10, hq => cases hq; exact hKn10
    | 11, hq => cases hq; exact hKn11
    | 12, hq => cases hq; exact hKn12
    | k + 13, hq => simp [vwCl] at hq
  have hS : va_S (fun q : Nat => s.heap.size ≤ q) s.heap s.heap [] := va_S.rf
  have hK : va_K (dC, dI) vwCl [] s := ⟨hKc, fun k q h => by simp at h⟩
  have hP : va_P (dC, dI) vwCl [] s.heap := fun k q h => by simp at h
  have hD : va_D (fun q : Nat => s.heap.size ≤ q) [] := ⟨fun i j p q h => by simp at h, fun k q h => by simp at h⟩
  have hl := lv_entry ([.ref b]) (n := 4) (Nat.le_of_ble_eq_true rfl)
  rw [lg_entry_eq]
  generalize (lg_sl ([.ref b]) ++ List.replicate (4 - (lg_sl ([.ref b])).length) Slot.unset).toArray = ls at hl ⊢
  have hl : lv_has ls 4 [(0, .ref b)] := hl
  refine va_new (ci := 11) (fs := [.null, .null, .null, .null, .null, .null, .null, .null, .null, .null, .null, .int 0, .int 0]) (C := RX11) (T := TX11) (N := 13) hx hb hts inlX11 tyX11 tyX11_ok hown (hts (.classLink RL 7 RX11) (by decide +kernel)) (hts (.instantiable RX11 13) (by decide +kernel)) (hts (.initialized RX11) (by decide +kernel)) hK hP hD hS hA rfl (fun j hj => by rcases (show j = 0 ∨ j = 1 ∨ j = 2 ∨ j = 3 ∨ j = 4 ∨ j = 5 ∨ j = 6 ∨ j = 7 ∨ j = 8 ∨ j = 9 ∨ j = 10 ∨ j = 11 ∨ j = 12 by omega) with rfl | rfl | rfl | rfl | rfl | rfl | rfl | rfl | rfl | rfl | rfl | rfl | rfl <;> rfl) (Nat.le_of_ble_eq_true rfl) (Nat.le_of_ble_eq_true rfl) dL_law_0 (fun q0 H hP hD hS => ?_)
  have hP : va_P (dC, dI) vwCl [(q0, .inr (11, [.null, .null, .null, .null, .null, .null, .null, .null, .null, .null, .null, .int 0, .int 0]))] H := hP
  have hD : va_D (fun q : Nat => s.heap.size ≤ q) [(q0, .inr (11, [.null, .null, .null, .null, .null, .null, .null, .null, .null, .null, .null, .int 0, .int 0]))] := hD
  refine W.widen (k := 1) (n := 13) (Nat.le_of_ble_eq_true rfl) (Nat.le_of_ble_eq_true rfl) ?_
  refine lv_dup hx hb dL_law_3 rfl ?_
  refine rf_enter (As := []) (a := q0) (rest := [.ref q0]) (n := 4) (rm := { frames := 4, cells := 38, slots := 9413, locals := 75 }) (ws := wsX11_init) hx hb (fun _ _ => hml) hown rfl (hts (.methodLink RL 9 yX11_init) (by decide +kernel)) (hts (.instanceMethod yX11_init) (by decide +kernel)) (hts (.initialized RX11) (by decide +kernel)) hts gL_law_X11_init rfl (by decide) ⟨by decide, by decide⟩ hl.1 (by decide +kernel) (Nat.le_of_ble_eq_true rfl) dL_law_4 ⟨Nat.le_of_ble_eq_true rfl, Nat.le_of_ble_eq_true rfl⟩ (Nat.le_of_ble_eq_true rfl) (Nat.le_of_ble_eq_true rfl) ?_
  intro s' mk mid methY cY s₁ hh hW hu B hlY
  have hP' : va_P (dC, dI) vwCl [(q0, .inr (11, [.null, .null, .null, .null, .null, .null, .null, .null, .null, .null, .null, .int 0, .int 0]))] s'.heap := by rw [hh]; exact hP
  exact rf_x dC dI q0 B hlY rfl s.slotsUsed hu hP' (va_K.moved hW.alike hK) (hD.weaken (fun _ _ _ _ => trivial)) (rf_nz_warm hW hN) s₁ (by rw [B.state]; rfl) (Stand.of_body B)
theorem rf_nests_in : ∀ w ∈ rf_nests, w ∈ tables_1 := rf_nests_tbl
theorem rf_nests_tab : ∀ w ∈ rf_nests, w.onTables = true := by decide +kernel
theorem rf_tbl_in : ∀ w ∈ wsT, w ∈ tables_1 := fun w h => (t_wsT w h).1
set_option maxHeartbeats 4000000 in
/-- EVERY START IS A COUNTEREXAMPLE: whatever start the Statement allows, the first limb fails there (in an environment that admits more slots): the class makes more than 1180 slots -/
theorem rf_falls {l : Launch} {p : Program} {e : Env} {s : State} {m : MethodId} {args : Array Value} {below : List Frame} (hfl : l.flags = flags0)
    (h : AtStart classFile x code maxLocals ret World_1 tables_1 room_1 Calls_1 rest_1 Pre_1 l p e s m args below) : ¬ Claimed_1_1 := by
  intro hC
  obtain ⟨hLists, hWorld, hadm, -, hcas, hclk, hfr, hfit, hhf, happ, hcalls, hrest, hpre⟩ := h
  obtain ⟨hloose, hripe⟩ := (Spec.applies_iff_loose hfr).mp happ
  obtain ⟨hrun, hable, halone, hname, hhears, hinit, hroom, hatoms⟩ := (Spec.appliesLoose_iff hfr).mp hloose
  have hadm' : l.admits { e with platform := { e.platform with maxSlots := e.platform.maxSlots + 10000 } } := by
    obtain ⟨a1, a2, a3, a4, a5, a6, a7, a8, a9⟩ := hadm
    exact ⟨a1, a2, a3, a4, congrArg (fun q : Platform => { q with maxSlots := e.platform.maxSlots + 10000 }) a5, a6, a7, Nat.le_trans a8 (Nat.le_add_right _ _), a9⟩
  have hroom' : ∀ n, n ≤ 10000 + 1180 → s.hasRoom { e.platform with maxSlots := e.platform.maxSlots + 10000 } { frames := 12, cells := 68, slots := n, locals := 472 } = true := by
    intro n hn
    have hroom1 : s.hasRoom e.platform { frames := 12, cells := 68, slots := 1180, locals := 472 } = true := hroom
    simp only [State.hasRoom, Bool.and_eq_true, decide_eq_true_eq] at hroom1 ⊢
    obtain ⟨⟨⟨⟨r1, r2⟩, r3⟩, r4⟩, r5⟩ := hroom1
    refine ⟨⟨⟨⟨r1, r2⟩, r3⟩, ?_⟩, r5⟩
    have r4 : s.slotsUsed + 1180 ≤ e.platform.maxSlots := r4
    omega
  have happ' : (headSpec (Cond.code x code maxLocals ret :: tables_1) room_1).applies x { e.platform with maxSlots := e.platform.maxSlots + 10000 } s = true :=
    (Spec.applies_iff_loose hfr).mpr ⟨(Spec.appliesLoose_iff hfr).mpr ⟨hrun, hable, halone, hname, hhears, hinit, hroom' 1180 (by omega), hatoms⟩, hripe⟩
  have happ2 : (headSpec (Cond.code x code maxLocals ret :: tables_1) rf_room).appliesLoose x { e.platform with maxSlots := e.platform.maxSlots + 10000 } s = true :=
    (Spec.appliesLoose_iff hfr).mpr ⟨hrun, hable, halone, hname, hhears, hinit, hroom' 9500 (by omega), hatoms⟩
  obtain ⟨n, o, hw, hrun2, hend, hpost⟩ := hC l hfl hLists hWorld p { e with platform := { e.platform with maxSlots := e.platform.maxSlots + 10000 } } hadm' hcas hclk s m args below hfr hfit hhf happ' ⟨hcalls, hrest, hpre⟩
  obtain ⟨b, rfl⟩ : ∃ b, args = #[.ref b] := by
    have hs := flat_of_before _ (show (Jvm.Cond.and given_1 narrow_1).before args s = true from hpre)
    have hc : (Cond.count 1).before args s = true := hs _ (by decide +kernel)
    have hr : (Cond.isRef (.arg 0)).before args s = true := hs _ (by decide +kernel)
    have harr : (Cond.arrayOf (.arg 0) .int).before args s = true := hs _ (by decide +kernel)
    have hq := flat_of_before _ (show rest_1_c.before args s = true from hrest)
    have hlen : (Cond.isInt (.length (.arg 0))).before args s = true := hq _ (by decide +kernel)
    have hall : (Cond.all (.arg 0) (.isInt (.elem (.arg 0) (.index 0)))).before args s = true := hq _ (by decide +kernel)
    obtain ⟨b, xs, hb, hx⟩ := State.ints_of_pre rfl harr hlen hall
    exact ⟨b, Cond.one_arg hc (show args[0]? = some (.ref b) from hb)⟩
  have hts0 : ∀ c ∈ (Cond.code x code maxLocals ret :: tables_1), c.before #[Value.ref b] s = true := atoms_spec (ws := Cond.code x code maxLocals ret :: tables_1) hatoms
  have hN : rf_nz s := fun w hw => by
    have h1 := hts0 w (List.mem_cons_of_mem _ (rf_nests_in w hw))
    exact va_Nw.of (rf_nests_tab w hw) h1
  obtain ⟨t, hst, hG1, hG2⟩ := rf_body (y := x) (cd := code) (nL := maxLocals) (rt := ret) (p := p) (G := rf_G below s.slotsUsed) (S := headSpec (Cond.code x code maxLocals ret :: tables_1) rf_room) (by decide) (hts0 _ List.mem_cons_self) hadm' hcas hclk hfr happ2
    (fun meth c s₁ B hml => rf_law l B.exec B.bytes hml (findClass_of_methodNamed B.named) (fun w h => hts0 w (List.mem_cons_of_mem _ (rf_tbl_in w h))) hN s₁ (by rw [B.state]; rfl) (Stand.of_body B))
  have hst' : Steps p.tables { e with platform := { e.platform with maxSlots := e.platform.maxSlots + 10000 } } below s t := Steps.head ⟨hrun, hable, halone⟩ ⟨[.invoking m #[Value.ref b]], hfr, by simp, by simp⟩ hst
  obtain ⟨k, hk, hkt⟩ := Steps.moment hst' hG1
  have hkn : k < n := by
    rcases Nat.lt_or_ge k n with q | q
    · exact q
    · exact absurd (hk n q) hend.not_within
  have hmono : t.slotsUsed ≤ (stepsAlone p.tables { e with platform := { e.platform with maxSlots := e.platform.maxSlots + 10000 } } n s).slotsUsed := by
    have h1 := (stepsAlone_heap_grows p.tables { e with platform := { e.platform with maxSlots := e.platform.maxSlots + 10000 } } (n - k) (stepsAlone p.tables { e with platform := { e.platform with maxSlots := e.platform.maxSlots + 10000 } } k s)).2
    rw [← stepsAlone_add, show k + (n - k) = n by omega, hkt] at h1
    exact h1
  obtain ⟨-, -, -, hsame⟩ := hpost
  have h4 := hsame.2.2.2.1
  have h5 := hsame.2.2.2.2.1
  generalize stepsAlone p.tables { e with platform := { e.platform with maxSlots := e.platform.maxSlots + 10000 } } n s = z at *
  have h4 : z.slotsUsed = s.slotsUsed + ((z.heap.toList.drop s.heap.size).map (·.slots.size)).sum := h4
  have h5 : ((z.heap.toList.drop s.heap.size).map (·.slots.size)).sum ≤ 1180 := h5
  have hG2 : s.slotsUsed + 4096 ≤ t.slotsUsed := hG2
  omega
/-- the Statement's own witness (printed as witness_1) refutes its first limb -/
theorem rf_whole (h : WitnessClaimed_1) : ¬ (Claimed_1_1 ∧ Claimed_1_2) := by
  obtain ⟨p, e, s, m, args, below, hs⟩ := h
  exact fun hC => rf_falls rfl hs hC.1
end
