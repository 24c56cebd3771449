section
-- ===== PART A: goes FIRST, ahead of the names: the tables' words, and 'selects' of the private methods out of them =====
/-- a private method of a class that the tables say can be made, by its rows of tables_1 -/
def lw_okq (q : MethodName × Nat) : Prop := (q.1.cls ≠ "java/lang/invoke/MethodHandle" ∧ q.1.cls ≠ "java/lang/invoke/VarHandle") ∧ Cond.instantiable q.1.cls q.2 ∈ tables_1 ∧ Cond.privateMethod q.1 ∈ tables_1 ∧ Cond.instanceMethod q.1 ∈ tables_1
theorem lw_p0 : lw_okq (⟨"MusicHoles$History", "placeOf", "(I)I"⟩, 3) := ⟨⟨by decide +kernel, by decide +kernel⟩, List.mem_of_getElem? (i := 100) (by decide +kernel), List.mem_of_getElem? (i := 161) (by decide +kernel), List.mem_of_getElem? (i := 162) (by decide +kernel)⟩
theorem lw_p1 : lw_okq (⟨"MusicHoles$Roll", "placeFor", "(II)I"⟩, 7) := ⟨⟨by decide +kernel, by decide +kernel⟩, List.mem_of_getElem? (i := 19) (by decide +kernel), List.mem_of_getElem? (i := 222) (by decide +kernel), List.mem_of_getElem? (i := 223) (by decide +kernel)⟩
theorem lw_p2 : lw_okq (⟨"MusicHoles$Roll", "move", "(II)V"⟩, 7) := ⟨⟨by decide +kernel, by decide +kernel⟩, List.mem_of_getElem? (i := 19) (by decide +kernel), List.mem_of_getElem? (i := 226) (by decide +kernel), List.mem_of_getElem? (i := 227) (by decide +kernel)⟩
theorem lw_p3 : lw_okq (⟨"MusicHoles", "isFreeAt", "(III)Z"⟩, 7) := ⟨⟨by decide +kernel, by decide +kernel⟩, List.mem_of_getElem? (i := 11) (by decide +kernel), List.mem_of_getElem? (i := 313) (by decide +kernel), List.mem_of_getElem? (i := 314) (by decide +kernel)⟩
theorem lw_p4 : lw_okq (⟨"MusicHoles$Paper", "punch", "(II)V"⟩, 3) := ⟨⟨by decide +kernel, by decide +kernel⟩, List.mem_of_getElem? (i := 54) (by decide +kernel), List.mem_of_getElem? (i := 381) (by decide +kernel), List.mem_of_getElem? (i := 382) (by decide +kernel)⟩
theorem lw_p5 : lw_okq (⟨"MusicHoles$Paper", "listen", "(I)V"⟩, 3) := ⟨⟨by decide +kernel, by decide +kernel⟩, List.mem_of_getElem? (i := 54) (by decide +kernel), List.mem_of_getElem? (i := 388) (by decide +kernel), List.mem_of_getElem? (i := 389) (by decide +kernel)⟩
theorem lw_p6 : lw_okq (⟨"MusicHoles", "isHeardWhole", "(I)Z"⟩, 7) := ⟨⟨by decide +kernel, by decide +kernel⟩, List.mem_of_getElem? (i := 11) (by decide +kernel), List.mem_of_getElem? (i := 428) (by decide +kernel), List.mem_of_getElem? (i := 429) (by decide +kernel)⟩
theorem lw_p7 : lw_okq (⟨"MusicHoles$Paper", "startsSound", "(II)Z"⟩, 3) := ⟨⟨by decide +kernel, by decide +kernel⟩, List.mem_of_getElem? (i := 54) (by decide +kernel), List.mem_of_getElem? (i := 445) (by decide +kernel), List.mem_of_getElem? (i := 446) (by decide +kernel)⟩
theorem lw_p8 : lw_okq (⟨"MusicHoles", "allSounds", "()I"⟩, 7) := ⟨⟨by decide +kernel, by decide +kernel⟩, List.mem_of_getElem? (i := 11) (by decide +kernel), List.mem_of_getElem? (i := 485) (by decide +kernel), List.mem_of_getElem? (i := 486) (by decide +kernel)⟩
theorem lw_p9 : lw_okq (⟨"MusicHoles", "notesWithGap", "()I"⟩, 7) := ⟨⟨by decide +kernel, by decide +kernel⟩, List.mem_of_getElem? (i := 11) (by decide +kernel), List.mem_of_getElem? (i := 493) (by decide +kernel), List.mem_of_getElem? (i := 494) (by decide +kernel)⟩
def lw_privs_1 : List (MethodName × Nat) := [(⟨"MusicHoles$History", "placeOf", "(I)I"⟩, 3), (⟨"MusicHoles$Roll", "placeFor", "(II)I"⟩, 7), (⟨"MusicHoles$Roll", "move", "(II)V"⟩, 7), (⟨"MusicHoles", "isFreeAt", "(III)Z"⟩, 7), (⟨"MusicHoles$Paper", "punch", "(II)V"⟩, 3), (⟨"MusicHoles$Paper", "listen", "(I)V"⟩, 3), (⟨"MusicHoles", "isHeardWhole", "(I)Z"⟩, 7), (⟨"MusicHoles$Paper", "startsSound", "(II)Z"⟩, 3), (⟨"MusicHoles", "allSounds", "()I"⟩, 7), (⟨"MusicHoles", "notesWithGap", "()I"⟩, 7)]
theorem lw_r1 : ∀ q ∈ lw_privs_1, lw_okq q := List.forall_mem_cons.mpr ⟨lw_p0, List.forall_mem_cons.mpr ⟨lw_p1, List.forall_mem_cons.mpr ⟨lw_p2, List.forall_mem_cons.mpr ⟨lw_p3, List.forall_mem_cons.mpr ⟨lw_p4, List.forall_mem_cons.mpr ⟨lw_p5, List.forall_mem_cons.mpr ⟨lw_p6, List.forall_mem_cons.mpr ⟨lw_p7, List.forall_mem_cons.mpr ⟨lw_p8, List.forall_mem_cons.mpr ⟨lw_p9, fun _ h => absurd h List.not_mem_nil⟩⟩⟩⟩⟩⟩⟩⟩⟩⟩
def lw_privs : List (MethodName × Nat) := lw_privs_1
def lw_tbl : List Cond := k2_sels lw_privs ++ tables_1
theorem lw_privs_ok : ∀ q ∈ lw_privs, lw_okq q := lw_r1
/-! ===== BEGIN words of one list among another's, by their places ===== -/
theorem goodIn_r {big : List Cond} (ws : List Cond) (ps : List Nat) (hp : ws = ps.filterMap (fun i => big[i]?)) (h : ws.all goodWord = true) : GoodIn big ws := by
  intro w hw
  have h1 := List.all_eq_true.mp h w hw
  rw [hp] at hw
  obtain ⟨i, -, hi⟩ := List.mem_filterMap.mp hw
  have hm : w ∈ big := by first | exact List.mem_of_getElem? hi | exact List.getElem?_mem hi
  exact ⟨hm, good_of_word h1⟩
theorem goodIn_app {big a b : List Cond} (ha : GoodIn big a) (hb : GoodIn big b) : GoodIn big (a ++ b) := fun w h => (List.mem_append.mp h).elim (ha w) (hb w)
theorem goodIn_ca {big a b : List Cond} {c : Cond} (ha : GoodIn big (c :: a)) (hb : GoodIn big b) : GoodIn big (c :: (a ++ b)) := fun w h => (List.mem_cons.mp h).elim (fun e => ha w (List.mem_cons.mpr (Or.inl e))) (fun h => (List.mem_append.mp h).elim (fun h => ha w (List.mem_cons.mpr (Or.inr h))) (hb w))
theorem goodIn_sub {big ws : List Cond} (hm : ∀ w ∈ ws, w ∈ big) (h : ws.all goodWord = true) : GoodIn big ws := fun w hw => ⟨hm w hw, good_of_word (List.all_eq_true.mp h w hw)⟩
/-! ===== END ===== -/

/-! ===== BEGIN printed: names, fields, word lists, decode rows ===== -/
def RX0 : String := "MusicHoles$History"
def TX0 : u_T := fun k => match k with
  | 0 => ("MusicHoles$History", "states", "[LMusicHoles$Roll;", true)
  | 1 => ("MusicHoles$History", "oldest", "I", false)
  | _ => ("MusicHoles$History", "size", "I", false)
def tyX0 : Nat → FieldType := fun k => match k with
  | 0 => .array (.object "MusicHoles$Roll")
  | 1 => .int
  | _ => .int
abbrev wsX00 : List Cond := u_ws RX0 TX0 3
theorem nmX0 : ∀ a, a < 3 → ∀ b, b < 3 → a ≠ b → (TX0 a).2.1 ≠ (TX0 b).2.1 := by decide +kernel
theorem tyX0_ok : ∀ k, k < 3 → parseFieldDescriptor (TX0 k).2.2.1 = some (tyX0 k) := by decide +kernel
abbrev cX0_init : ByteArray := prog_2_method_1_code
def yX0_init : MethodName := ⟨RX0, "<init>", "()V"⟩
abbrev cX0_size : ByteArray := prog_2_method_2_code
def yX0_size : MethodName := ⟨RX0, "size", "()I"⟩
abbrev cX0_record : ByteArray := prog_2_method_3_code
def yX0_record : MethodName := ⟨RX0, "record", "(LMusicHoles$Roll;)V"⟩
abbrev cX0_placeOf : ByteArray := prog_2_method_5_code
def yX0_placeOf : MethodName := ⟨RX0, "placeOf", "(I)I"⟩
def RX1 : String := "MusicHoles$Pad"
def TX1 : u_T := fun k => match k with
  | 0 => ("MusicHoles$Pad", "text", "[C", true)
  | 1 => ("MusicHoles$Pad", "length", "I", false)
  | 2 => ("MusicHoles$Pad", "position", "I", false)
  | 3 => ("MusicHoles$Pad", "tracks", "[I", true)
  | 4 => ("MusicHoles$Pad", "firsts", "[I", true)
  | 5 => ("MusicHoles$Pad", "lasts", "[I", true)
  | 6 => ("MusicHoles$Pad", "accents", "[Z", true)
  | _ => ("MusicHoles$Pad", "found", "I", false)
def tyX1 : Nat → FieldType := fun k => match k with
  | 0 => .array .char
  | 1 => .int
  | 2 => .int
  | 3 => .array .int
  | 4 => .array .int
  | 5 => .array .int
  | 6 => .array .boolean
  | _ => .int
abbrev wsX10 : List Cond := u_ws RX1 TX1 8
theorem nmX1 : ∀ a, a < 8 → ∀ b, b < 8 → a ≠ b → (TX1 a).2.1 ≠ (TX1 b).2.1 := by decide +kernel
theorem tyX1_ok : ∀ k, k < 8 → parseFieldDescriptor (TX1 k).2.2.1 = some (tyX1 k) := by decide +kernel
abbrev cX1_init : ByteArray := prog_3_method_1_code
def yX1_init : MethodName := ⟨RX1, "<init>", "()V"⟩
abbrev cX1_length : ByteArray := prog_3_method_2_code
def yX1_length : MethodName := ⟨RX1, "length", "()I"⟩
def RX2 : String := "MusicHoles$Paper"
def TX2 : u_T := fun k => match k with
  | 0 => ("MusicHoles$Paper", "holes", "[I", true)
  | 1 => ("MusicHoles$Paper", "heard", "[I", true)
  | _ => ("MusicHoles$Paper", "weak", "I", false)
def tyX2 : Nat → FieldType := fun k => match k with
  | 0 => .array .int
  | 1 => .array .int
  | _ => .int
abbrev wsX20 : List Cond := u_ws RX2 TX2 3
theorem nmX2 : ∀ a, a < 3 → ∀ b, b < 3 → a ≠ b → (TX2 a).2.1 ≠ (TX2 b).2.1 := by decide +kernel
theorem tyX2_ok : ∀ k, k < 3 → parseFieldDescriptor (TX2 k).2.2.1 = some (tyX2 k) := by decide +kernel
abbrev cX2_init : ByteArray := prog_4_method_1_code
def yX2_init : MethodName := ⟨RX2, "<init>", "()V"⟩
abbrev cX2_perforate : ByteArray := prog_4_method_2_code
def yX2_perforate : MethodName := ⟨RX2, "perforate", "(LMusicHoles$Roll;)V"⟩
abbrev cX2_punch : ByteArray := prog_4_method_3_code
def yX2_punch : MethodName := ⟨RX2, "punch", "(II)V"⟩
abbrev cX2_listen : ByteArray := prog_4_method_4_code
def yX2_listen : MethodName := ⟨RX2, "listen", "(I)V"⟩
abbrev cX2_holesAt : ByteArray := prog_4_method_5_code
def yX2_holesAt : MethodName := ⟨RX2, "holesAt", "(I)I"⟩
abbrev cX2_heardAt : ByteArray := prog_4_method_6_code
def yX2_heardAt : MethodName := ⟨RX2, "heardAt", "(I)I"⟩
abbrev cX2_isHeard : ByteArray := prog_4_method_7_code
def yX2_isHeard : MethodName := ⟨RX2, "isHeard", "(II)Z"⟩
abbrev cX2_sideBySide : ByteArray := prog_4_method_8_code
def yX2_sideBySide : MethodName := ⟨RX2, "sideBySide", "(I)I"⟩
abbrev cX2_isWeak : ByteArray := prog_4_method_9_code
def yX2_isWeak : MethodName := ⟨RX2, "isWeak", "(I)Z"⟩
abbrev cX2_weakSteps : ByteArray := prog_4_method_10_code
def yX2_weakSteps : MethodName := ⟨RX2, "weakSteps", "()I"⟩
abbrev cX2_firstWeakStep : ByteArray := prog_4_method_11_code
def yX2_firstWeakStep : MethodName := ⟨RX2, "firstWeakStep", "()I"⟩
abbrev cX2_allHoles : ByteArray := prog_4_method_12_code
def yX2_allHoles : MethodName := ⟨RX2, "allHoles", "()I"⟩
abbrev cX2_startsSound : ByteArray := prog_4_method_13_code
def yX2_startsSound : MethodName := ⟨RX2, "startsSound", "(II)Z"⟩
abbrev cX2_sounds : ByteArray := prog_4_method_14_code
def yX2_sounds : MethodName := ⟨RX2, "sounds", "(I)I"⟩
abbrev cX2_soundStart : ByteArray := prog_4_method_15_code
def yX2_soundStart : MethodName := ⟨RX2, "soundStart", "(II)I"⟩
abbrev cX2_soundEnd : ByteArray := prog_4_method_16_code
def yX2_soundEnd : MethodName := ⟨RX2, "soundEnd", "(II)I"⟩
def RX3 : String := "MusicHoles$Roll"
def TX3 : u_T := fun k => match k with
  | 0 => ("MusicHoles$Roll", "settings", "[I", true)
  | 1 => ("MusicHoles$Roll", "tracks", "[I", true)
  | 2 => ("MusicHoles$Roll", "firsts", "[I", true)
  | 3 => ("MusicHoles$Roll", "lasts", "[I", true)
  | 4 => ("MusicHoles$Roll", "shifts", "[I", true)
  | 5 => ("MusicHoles$Roll", "accents", "[Z", true)
  | _ => ("MusicHoles$Roll", "notes", "I", false)
def tyX3 : Nat → FieldType := fun k => match k with
  | 0 => .array .int
  | 1 => .array .int
  | 2 => .array .int
  | 3 => .array .int
  | 4 => .array .int
  | 5 => .array .boolean
  | _ => .int
abbrev wsX30 : List Cond := u_ws RX3 TX3 7
theorem nmX3 : ∀ a, a < 7 → ∀ b, b < 7 → a ≠ b → (TX3 a).2.1 ≠ (TX3 b).2.1 := by decide +kernel
theorem tyX3_ok : ∀ k, k < 7 → parseFieldDescriptor (TX3 k).2.2.1 = some (tyX3 k) := by decide +kernel
abbrev cX3_init : ByteArray := prog_5_method_1_code
def yX3_init : MethodName := ⟨RX3, "<init>", "()V"⟩
abbrev cX3_takeSettings : ByteArray := prog_5_method_2_code
def yX3_takeSettings : MethodName := ⟨RX3, "takeSettings", "(LMusicHoles$Roll;)V"⟩
abbrev cX3_become : ByteArray := prog_5_method_3_code
def yX3_become : MethodName := ⟨RX3, "become", "(LMusicHoles$Roll;)V"⟩
abbrev cX3_settingOf : ByteArray := prog_5_method_4_code
def yX3_settingOf : MethodName := ⟨RX3, "settingOf", "(I)I"⟩
abbrev cX3_giveSetting : ByteArray := prog_5_method_5_code
def yX3_giveSetting : MethodName := ⟨RX3, "giveSetting", "(II)V"⟩
abbrev cX3_size : ByteArray := prog_5_method_6_code
def yX3_size : MethodName := ⟨RX3, "size", "()I"⟩
abbrev cX3_has : ByteArray := prog_5_method_7_code
def yX3_has : MethodName := ⟨RX3, "has", "(I)Z"⟩
abbrev cX3_trackOf : ByteArray := prog_5_method_8_code
def yX3_trackOf : MethodName := ⟨RX3, "trackOf", "(I)I"⟩
abbrev cX3_firstOf : ByteArray := prog_5_method_9_code
def yX3_firstOf : MethodName := ⟨RX3, "firstOf", "(I)I"⟩
abbrev cX3_lastOf : ByteArray := prog_5_method_10_code
def yX3_lastOf : MethodName := ⟨RX3, "lastOf", "(I)I"⟩
abbrev cX3_shiftOf : ByteArray := prog_5_method_11_code
def yX3_shiftOf : MethodName := ⟨RX3, "shiftOf", "(I)I"⟩
abbrev cX3_hasAccent : ByteArray := prog_5_method_12_code
def yX3_hasAccent : MethodName := ⟨RX3, "hasAccent", "(I)Z"⟩
abbrev cX3_giveShift : ByteArray := prog_5_method_13_code
def yX3_giveShift : MethodName := ⟨RX3, "giveShift", "(II)V"⟩
abbrev cX3_giveAccent : ByteArray := prog_5_method_14_code
def yX3_giveAccent : MethodName := ⟨RX3, "giveAccent", "(IZ)V"⟩
abbrev cX3_add : ByteArray := prog_5_method_15_code
def yX3_add : MethodName := ⟨RX3, "add", "(IIIIZ)I"⟩
abbrev cX3_placeFor : ByteArray := prog_5_method_16_code
def yX3_placeFor : MethodName := ⟨RX3, "placeFor", "(II)I"⟩
abbrev cX3_move : ByteArray := prog_5_method_17_code
def yX3_move : MethodName := ⟨RX3, "move", "(II)V"⟩
abbrev cX3_remove : ByteArray := prog_5_method_18_code
def yX3_remove : MethodName := ⟨RX3, "remove", "(I)V"⟩
abbrev cX3_isTaken : ByteArray := prog_5_method_19_code
def yX3_isTaken : MethodName := ⟨RX3, "isTaken", "(III)Z"⟩
abbrev cX3_touching : ByteArray := prog_5_method_20_code
def yX3_touching : MethodName := ⟨RX3, "touching", "(III)I"⟩
abbrev cX3_tracksAt : ByteArray := prog_5_method_21_code
def yX3_tracksAt : MethodName := ⟨RX3, "tracksAt", "(I)I"⟩
abbrev cX3_greatestLast : ByteArray := prog_5_method_22_code
def yX3_greatestLast : MethodName := ⟨RX3, "greatestLast", "()I"⟩
abbrev cX3_lengthen : ByteArray := prog_5_method_23_code
def yX3_lengthen : MethodName := ⟨RX3, "lengthen", "(II)I"⟩
abbrev cX3_takeCut : ByteArray := prog_5_method_24_code
def yX3_takeCut : MethodName := ⟨RX3, "takeCut", "(LMusicHoles$Roll;II)V"⟩
abbrev cX3_liesWithin : ByteArray := prog_5_method_25_code
def yX3_liesWithin : MethodName := ⟨RX3, "liesWithin", "(III)Z"⟩
abbrev cX3_within : ByteArray := prog_5_method_26_code
def yX3_within : MethodName := ⟨RX3, "within", "(II)I"⟩
abbrev cX3_addPassage : ByteArray := prog_5_method_27_code
def yX3_addPassage : MethodName := ⟨RX3, "addPassage", "(LMusicHoles$Roll;III)V"⟩
abbrev cX3_isHole : ByteArray := prog_5_method_28_code
def yX3_isHole : MethodName := ⟨RX3, "isHole", "(II)Z"⟩
abbrev cX3_bridges : ByteArray := prog_5_method_29_code
def yX3_bridges : MethodName := ⟨RX3, "bridges", "(I)I"⟩
abbrev cX3_longestBridge : ByteArray := prog_5_method_30_code
def yX3_longestBridge : MethodName := ⟨RX3, "longestBridge", "(I)I"⟩
def RX4 : String := "MusicHoles"
def TX4 : u_T := fun k => match k with
  | 0 => ("MusicHoles", "roll", "LMusicHoles$Roll;", true)
  | 1 => ("MusicHoles", "trial", "LMusicHoles$Roll;", true)
  | 2 => ("MusicHoles", "paper", "LMusicHoles$Paper;", true)
  | 3 => ("MusicHoles", "pad", "LMusicHoles$Pad;", true)
  | 4 => ("MusicHoles", "history", "LMusicHoles$History;", true)
  | 5 => ("MusicHoles", "slots", "[LMusicHoles$Roll;", true)
  | _ => ("MusicHoles", "saved", "[Z", true)
def tyX4 : Nat → FieldType := fun k => match k with
  | 0 => .object "MusicHoles$Roll"
  | 1 => .object "MusicHoles$Roll"
  | 2 => .object "MusicHoles$Paper"
  | 3 => .object "MusicHoles$Pad"
  | 4 => .object "MusicHoles$History"
  | 5 => .array (.object "MusicHoles$Roll")
  | _ => .array .boolean
abbrev wsX40 : List Cond := u_ws RX4 TX4 7
theorem nmX4 : ∀ a, a < 7 → ∀ b, b < 7 → a ≠ b → (TX4 a).2.1 ≠ (TX4 b).2.1 := by decide +kernel
theorem tyX4_ok : ∀ k, k < 7 → parseFieldDescriptor (TX4 k).2.2.1 = some (tyX4 k) := by decide +kernel
abbrev cX4_init : ByteArray := prog_1_method_1_code
def yX4_init : MethodName := ⟨RX4, "<init>", "()V"⟩
abbrev cX4_set : ByteArray := prog_1_method_2_code
def yX4_set : MethodName := ⟨RX4, "set", "(II)I"⟩
abbrev cX4_note : ByteArray := prog_1_method_3_code
def yX4_note : MethodName := ⟨RX4, "note", "(III)I"⟩
abbrev cX4_drop : ByteArray := prog_1_method_4_code
def yX4_drop : MethodName := ⟨RX4, "drop", "(I)I"⟩
abbrev cX4_shift : ByteArray := prog_1_method_5_code
def yX4_shift : MethodName := ⟨RX4, "shift", "(II)I"⟩
abbrev cX4_accent : ByteArray := prog_1_method_6_code
def yX4_accent : MethodName := ⟨RX4, "accent", "(IZ)I"⟩
abbrev cX4_insert : ByteArray := prog_1_method_7_code
def yX4_insert : MethodName := ⟨RX4, "insert", "(II)I"⟩
abbrev cX4_cut : ByteArray := prog_1_method_8_code
def yX4_cut : MethodName := ⟨RX4, "cut", "(II)I"⟩
abbrev cX4_copy : ByteArray := prog_1_method_9_code
def yX4_copy : MethodName := ⟨RX4, "copy", "(III)I"⟩
abbrev cX4_of : ByteArray := prog_1_method_11_code
def yX4_of : MethodName := ⟨RX4, "of", "(II)I"⟩
abbrev cX4_at : ByteArray := prog_1_method_12_code
def yX4_at : MethodName := ⟨RX4, "at", "(II)I"⟩
abbrev cX4_sound : ByteArray := prog_1_method_13_code
def yX4_sound : MethodName := ⟨RX4, "sound", "(III)I"⟩
abbrev cX4_count : ByteArray := prog_1_method_14_code
def yX4_count : MethodName := ⟨RX4, "count", "(I)I"⟩
abbrev cX4_bestShift : ByteArray := prog_1_method_15_code
def yX4_bestShift : MethodName := ⟨RX4, "bestShift", "(II)I"⟩
abbrev cX4_greatestRun : ByteArray := prog_1_method_16_code
def yX4_greatestRun : MethodName := ⟨RX4, "greatestRun", "()I"⟩
abbrev cX4_swallowed : ByteArray := prog_1_method_17_code
def yX4_swallowed : MethodName := ⟨RX4, "swallowed", "(I)I"⟩
abbrev cX4_isIn : ByteArray := prog_1_method_25_code
def yX4_isIn : MethodName := ⟨RX4, "isIn", "(III)Z"⟩
abbrev cX4_isTrack : ByteArray := prog_1_method_26_code
def yX4_isTrack : MethodName := ⟨RX4, "isTrack", "(I)Z"⟩
abbrev cX4_isStep : ByteArray := prog_1_method_27_code
def yX4_isStep : MethodName := ⟨RX4, "isStep", "(I)Z"⟩
abbrev cX4_isPassage : ByteArray := prog_1_method_28_code
def yX4_isPassage : MethodName := ⟨RX4, "isPassage", "(II)Z"⟩
abbrev cX4_asNumber : ByteArray := prog_1_method_29_code
def yX4_asNumber : MethodName := ⟨RX4, "asNumber", "(Z)I"⟩
abbrev cX4_noneIfMissing : ByteArray := prog_1_method_30_code
def yX4_noneIfMissing : MethodName := ⟨RX4, "noneIfMissing", "(I)I"⟩
abbrev cX4_isFreeAt : ByteArray := prog_1_method_33_code
def yX4_isFreeAt : MethodName := ⟨RX4, "isFreeAt", "(III)Z"⟩
abbrev cX4_isHeardWhole : ByteArray := prog_1_method_35_code
def yX4_isHeardWhole : MethodName := ⟨RX4, "isHeardWhole", "(I)Z"⟩
abbrev cX4_notesWithGap : ByteArray := prog_1_method_36_code
def yX4_notesWithGap : MethodName := ⟨RX4, "notesWithGap", "()I"⟩
abbrev cX4_allSounds : ByteArray := prog_1_method_37_code
def yX4_allSounds : MethodName := ⟨RX4, "allSounds", "()I"⟩
def RX5 : String := "MusicHolesModel"
def TX5 : u_T := fun k => match k with
  | _ => ("", "", "", false)
def tyX5 : Nat → FieldType := fun k => match k with
  | _ => .int
abbrev wsX50 : List Cond := u_ws RX5 TX5 0
theorem nmX5 : ∀ a, a < 0 → ∀ b, b < 0 → a ≠ b → (TX5 a).2.1 ≠ (TX5 b).2.1 := by decide +kernel
theorem tyX5_ok : ∀ k, k < 0 → parseFieldDescriptor (TX5 k).2.2.1 = some (tyX5 k) := by decide +kernel
def RJ6 : String := "java/lang/Integer"
def TJ6 : u_T := fun k => match k with
  | _ => ("", "", "", false)
def tyJ6 : Nat → FieldType := fun k => match k with
  | _ => .int
abbrev wsJ60 : List Cond := u_ws RJ6 TJ6 0
theorem nmJ6 : ∀ a, a < 0 → ∀ b, b < 0 → a ≠ b → (TJ6 a).2.1 ≠ (TJ6 b).2.1 := by decide +kernel
theorem tyJ6_ok : ∀ k, k < 0 → parseFieldDescriptor (TJ6 k).2.2.1 = some (tyJ6 k) := by decide +kernel
abbrev cJ6_bitCount_0f7a4 : ByteArray := prog_8_method_49_code
def yJ6_bitCount_0f7a4 : MethodName := ⟨RJ6, "bitCount", "(I)I"⟩
def RJ9 : String := "java/lang/Math"
def TJ9 : u_T := fun k => match k with
  | _ => ("", "", "", false)
def tyJ9 : Nat → FieldType := fun k => match k with
  | _ => .int
abbrev wsJ90 : List Cond := u_ws RJ9 TJ9 0
theorem nmJ9 : ∀ a, a < 0 → ∀ b, b < 0 → a ≠ b → (TJ9 a).2.1 ≠ (TJ9 b).2.1 := by decide +kernel
theorem tyJ9_ok : ∀ k, k < 0 → parseFieldDescriptor (TJ9 k).2.2.1 = some (tyJ9 k) := by decide +kernel
abbrev cJ9_floorMod_7cf53 : ByteArray := prog_9_method_50_code
def yJ9_floorMod_7cf53 : MethodName := ⟨RJ9, "floorMod", "(II)I"⟩
abbrev cJ9_max_7cf53 : ByteArray := prog_9_method_65_code
def yJ9_max_7cf53 : MethodName := ⟨RJ9, "max", "(II)I"⟩
abbrev cJ9_min_7cf53 : ByteArray := prog_9_method_69_code
def yJ9_min_7cf53 : MethodName := ⟨RJ9, "min", "(II)I"⟩
def RJ10 : String := "java/lang/System"
def TJ10 : u_T := fun k => match k with
  | _ => ("", "", "", false)
def tyJ10 : Nat → FieldType := fun k => match k with
  | _ => .int
abbrev wsJ100 : List Cond := u_ws RJ10 TJ10 0
theorem nmJ10 : ∀ a, a < 0 → ∀ b, b < 0 → a ≠ b → (TJ10 a).2.1 ≠ (TJ10 b).2.1 := by decide +kernel
theorem tyJ10_ok : ∀ k, k < 0 → parseFieldDescriptor (TJ10 k).2.2.1 = some (tyJ10 k) := by decide +kernel
def RJ7 : String := "java/util/Arrays"
def TJ7 : u_T := fun k => match k with
  | _ => ("", "", "", false)
def tyJ7 : Nat → FieldType := fun k => match k with
  | _ => .int
abbrev wsJ70 : List Cond := u_ws RJ7 TJ7 0
theorem nmJ7 : ∀ a, a < 0 → ∀ b, b < 0 → a ≠ b → (TJ7 a).2.1 ≠ (TJ7 b).2.1 := by decide +kernel
theorem tyJ7_ok : ∀ k, k < 0 → parseFieldDescriptor (TJ7 k).2.2.1 = some (tyJ7 k) := by decide +kernel
abbrev cJ7_fill_53178 : ByteArray := prog_11_method_103_code
def yJ7_fill_53178 : MethodName := ⟨RJ7, "fill", "([II)V"⟩
def RL : String := "MusicHolesLaw"
abbrev cL_cell : ByteArray := method_2_code
def yL_cell : MethodName := ⟨RL, "cell", "([II)I"⟩
abbrev cL_low : ByteArray := method_3_code
def yL_low : MethodName := ⟨RL, "low", "(II)I"⟩
abbrev cL_hole : ByteArray := method_4_code
def yL_hole : MethodName := ⟨RL, "hole", "(II[I[I)Z"⟩
abbrev cL_holes : ByteArray := method_5_code
def yL_holes : MethodName := ⟨RL, "holes", "([I[I[I)V"⟩
abbrev cL_side : ByteArray := method_6_code
def yL_side : MethodName := ⟨RL, "side", "(I)I"⟩
abbrev cL_heard : ByteArray := method_7_code
def yL_heard : MethodName := ⟨RL, "heard", "(I[I[I)I"⟩
abbrev cL_weak : ByteArray := method_8_code
def yL_weak : MethodName := ⟨RL, "weak", "([I[I[I)I"⟩
abbrev cL_taken : ByteArray := method_9_code
def yL_taken : MethodName := ⟨RL, "taken", "(III[I[I)Z"⟩
abbrev cL_sort : ByteArray := method_10_code
def yL_sort : MethodName := ⟨RL, "sort", "([I[I)V"⟩
abbrev cL_add : ByteArray := method_11_code
def yL_add : MethodName := ⟨RL, "add", "(IIIII[I[I)V"⟩
abbrev cL_same : ByteArray := method_12_code
def yL_same : MethodName := ⟨RL, "same", "(LMusicHoles;I[I[I[I)Z"⟩
abbrev cL_would : ByteArray := method_13_code
def yL_would : MethodName := ⟨RL, "would", "(LMusicHoles;I[I[I[I)Z"⟩
abbrev cL_law : ByteArray := code
def yL_law : MethodName := ⟨RL, "law", "([I)Z"⟩
def wsX3_init : List Cond := .code yX3_init cX3_init 1 none :: ([.methodLink RX3 3 objectInit, .instanceMethod objectInit, .code objectInit ⟨#[0xb1]⟩ 1 none, .arrayClass .int, .fieldLink RX3 9 "MusicHoles$Roll" "settings" "[I", .fieldLink RX3 15 "MusicHoles$Roll" "tracks" "[I", .fieldLink RX3 18 "MusicHoles$Roll" "firsts" "[I", .fieldLink RX3 21 "MusicHoles$Roll" "lasts" "[I", .fieldLink RX3 24 "MusicHoles$Roll" "shifts" "[I", .arrayClass .boolean, .fieldLink RX3 27 "MusicHoles$Roll" "accents" "[Z", .methodLink RX3 34 arraycopyName, .native arraycopyName, .static arraycopyName, .initialized "java/lang/System"] ++ wsX30)
def wsX0_init : List Cond := .code yX0_init cX0_init 2 none :: ([.methodLink RX0 3 objectInit, .instanceMethod objectInit, .code objectInit ⟨#[0xb1]⟩ 1 none, .classLink RX0 9 RX3, .fieldLink RX0 11 "MusicHoles$History" "states" "[LMusicHoles$Roll;", .instantiable RX3 7, .initialized RX3, .methodLink RX0 17 yX3_init, .instanceMethod yX3_init, .code yX3_init cX3_init 1 none, .methodLink RX3 3 objectInit, .arrayClass .int, .fieldLink RX3 9 "MusicHoles$Roll" "settings" "[I", .fieldLink RX3 15 "MusicHoles$Roll" "tracks" "[I", .fieldLink RX3 18 "MusicHoles$Roll" "firsts" "[I", .fieldLink RX3 21 "MusicHoles$Roll" "lasts" "[I", .fieldLink RX3 24 "MusicHoles$Roll" "shifts" "[I", .arrayClass .boolean, .fieldLink RX3 27 "MusicHoles$Roll" "accents" "[Z", .methodLink RX3 34 arraycopyName, .native arraycopyName, .static arraycopyName, .initialized "java/lang/System"] ++ wsX00 ++ wsX30)
def wsX0_size : List Cond := .code yX0_size cX0_size 1 (some .int) :: ([.fieldLink RX0 18 "MusicHoles$History" "size" "I"] ++ wsX00)
def wsJ9_floorMod_7cf53 : List Cond := .code yJ9_floorMod_7cf53 cJ9_floorMod_7cf53 3 (some .int) :: ([])
def wsX0_placeOf : List Cond := .code yX0_placeOf cX0_placeOf 2 (some .int) :: ([.fieldLink RX0 30 "MusicHoles$History" "oldest" "I", .methodLink RX0 33 yJ9_floorMod_7cf53, .static yJ9_floorMod_7cf53, .initialized RJ9, .code yJ9_floorMod_7cf53 cJ9_floorMod_7cf53 3 (some .int)] ++ wsX00)
def wsX3_takeSettings : List Cond := .code yX3_takeSettings cX3_takeSettings 2 none :: ([.fieldLink RX3 9 "MusicHoles$Roll" "settings" "[I", .methodLink RX3 34 arraycopyName, .native arraycopyName, .static arraycopyName, .initialized "java/lang/System"] ++ wsX30)
def wsX3_become : List Cond := .code yX3_become cX3_become 3 none :: ([.fieldLink RX3 44 "MusicHoles$Roll" "notes" "I", .fieldLink RX3 15 "MusicHoles$Roll" "tracks" "[I", .fieldLink RX3 18 "MusicHoles$Roll" "firsts" "[I", .fieldLink RX3 21 "MusicHoles$Roll" "lasts" "[I", .fieldLink RX3 24 "MusicHoles$Roll" "shifts" "[I", .fieldLink RX3 27 "MusicHoles$Roll" "accents" "[Z", .methodLink RX3 40 yX3_takeSettings, .instanceMethod yX3_takeSettings, .selects RX3 yX3_takeSettings yX3_takeSettings, .initialized RX3, .code yX3_takeSettings cX3_takeSettings 2 none, .fieldLink RX3 9 "MusicHoles$Roll" "settings" "[I", .methodLink RX3 34 arraycopyName, .native arraycopyName, .static arraycopyName, .initialized "java/lang/System"] ++ wsX30)
def wsX0_record_r1 : List Cond := [Cond.fieldLink RX0 11 "MusicHoles$History" "states" "[LMusicHoles$Roll;", Cond.fieldLink RX0 18 "MusicHoles$History" "size" "I", Cond.fieldLink RX0 30 "MusicHoles$History" "oldest" "I", Cond.methodLink RX0 22 yX0_placeOf, Cond.instanceMethod yX0_placeOf, Cond.selects RX0 yX0_placeOf yX0_placeOf, Cond.initialized RX0, Cond.code yX0_placeOf cX0_placeOf 2 (some .int), Cond.methodLink RX0 33 yJ9_floorMod_7cf53, Cond.static yJ9_floorMod_7cf53, Cond.initialized RJ9, Cond.code yJ9_floorMod_7cf53 cJ9_floorMod_7cf53 3 (some .int), Cond.methodLink RX0 26 yX3_become, Cond.instanceMethod yX3_become, Cond.selects RX3 yX3_become yX3_become, Cond.initialized RX3, Cond.code yX3_become cX3_become 3 none, Cond.fieldLink RX3 44 "MusicHoles$Roll" "notes" "I", Cond.fieldLink RX3 15 "MusicHoles$Roll" "tracks" "[I", Cond.fieldLink RX3 18 "MusicHoles$Roll" "firsts" "[I", Cond.fieldLink RX3 21 "MusicHoles$Roll" "lasts" "[I", Cond.fieldLink RX3 24 "MusicHoles$Roll" "shifts" "[I", Cond.fieldLink RX3 27 "MusicHoles$Roll" "accents" "[Z", Cond.methodLink RX3 40 yX3_takeSettings]
def wsX0_record_r2 : List Cond := [Cond.instanceMethod yX3_takeSettings, Cond.selects RX3 yX3_takeSettings yX3_takeSettings, Cond.code yX3_takeSettings cX3_takeSettings 2 none, Cond.fieldLink RX3 9 "MusicHoles$Roll" "settings" "[I", Cond.methodLink RX3 34 arraycopyName, Cond.native arraycopyName, Cond.static arraycopyName, Cond.initialized "java/lang/System"]
def wsX0_record : List Cond := .code yX0_record cX0_record 2 none :: ((wsX0_record_r1 ++ wsX0_record_r2) ++ wsX00 ++ wsX30)
def wsX1_init : List Cond := .code yX1_init cX1_init 1 none :: ([.methodLink RX1 5 objectInit, .instanceMethod objectInit, .code objectInit ⟨#[0xb1]⟩ 1 none, .arrayClass .char, .fieldLink RX1 11 "MusicHoles$Pad" "text" "[C", .arrayClass .int, .fieldLink RX1 15 "MusicHoles$Pad" "tracks" "[I", .fieldLink RX1 19 "MusicHoles$Pad" "firsts" "[I", .fieldLink RX1 22 "MusicHoles$Pad" "lasts" "[I", .arrayClass .boolean, .fieldLink RX1 25 "MusicHoles$Pad" "accents" "[Z"] ++ wsX10)
def wsX1_length : List Cond := .code yX1_length cX1_length 1 (some .int) :: ([.fieldLink RX1 29 "MusicHoles$Pad" "length" "I"] ++ wsX10)
def wsX2_init : List Cond := .code yX2_init cX2_init 1 none :: ([.methodLink RX2 3 objectInit, .instanceMethod objectInit, .code objectInit ⟨#[0xb1]⟩ 1 none, .arrayClass .int, .fieldLink RX2 9 "MusicHoles$Paper" "holes" "[I", .fieldLink RX2 15 "MusicHoles$Paper" "heard" "[I"] ++ wsX20)
def wsX4_isIn : List Cond := .code yX4_isIn cX4_isIn 3 (some .boolean) :: ([])
def wsX3_settingOf : List Cond := .code yX3_settingOf cX3_settingOf 2 (some .int) :: ([.fieldLink RX3 9 "MusicHoles$Roll" "settings" "[I", .static yX4_isIn, .initialized RX4, .code yX4_isIn cX4_isIn 3 (some .boolean)] ++ wsX30)
def wsJ7_fill_53178 : List Cond := .code yJ7_fill_53178 cJ7_fill_53178 4 none :: ([])
def wsX3_size : List Cond := .code yX3_size cX3_size 1 (some .int) :: ([.fieldLink RX3 44 "MusicHoles$Roll" "notes" "I"] ++ wsX30)
def wsX3_has : List Cond := .code yX3_has cX3_has 2 (some .boolean) :: ([.fieldLink RX3 44 "MusicHoles$Roll" "notes" "I"] ++ wsX30)
def wsX3_trackOf : List Cond := .code yX3_trackOf cX3_trackOf 2 (some .int) :: ([.fieldLink RX3 15 "MusicHoles$Roll" "tracks" "[I", .methodLink RX3 52 yX3_has, .instanceMethod yX3_has, .selects RX3 yX3_has yX3_has, .initialized RX3, .code yX3_has cX3_has 2 (some .boolean), .fieldLink RX3 44 "MusicHoles$Roll" "notes" "I"] ++ wsX30)
def wsX3_firstOf : List Cond := .code yX3_firstOf cX3_firstOf 2 (some .int) :: ([.fieldLink RX3 18 "MusicHoles$Roll" "firsts" "[I", .methodLink RX3 52 yX3_has, .instanceMethod yX3_has, .selects RX3 yX3_has yX3_has, .initialized RX3, .code yX3_has cX3_has 2 (some .boolean), .fieldLink RX3 44 "MusicHoles$Roll" "notes" "I"] ++ wsX30)
def wsX3_lastOf : List Cond := .code yX3_lastOf cX3_lastOf 2 (some .int) :: ([.fieldLink RX3 21 "MusicHoles$Roll" "lasts" "[I", .methodLink RX3 52 yX3_has, .instanceMethod yX3_has, .selects RX3 yX3_has yX3_has, .initialized RX3, .code yX3_has cX3_has 2 (some .boolean), .fieldLink RX3 44 "MusicHoles$Roll" "notes" "I"] ++ wsX30)
def wsX3_shiftOf : List Cond := .code yX3_shiftOf cX3_shiftOf 2 (some .int) :: ([.fieldLink RX3 24 "MusicHoles$Roll" "shifts" "[I", .methodLink RX3 52 yX3_has, .instanceMethod yX3_has, .selects RX3 yX3_has yX3_has, .initialized RX3, .code yX3_has cX3_has 2 (some .boolean), .fieldLink RX3 44 "MusicHoles$Roll" "notes" "I"] ++ wsX30)
def wsX3_isHole : List Cond := .code yX3_isHole cX3_isHole 5 (some .boolean) :: ([.fieldLink RX3 9 "MusicHoles$Roll" "settings" "[I", .methodLink RX3 64 yX3_firstOf, .instanceMethod yX3_firstOf, .selects RX3 yX3_firstOf yX3_firstOf, .initialized RX3, .code yX3_firstOf cX3_firstOf 2 (some .int), .fieldLink RX3 18 "MusicHoles$Roll" "firsts" "[I", .methodLink RX3 52 yX3_has, .instanceMethod yX3_has, .selects RX3 yX3_has yX3_has, .code yX3_has cX3_has 2 (some .boolean), .fieldLink RX3 44 "MusicHoles$Roll" "notes" "I", .methodLink RX3 75 yX3_lastOf, .instanceMethod yX3_lastOf, .selects RX3 yX3_lastOf yX3_lastOf, .code yX3_lastOf cX3_lastOf 2 (some .int), .fieldLink RX3 21 "MusicHoles$Roll" "lasts" "[I", .methodLink RX3 90 yX3_shiftOf, .instanceMethod yX3_shiftOf, .selects RX3 yX3_shiftOf yX3_shiftOf, .code yX3_shiftOf cX3_shiftOf 2 (some .int), .fieldLink RX3 24 "MusicHoles$Roll" "shifts" "[I"] ++ wsX30)
def wsX4_isTrack : List Cond := .code yX4_isTrack cX4_isTrack 1 (some .boolean) :: ([.methodLink RX4 48 yX4_isIn, .static yX4_isIn, .initialized RX4, .code yX4_isIn cX4_isIn 3 (some .boolean)])
def wsX4_isStep : List Cond := .code yX4_isStep cX4_isStep 1 (some .boolean) :: ([.methodLink RX4 48 yX4_isIn, .static yX4_isIn, .initialized RX4, .code yX4_isIn cX4_isIn 3 (some .boolean)])
def wsX2_punch : List Cond := .code yX2_punch cX2_punch 3 none :: ([.fieldLink RX2 9 "MusicHoles$Paper" "holes" "[I", .static yX4_isTrack, .initialized RX4, .code yX4_isTrack cX4_isTrack 1 (some .boolean), .methodLink RX4 48 yX4_isIn, .static yX4_isIn, .code yX4_isIn cX4_isIn 3 (some .boolean), .static yX4_isStep, .code yX4_isStep cX4_isStep 1 (some .boolean)] ++ wsX20)
def wsX3_hasAccent : List Cond := .code yX3_hasAccent cX3_hasAccent 2 (some .boolean) :: ([.fieldLink RX3 27 "MusicHoles$Roll" "accents" "[Z", .methodLink RX3 52 yX3_has, .instanceMethod yX3_has, .selects RX3 yX3_has yX3_has, .initialized RX3, .code yX3_has cX3_has 2 (some .boolean), .fieldLink RX3 44 "MusicHoles$Roll" "notes" "I"] ++ wsX30)
def wsX2_holesAt : List Cond := .code yX2_holesAt cX2_holesAt 2 (some .int) :: ([.fieldLink RX2 9 "MusicHoles$Paper" "holes" "[I", .static yX4_isStep, .initialized RX4, .code yX4_isStep cX4_isStep 1 (some .boolean), .methodLink RX4 48 yX4_isIn, .static yX4_isIn, .code yX4_isIn cX4_isIn 3 (some .boolean)] ++ wsX20)
def wsX2_listen : List Cond := .code yX2_listen cX2_listen 5 none :: ([.methodLink RX2 69 Lib.Math.max.name, .static Lib.Math.max.name, .initialized "java/lang/Math", .code Lib.Math.max.name Lib.Math.max.code 2 (some .int), .fieldLink RX2 15 "MusicHoles$Paper" "heard" "[I", .methodLink RX2 75 yX2_holesAt, .instanceMethod yX2_holesAt, .selects RX2 yX2_holesAt yX2_holesAt, .initialized RX2, .code yX2_holesAt cX2_holesAt 2 (some .int), .fieldLink RX2 9 "MusicHoles$Paper" "holes" "[I", .static yX4_isStep, .initialized RX4, .code yX4_isStep cX4_isStep 1 (some .boolean), .methodLink RX4 48 yX4_isIn, .static yX4_isIn, .code yX4_isIn cX4_isIn 3 (some .boolean)] ++ wsX20)
def wsX2_perforate_r1 : List Cond := [Cond.fieldLink RX2 24 "MusicHoles$Paper" "weak" "I", Cond.fieldLink RX2 9 "MusicHoles$Paper" "holes" "[I", Cond.methodLink RX2 18 yX3_settingOf, Cond.instanceMethod yX3_settingOf, Cond.selects RX3 yX3_settingOf yX3_settingOf, Cond.initialized RX3, Cond.code yX3_settingOf cX3_settingOf 2 (some .int), Cond.fieldLink RX3 9 "MusicHoles$Roll" "settings" "[I", Cond.static yX4_isIn, Cond.initialized RX4, Cond.code yX4_isIn cX4_isIn 3 (some .boolean), Cond.methodLink RX2 28 yJ7_fill_53178, Cond.static yJ7_fill_53178, Cond.initialized RJ7, Cond.code yJ7_fill_53178 cJ7_fill_53178 4 none, Cond.methodLink RX2 34 yX3_size, Cond.instanceMethod yX3_size, Cond.selects RX3 yX3_size yX3_size, Cond.code yX3_size cX3_size 1 (some .int), Cond.fieldLink RX3 44 "MusicHoles$Roll" "notes" "I", Cond.methodLink RX2 38 yX3_trackOf, Cond.instanceMethod yX3_trackOf, Cond.selects RX3 yX3_trackOf yX3_trackOf, Cond.code yX3_trackOf cX3_trackOf 2 (some .int)]
def wsX2_perforate_r2 : List Cond := [Cond.fieldLink RX3 15 "MusicHoles$Roll" "tracks" "[I", Cond.methodLink RX3 52 yX3_has, Cond.instanceMethod yX3_has, Cond.selects RX3 yX3_has yX3_has, Cond.code yX3_has cX3_has 2 (some .boolean), Cond.methodLink RX2 41 yX3_firstOf, Cond.instanceMethod yX3_firstOf, Cond.selects RX3 yX3_firstOf yX3_firstOf, Cond.code yX3_firstOf cX3_firstOf 2 (some .int), Cond.fieldLink RX3 18 "MusicHoles$Roll" "firsts" "[I", Cond.methodLink RX2 44 yX3_lastOf, Cond.instanceMethod yX3_lastOf, Cond.selects RX3 yX3_lastOf yX3_lastOf, Cond.code yX3_lastOf cX3_lastOf 2 (some .int), Cond.fieldLink RX3 21 "MusicHoles$Roll" "lasts" "[I", Cond.methodLink RX2 47 yX3_isHole, Cond.instanceMethod yX3_isHole, Cond.selects RX3 yX3_isHole yX3_isHole, Cond.code yX3_isHole cX3_isHole 5 (some .boolean), Cond.methodLink RX3 64 yX3_firstOf, Cond.methodLink RX3 75 yX3_lastOf, Cond.methodLink RX3 90 yX3_shiftOf, Cond.instanceMethod yX3_shiftOf, Cond.selects RX3 yX3_shiftOf yX3_shiftOf]
def wsX2_perforate_r3 : List Cond := [Cond.code yX3_shiftOf cX3_shiftOf 2 (some .int), Cond.fieldLink RX3 24 "MusicHoles$Roll" "shifts" "[I", Cond.methodLink RX2 51 yX2_punch, Cond.instanceMethod yX2_punch, Cond.selects RX2 yX2_punch yX2_punch, Cond.initialized RX2, Cond.code yX2_punch cX2_punch 3 none, Cond.static yX4_isTrack, Cond.code yX4_isTrack cX4_isTrack 1 (some .boolean), Cond.methodLink RX4 48 yX4_isIn, Cond.static yX4_isStep, Cond.code yX4_isStep cX4_isStep 1 (some .boolean), Cond.methodLink RX2 55 yX3_hasAccent, Cond.instanceMethod yX3_hasAccent, Cond.selects RX3 yX3_hasAccent yX3_hasAccent, Cond.code yX3_hasAccent cX3_hasAccent 2 (some .boolean), Cond.fieldLink RX3 27 "MusicHoles$Roll" "accents" "[Z", Cond.methodLink RX2 59 yX2_listen, Cond.instanceMethod yX2_listen, Cond.selects RX2 yX2_listen yX2_listen, Cond.code yX2_listen cX2_listen 5 none, Cond.methodLink RX2 69 Lib.Math.max.name, Cond.static Lib.Math.max.name, Cond.initialized "java/lang/Math"]
def wsX2_perforate_r4 : List Cond := [Cond.code Lib.Math.max.name Lib.Math.max.code 2 (some .int), Cond.fieldLink RX2 15 "MusicHoles$Paper" "heard" "[I", Cond.methodLink RX2 75 yX2_holesAt, Cond.instanceMethod yX2_holesAt, Cond.selects RX2 yX2_holesAt yX2_holesAt, Cond.code yX2_holesAt cX2_holesAt 2 (some .int)]
def wsX2_perforate : List Cond := .code yX2_perforate cX2_perforate 6 none :: ((wsX2_perforate_r1 ++ (wsX2_perforate_r2 ++ (wsX2_perforate_r3 ++ wsX2_perforate_r4))) ++ wsX20 ++ wsX30)
def wsX2_heardAt : List Cond := .code yX2_heardAt cX2_heardAt 2 (some .int) :: ([.fieldLink RX2 15 "MusicHoles$Paper" "heard" "[I", .static yX4_isStep, .initialized RX4, .code yX4_isStep cX4_isStep 1 (some .boolean), .methodLink RX4 48 yX4_isIn, .static yX4_isIn, .code yX4_isIn cX4_isIn 3 (some .boolean)] ++ wsX20)
def wsX2_isHeard : List Cond := .code yX2_isHeard cX2_isHeard 3 (some .boolean) :: ([.static yX4_isTrack, .initialized RX4, .code yX4_isTrack cX4_isTrack 1 (some .boolean), .methodLink RX4 48 yX4_isIn, .static yX4_isIn, .code yX4_isIn cX4_isIn 3 (some .boolean), .methodLink RX2 78 yX2_heardAt, .instanceMethod yX2_heardAt, .selects RX2 yX2_heardAt yX2_heardAt, .initialized RX2, .code yX2_heardAt cX2_heardAt 2 (some .int), .fieldLink RX2 15 "MusicHoles$Paper" "heard" "[I", .static yX4_isStep, .code yX4_isStep cX4_isStep 1 (some .boolean)] ++ wsX20)
def wsX2_sideBySide : List Cond := .code yX2_sideBySide cX2_sideBySide 6 (some .int) :: ([.methodLink RX2 69 Lib.Math.max.name, .static Lib.Math.max.name, .initialized "java/lang/Math", .code Lib.Math.max.name Lib.Math.max.code 2 (some .int), .methodLink RX2 75 yX2_holesAt, .instanceMethod yX2_holesAt, .selects RX2 yX2_holesAt yX2_holesAt, .initialized RX2, .code yX2_holesAt cX2_holesAt 2 (some .int), .fieldLink RX2 9 "MusicHoles$Paper" "holes" "[I", .static yX4_isStep, .initialized RX4, .code yX4_isStep cX4_isStep 1 (some .boolean), .methodLink RX4 48 yX4_isIn, .static yX4_isIn, .code yX4_isIn cX4_isIn 3 (some .boolean)] ++ wsX20)
def wsX2_isWeak : List Cond := .code yX2_isWeak cX2_isWeak 2 (some .boolean) :: ([.fieldLink RX2 24 "MusicHoles$Paper" "weak" "I", .methodLink RX2 81 yX2_sideBySide, .instanceMethod yX2_sideBySide, .selects RX2 yX2_sideBySide yX2_sideBySide, .initialized RX2, .code yX2_sideBySide cX2_sideBySide 6 (some .int), .methodLink RX2 69 Lib.Math.max.name, .static Lib.Math.max.name, .initialized "java/lang/Math", .code Lib.Math.max.name Lib.Math.max.code 2 (some .int), .methodLink RX2 75 yX2_holesAt, .instanceMethod yX2_holesAt, .selects RX2 yX2_holesAt yX2_holesAt, .code yX2_holesAt cX2_holesAt 2 (some .int), .fieldLink RX2 9 "MusicHoles$Paper" "holes" "[I", .static yX4_isStep, .initialized RX4, .code yX4_isStep cX4_isStep 1 (some .boolean), .methodLink RX4 48 yX4_isIn, .static yX4_isIn, .code yX4_isIn cX4_isIn 3 (some .boolean)] ++ wsX20)
def wsX2_weakSteps_r1 : List Cond := [Cond.methodLink RX2 84 yX2_isWeak, Cond.instanceMethod yX2_isWeak, Cond.selects RX2 yX2_isWeak yX2_isWeak, Cond.initialized RX2, Cond.code yX2_isWeak cX2_isWeak 2 (some .boolean), Cond.fieldLink RX2 24 "MusicHoles$Paper" "weak" "I", Cond.methodLink RX2 81 yX2_sideBySide, Cond.instanceMethod yX2_sideBySide, Cond.selects RX2 yX2_sideBySide yX2_sideBySide, Cond.code yX2_sideBySide cX2_sideBySide 6 (some .int), Cond.methodLink RX2 69 Lib.Math.max.name, Cond.static Lib.Math.max.name, Cond.initialized "java/lang/Math", Cond.code Lib.Math.max.name Lib.Math.max.code 2 (some .int), Cond.methodLink RX2 75 yX2_holesAt, Cond.instanceMethod yX2_holesAt, Cond.selects RX2 yX2_holesAt yX2_holesAt, Cond.code yX2_holesAt cX2_holesAt 2 (some .int), Cond.fieldLink RX2 9 "MusicHoles$Paper" "holes" "[I", Cond.static yX4_isStep, Cond.initialized RX4, Cond.code yX4_isStep cX4_isStep 1 (some .boolean), Cond.methodLink RX4 48 yX4_isIn, Cond.static yX4_isIn]
def wsX2_weakSteps_r2 : List Cond := [Cond.code yX4_isIn cX4_isIn 3 (some .boolean)]
def wsX2_weakSteps : List Cond := .code yX2_weakSteps cX2_weakSteps 3 (some .int) :: ((wsX2_weakSteps_r1 ++ wsX2_weakSteps_r2) ++ wsX20)
def wsX2_firstWeakStep_r1 : List Cond := [Cond.methodLink RX2 84 yX2_isWeak, Cond.instanceMethod yX2_isWeak, Cond.selects RX2 yX2_isWeak yX2_isWeak, Cond.initialized RX2, Cond.code yX2_isWeak cX2_isWeak 2 (some .boolean), Cond.fieldLink RX2 24 "MusicHoles$Paper" "weak" "I", Cond.methodLink RX2 81 yX2_sideBySide, Cond.instanceMethod yX2_sideBySide, Cond.selects RX2 yX2_sideBySide yX2_sideBySide, Cond.code yX2_sideBySide cX2_sideBySide 6 (some .int), Cond.methodLink RX2 69 Lib.Math.max.name, Cond.static Lib.Math.max.name, Cond.initialized "java/lang/Math", Cond.code Lib.Math.max.name Lib.Math.max.code 2 (some .int), Cond.methodLink RX2 75 yX2_holesAt, Cond.instanceMethod yX2_holesAt, Cond.selects RX2 yX2_holesAt yX2_holesAt, Cond.code yX2_holesAt cX2_holesAt 2 (some .int), Cond.fieldLink RX2 9 "MusicHoles$Paper" "holes" "[I", Cond.static yX4_isStep, Cond.initialized RX4, Cond.code yX4_isStep cX4_isStep 1 (some .boolean), Cond.methodLink RX4 48 yX4_isIn, Cond.static yX4_isIn]
def wsX2_firstWeakStep_r2 : List Cond := [Cond.code yX4_isIn cX4_isIn 3 (some .boolean)]
def wsX2_firstWeakStep : List Cond := .code yX2_firstWeakStep cX2_firstWeakStep 2 (some .int) :: ((wsX2_firstWeakStep_r1 ++ wsX2_firstWeakStep_r2) ++ wsX20)
def wsJ6_bitCount_0f7a4 : List Cond := .code yJ6_bitCount_0f7a4 cJ6_bitCount_0f7a4 1 (some .int) :: ([.constant RJ6 265 (1431655765), .constant RJ6 266 (858993459), .constant RJ6 267 (252645135)])
def wsX2_allHoles : List Cond := .code yX2_allHoles cX2_allHoles 3 (some .int) :: ([.methodLink RX2 75 yX2_holesAt, .instanceMethod yX2_holesAt, .selects RX2 yX2_holesAt yX2_holesAt, .initialized RX2, .code yX2_holesAt cX2_holesAt 2 (some .int), .fieldLink RX2 9 "MusicHoles$Paper" "holes" "[I", .static yX4_isStep, .initialized RX4, .code yX4_isStep cX4_isStep 1 (some .boolean), .methodLink RX4 48 yX4_isIn, .static yX4_isIn, .code yX4_isIn cX4_isIn 3 (some .boolean), .methodLink RX2 87 yJ6_bitCount_0f7a4, .static yJ6_bitCount_0f7a4, .initialized RJ6, .code yJ6_bitCount_0f7a4 cJ6_bitCount_0f7a4 1 (some .int), .constant RJ6 265 (1431655765), .constant RJ6 266 (858993459), .constant RJ6 267 (252645135)] ++ wsX20)
def wsX2_startsSound : List Cond := .code yX2_startsSound cX2_startsSound 3 (some .boolean) :: ([.methodLink RX2 92 yX2_isHeard, .instanceMethod yX2_isHeard, .selects RX2 yX2_isHeard yX2_isHeard, .initialized RX2, .code yX2_isHeard cX2_isHeard 3 (some .boolean), .static yX4_isTrack, .initialized RX4, .code yX4_isTrack cX4_isTrack 1 (some .boolean), .methodLink RX4 48 yX4_isIn, .static yX4_isIn, .code yX4_isIn cX4_isIn 3 (some .boolean), .methodLink RX2 78 yX2_heardAt, .instanceMethod yX2_heardAt, .selects RX2 yX2_heardAt yX2_heardAt, .code yX2_heardAt cX2_heardAt 2 (some .int), .fieldLink RX2 15 "MusicHoles$Paper" "heard" "[I", .static yX4_isStep, .code yX4_isStep cX4_isStep 1 (some .boolean)] ++ wsX20)
def wsX2_sounds : List Cond := .code yX2_sounds cX2_sounds 4 (some .int) :: ([.methodLink RX2 95 yX2_startsSound, .instanceMethod yX2_startsSound, .selects RX2 yX2_startsSound yX2_startsSound, .initialized RX2, .code yX2_startsSound cX2_startsSound 3 (some .boolean), .methodLink RX2 92 yX2_isHeard, .instanceMethod yX2_isHeard, .selects RX2 yX2_isHeard yX2_isHeard, .code yX2_isHeard cX2_isHeard 3 (some .boolean), .static yX4_isTrack, .initialized RX4, .code yX4_isTrack cX4_isTrack 1 (some .boolean), .methodLink RX4 48 yX4_isIn, .static yX4_isIn, .code yX4_isIn cX4_isIn 3 (some .boolean), .methodLink RX2 78 yX2_heardAt, .instanceMethod yX2_heardAt, .selects RX2 yX2_heardAt yX2_heardAt, .code yX2_heardAt cX2_heardAt 2 (some .int), .fieldLink RX2 15 "MusicHoles$Paper" "heard" "[I", .static yX4_isStep, .code yX4_isStep cX4_isStep 1 (some .boolean)] ++ wsX20)
def wsX2_soundStart : List Cond := .code yX2_soundStart cX2_soundStart 5 (some .int) :: ([.methodLink RX2 95 yX2_startsSound, .instanceMethod yX2_startsSound, .selects RX2 yX2_startsSound yX2_startsSound, .initialized RX2, .code yX2_startsSound cX2_startsSound 3 (some .boolean), .methodLink RX2 92 yX2_isHeard, .instanceMethod yX2_isHeard, .selects RX2 yX2_isHeard yX2_isHeard, .code yX2_isHeard cX2_isHeard 3 (some .boolean), .static yX4_isTrack, .initialized RX4, .code yX4_isTrack cX4_isTrack 1 (some .boolean), .methodLink RX4 48 yX4_isIn, .static yX4_isIn, .code yX4_isIn cX4_isIn 3 (some .boolean), .methodLink RX2 78 yX2_heardAt, .instanceMethod yX2_heardAt, .selects RX2 yX2_heardAt yX2_heardAt, .code yX2_heardAt cX2_heardAt 2 (some .int), .fieldLink RX2 15 "MusicHoles$Paper" "heard" "[I", .static yX4_isStep, .code yX4_isStep cX4_isStep 1 (some .boolean)] ++ wsX20)
def wsX2_soundEnd : List Cond := .code yX2_soundEnd cX2_soundEnd 5 (some .int) :: ([.methodLink RX2 92 yX2_isHeard, .instanceMethod yX2_isHeard, .selects RX2 yX2_isHeard yX2_isHeard, .initialized RX2, .code yX2_isHeard cX2_isHeard 3 (some .boolean), .static yX4_isTrack, .initialized RX4, .code yX4_isTrack cX4_isTrack 1 (some .boolean), .methodLink RX4 48 yX4_isIn, .static yX4_isIn, .code yX4_isIn cX4_isIn 3 (some .boolean), .methodLink RX2 78 yX2_heardAt, .instanceMethod yX2_heardAt, .selects RX2 yX2_heardAt yX2_heardAt, .code yX2_heardAt cX2_heardAt 2 (some .int), .fieldLink RX2 15 "MusicHoles$Paper" "heard" "[I", .static yX4_isStep, .code yX4_isStep cX4_isStep 1 (some .boolean)] ++ wsX20)
def wsX3_giveSetting : List Cond := .code yX3_giveSetting cX3_giveSetting 3 none :: ([.fieldLink RX3 9 "MusicHoles$Roll" "settings" "[I", .static yX4_isIn, .initialized RX4, .code yX4_isIn cX4_isIn 3 (some .boolean)] ++ wsX30)
def wsX3_giveShift : List Cond := .code yX3_giveShift cX3_giveShift 3 none :: ([.fieldLink RX3 24 "MusicHoles$Roll" "shifts" "[I", .methodLink RX3 52 yX3_has, .instanceMethod yX3_has, .selects RX3 yX3_has yX3_has, .initialized RX3, .code yX3_has cX3_has 2 (some .boolean), .fieldLink RX3 44 "MusicHoles$Roll" "notes" "I"] ++ wsX30)
def wsX3_giveAccent : List Cond := .code yX3_giveAccent cX3_giveAccent 3 none :: ([.fieldLink RX3 27 "MusicHoles$Roll" "accents" "[Z", .methodLink RX3 52 yX3_has, .instanceMethod yX3_has, .selects RX3 yX3_has yX3_has, .initialized RX3, .code yX3_has cX3_has 2 (some .boolean), .fieldLink RX3 44 "MusicHoles$Roll" "notes" "I"] ++ wsX30)
def wsX3_placeFor : List Cond := .code yX3_placeFor cX3_placeFor 5 (some .int) :: ([.fieldLink RX3 44 "MusicHoles$Roll" "notes" "I", .methodLink RX3 64 yX3_firstOf, .instanceMethod yX3_firstOf, .selects RX3 yX3_firstOf yX3_firstOf, .initialized RX3, .code yX3_firstOf cX3_firstOf 2 (some .int), .fieldLink RX3 18 "MusicHoles$Roll" "firsts" "[I", .methodLink RX3 52 yX3_has, .instanceMethod yX3_has, .selects RX3 yX3_has yX3_has, .code yX3_has cX3_has 2 (some .boolean), .methodLink RX3 68 yX3_trackOf, .instanceMethod yX3_trackOf, .selects RX3 yX3_trackOf yX3_trackOf, .code yX3_trackOf cX3_trackOf 2 (some .int), .fieldLink RX3 15 "MusicHoles$Roll" "tracks" "[I"] ++ wsX30)
def wsX3_move : List Cond := .code yX3_move cX3_move 3 none :: ([.fieldLink RX3 15 "MusicHoles$Roll" "tracks" "[I", .fieldLink RX3 18 "MusicHoles$Roll" "firsts" "[I", .fieldLink RX3 21 "MusicHoles$Roll" "lasts" "[I", .fieldLink RX3 24 "MusicHoles$Roll" "shifts" "[I", .fieldLink RX3 27 "MusicHoles$Roll" "accents" "[Z", .static yX4_isIn, .initialized RX4, .code yX4_isIn cX4_isIn 3 (some .boolean)] ++ wsX30)
def wsX3_add_r1 : List Cond := [Cond.fieldLink RX3 44 "MusicHoles$Roll" "notes" "I", Cond.fieldLink RX3 15 "MusicHoles$Roll" "tracks" "[I", Cond.fieldLink RX3 18 "MusicHoles$Roll" "firsts" "[I", Cond.fieldLink RX3 21 "MusicHoles$Roll" "lasts" "[I", Cond.fieldLink RX3 24 "MusicHoles$Roll" "shifts" "[I", Cond.fieldLink RX3 27 "MusicHoles$Roll" "accents" "[Z", Cond.methodLink RX3 56 yX3_placeFor, Cond.instanceMethod yX3_placeFor, Cond.selects RX3 yX3_placeFor yX3_placeFor, Cond.initialized RX3, Cond.code yX3_placeFor cX3_placeFor 5 (some .int), Cond.methodLink RX3 64 yX3_firstOf, Cond.instanceMethod yX3_firstOf, Cond.selects RX3 yX3_firstOf yX3_firstOf, Cond.code yX3_firstOf cX3_firstOf 2 (some .int), Cond.methodLink RX3 52 yX3_has, Cond.instanceMethod yX3_has, Cond.selects RX3 yX3_has yX3_has, Cond.code yX3_has cX3_has 2 (some .boolean), Cond.methodLink RX3 68 yX3_trackOf, Cond.instanceMethod yX3_trackOf, Cond.selects RX3 yX3_trackOf yX3_trackOf, Cond.code yX3_trackOf cX3_trackOf 2 (some .int), Cond.methodLink RX3 60 yX3_move]
def wsX3_add_r2 : List Cond := [Cond.instanceMethod yX3_move, Cond.selects RX3 yX3_move yX3_move, Cond.code yX3_move cX3_move 3 none, Cond.static yX4_isIn, Cond.initialized RX4, Cond.code yX4_isIn cX4_isIn 3 (some .boolean)]
def wsX3_add : List Cond := .code yX3_add cX3_add 8 (some .int) :: ((wsX3_add_r1 ++ wsX3_add_r2) ++ wsX30)
def wsX3_remove : List Cond := .code yX3_remove cX3_remove 3 none :: ([.fieldLink RX3 44 "MusicHoles$Roll" "notes" "I", .methodLink RX3 52 yX3_has, .instanceMethod yX3_has, .selects RX3 yX3_has yX3_has, .initialized RX3, .code yX3_has cX3_has 2 (some .boolean), .methodLink RX3 60 yX3_move, .instanceMethod yX3_move, .selects RX3 yX3_move yX3_move, .code yX3_move cX3_move 3 none, .fieldLink RX3 15 "MusicHoles$Roll" "tracks" "[I", .fieldLink RX3 18 "MusicHoles$Roll" "firsts" "[I", .fieldLink RX3 21 "MusicHoles$Roll" "lasts" "[I", .fieldLink RX3 24 "MusicHoles$Roll" "shifts" "[I", .fieldLink RX3 27 "MusicHoles$Roll" "accents" "[Z", .static yX4_isIn, .initialized RX4, .code yX4_isIn cX4_isIn 3 (some .boolean)] ++ wsX30)
def wsX3_touching : List Cond := .code yX3_touching cX3_touching 6 (some .int) :: ([.fieldLink RX3 44 "MusicHoles$Roll" "notes" "I", .methodLink RX3 68 yX3_trackOf, .instanceMethod yX3_trackOf, .selects RX3 yX3_trackOf yX3_trackOf, .initialized RX3, .code yX3_trackOf cX3_trackOf 2 (some .int), .fieldLink RX3 15 "MusicHoles$Roll" "tracks" "[I", .methodLink RX3 52 yX3_has, .instanceMethod yX3_has, .selects RX3 yX3_has yX3_has, .code yX3_has cX3_has 2 (some .boolean), .methodLink RX3 64 yX3_firstOf, .instanceMethod yX3_firstOf, .selects RX3 yX3_firstOf yX3_firstOf, .code yX3_firstOf cX3_firstOf 2 (some .int), .fieldLink RX3 18 "MusicHoles$Roll" "firsts" "[I", .methodLink RX3 75 yX3_lastOf, .instanceMethod yX3_lastOf, .selects RX3 yX3_lastOf yX3_lastOf, .code yX3_lastOf cX3_lastOf 2 (some .int), .fieldLink RX3 21 "MusicHoles$Roll" "lasts" "[I"] ++ wsX30)
def wsX3_isTaken_r1 : List Cond := [Cond.methodLink RX3 71 yX3_touching, Cond.instanceMethod yX3_touching, Cond.selects RX3 yX3_touching yX3_touching, Cond.initialized RX3, Cond.code yX3_touching cX3_touching 6 (some .int), Cond.fieldLink RX3 44 "MusicHoles$Roll" "notes" "I", Cond.methodLink RX3 68 yX3_trackOf, Cond.instanceMethod yX3_trackOf, Cond.selects RX3 yX3_trackOf yX3_trackOf, Cond.code yX3_trackOf cX3_trackOf 2 (some .int), Cond.fieldLink RX3 15 "MusicHoles$Roll" "tracks" "[I", Cond.methodLink RX3 52 yX3_has, Cond.instanceMethod yX3_has, Cond.selects RX3 yX3_has yX3_has, Cond.code yX3_has cX3_has 2 (some .boolean), Cond.methodLink RX3 64 yX3_firstOf, Cond.instanceMethod yX3_firstOf, Cond.selects RX3 yX3_firstOf yX3_firstOf, Cond.code yX3_firstOf cX3_firstOf 2 (some .int), Cond.fieldLink RX3 18 "MusicHoles$Roll" "firsts" "[I", Cond.methodLink RX3 75 yX3_lastOf, Cond.instanceMethod yX3_lastOf, Cond.selects RX3 yX3_lastOf yX3_lastOf, Cond.code yX3_lastOf cX3_lastOf 2 (some .int)]
def wsX3_isTaken_r2 : List Cond := [Cond.fieldLink RX3 21 "MusicHoles$Roll" "lasts" "[I"]
def wsX3_isTaken : List Cond := .code yX3_isTaken cX3_isTaken 4 (some .boolean) :: ((wsX3_isTaken_r1 ++ wsX3_isTaken_r2) ++ wsX30)
def wsX3_tracksAt : List Cond := .code yX3_tracksAt cX3_tracksAt 4 (some .int) :: ([.fieldLink RX3 44 "MusicHoles$Roll" "notes" "I", .methodLink RX3 64 yX3_firstOf, .instanceMethod yX3_firstOf, .selects RX3 yX3_firstOf yX3_firstOf, .initialized RX3, .code yX3_firstOf cX3_firstOf 2 (some .int), .fieldLink RX3 18 "MusicHoles$Roll" "firsts" "[I", .methodLink RX3 52 yX3_has, .instanceMethod yX3_has, .selects RX3 yX3_has yX3_has, .code yX3_has cX3_has 2 (some .boolean), .methodLink RX3 75 yX3_lastOf, .instanceMethod yX3_lastOf, .selects RX3 yX3_lastOf yX3_lastOf, .code yX3_lastOf cX3_lastOf 2 (some .int), .fieldLink RX3 21 "MusicHoles$Roll" "lasts" "[I", .methodLink RX3 68 yX3_trackOf, .instanceMethod yX3_trackOf, .selects RX3 yX3_trackOf yX3_trackOf, .code yX3_trackOf cX3_trackOf 2 (some .int), .fieldLink RX3 15 "MusicHoles$Roll" "tracks" "[I"] ++ wsX30)
def wsX3_greatestLast : List Cond := .code yX3_greatestLast cX3_greatestLast 3 (some .int) :: ([.fieldLink RX3 44 "MusicHoles$Roll" "notes" "I", .methodLink RX3 78 Lib.Math.max.name, .static Lib.Math.max.name, .initialized "java/lang/Math", .code Lib.Math.max.name Lib.Math.max.code 2 (some .int), .methodLink RX3 75 yX3_lastOf, .instanceMethod yX3_lastOf, .selects RX3 yX3_lastOf yX3_lastOf, .initialized RX3, .code yX3_lastOf cX3_lastOf 2 (some .int), .fieldLink RX3 21 "MusicHoles$Roll" "lasts" "[I", .methodLink RX3 52 yX3_has, .instanceMethod yX3_has, .selects RX3 yX3_has yX3_has, .code yX3_has cX3_has 2 (some .boolean)] ++ wsX30)
def wsX3_lengthen : List Cond := .code yX3_lengthen cX3_lengthen 5 (some .int) :: ([.fieldLink RX3 44 "MusicHoles$Roll" "notes" "I", .fieldLink RX3 18 "MusicHoles$Roll" "firsts" "[I", .fieldLink RX3 21 "MusicHoles$Roll" "lasts" "[I"] ++ wsX30)
def wsX3_takeCut_r1 : List Cond := [Cond.fieldLink RX3 44 "MusicHoles$Roll" "notes" "I", Cond.methodLink RX3 78 Lib.Math.max.name, Cond.static Lib.Math.max.name, Cond.initialized "java/lang/Math", Cond.code Lib.Math.max.name Lib.Math.max.code 2 (some .int), Cond.methodLink RX3 87 Lib.Math.min.name, Cond.static Lib.Math.min.name, Cond.code Lib.Math.min.name Lib.Math.min.code 2 (some .int), Cond.methodLink RX3 83 yX3_size, Cond.instanceMethod yX3_size, Cond.selects RX3 yX3_size yX3_size, Cond.initialized RX3, Cond.code yX3_size cX3_size 1 (some .int), Cond.methodLink RX3 64 yX3_firstOf, Cond.instanceMethod yX3_firstOf, Cond.selects RX3 yX3_firstOf yX3_firstOf, Cond.code yX3_firstOf cX3_firstOf 2 (some .int), Cond.fieldLink RX3 18 "MusicHoles$Roll" "firsts" "[I", Cond.methodLink RX3 52 yX3_has, Cond.instanceMethod yX3_has, Cond.selects RX3 yX3_has yX3_has, Cond.code yX3_has cX3_has 2 (some .boolean), Cond.methodLink RX3 75 yX3_lastOf, Cond.instanceMethod yX3_lastOf]
def wsX3_takeCut_r2 : List Cond := [Cond.selects RX3 yX3_lastOf yX3_lastOf, Cond.code yX3_lastOf cX3_lastOf 2 (some .int), Cond.fieldLink RX3 21 "MusicHoles$Roll" "lasts" "[I", Cond.methodLink RX3 68 yX3_trackOf, Cond.instanceMethod yX3_trackOf, Cond.selects RX3 yX3_trackOf yX3_trackOf, Cond.code yX3_trackOf cX3_trackOf 2 (some .int), Cond.fieldLink RX3 15 "MusicHoles$Roll" "tracks" "[I", Cond.methodLink RX3 90 yX3_shiftOf, Cond.instanceMethod yX3_shiftOf, Cond.selects RX3 yX3_shiftOf yX3_shiftOf, Cond.code yX3_shiftOf cX3_shiftOf 2 (some .int), Cond.fieldLink RX3 24 "MusicHoles$Roll" "shifts" "[I", Cond.methodLink RX3 93 yX3_hasAccent, Cond.instanceMethod yX3_hasAccent, Cond.selects RX3 yX3_hasAccent yX3_hasAccent, Cond.code yX3_hasAccent cX3_hasAccent 2 (some .boolean), Cond.fieldLink RX3 27 "MusicHoles$Roll" "accents" "[Z", Cond.methodLink RX3 96 yX3_add, Cond.instanceMethod yX3_add, Cond.selects RX3 yX3_add yX3_add, Cond.code yX3_add cX3_add 8 (some .int), Cond.methodLink RX3 56 yX3_placeFor, Cond.instanceMethod yX3_placeFor]
def wsX3_takeCut_r3 : List Cond := [Cond.selects RX3 yX3_placeFor yX3_placeFor, Cond.code yX3_placeFor cX3_placeFor 5 (some .int), Cond.methodLink RX3 60 yX3_move, Cond.instanceMethod yX3_move, Cond.selects RX3 yX3_move yX3_move, Cond.code yX3_move cX3_move 3 none, Cond.static yX4_isIn, Cond.initialized RX4, Cond.code yX4_isIn cX4_isIn 3 (some .boolean)]
def wsX3_takeCut : List Cond := .code yX3_takeCut cX3_takeCut 10 none :: ((wsX3_takeCut_r1 ++ (wsX3_takeCut_r2 ++ wsX3_takeCut_r3)) ++ wsX30)
def wsX3_liesWithin : List Cond := .code yX3_liesWithin cX3_liesWithin 4 (some .boolean) :: ([.methodLink RX3 52 yX3_has, .instanceMethod yX3_has, .selects RX3 yX3_has yX3_has, .initialized RX3, .code yX3_has cX3_has 2 (some .boolean), .fieldLink RX3 44 "MusicHoles$Roll" "notes" "I", .methodLink RX3 64 yX3_firstOf, .instanceMethod yX3_firstOf, .selects RX3 yX3_firstOf yX3_firstOf, .code yX3_firstOf cX3_firstOf 2 (some .int), .fieldLink RX3 18 "MusicHoles$Roll" "firsts" "[I", .methodLink RX3 75 yX3_lastOf, .instanceMethod yX3_lastOf, .selects RX3 yX3_lastOf yX3_lastOf, .code yX3_lastOf cX3_lastOf 2 (some .int), .fieldLink RX3 21 "MusicHoles$Roll" "lasts" "[I"] ++ wsX30)
def wsX3_within : List Cond := .code yX3_within cX3_within 5 (some .int) :: ([.fieldLink RX3 44 "MusicHoles$Roll" "notes" "I", .methodLink RX3 100 yX3_liesWithin, .instanceMethod yX3_liesWithin, .selects RX3 yX3_liesWithin yX3_liesWithin, .initialized RX3, .code yX3_liesWithin cX3_liesWithin 4 (some .boolean), .methodLink RX3 52 yX3_has, .instanceMethod yX3_has, .selects RX3 yX3_has yX3_has, .code yX3_has cX3_has 2 (some .boolean), .methodLink RX3 64 yX3_firstOf, .instanceMethod yX3_firstOf, .selects RX3 yX3_firstOf yX3_firstOf, .code yX3_firstOf cX3_firstOf 2 (some .int), .fieldLink RX3 18 "MusicHoles$Roll" "firsts" "[I", .methodLink RX3 75 yX3_lastOf, .instanceMethod yX3_lastOf, .selects RX3 yX3_lastOf yX3_lastOf, .code yX3_lastOf cX3_lastOf 2 (some .int), .fieldLink RX3 21 "MusicHoles$Roll" "lasts" "[I"] ++ wsX30)
def wsX3_addPassage_r1 : List Cond := [Cond.methodLink RX3 83 yX3_size, Cond.instanceMethod yX3_size, Cond.selects RX3 yX3_size yX3_size, Cond.initialized RX3, Cond.code yX3_size cX3_size 1 (some .int), Cond.fieldLink RX3 44 "MusicHoles$Roll" "notes" "I", Cond.methodLink RX3 100 yX3_liesWithin, Cond.instanceMethod yX3_liesWithin, Cond.selects RX3 yX3_liesWithin yX3_liesWithin, Cond.code yX3_liesWithin cX3_liesWithin 4 (some .boolean), Cond.methodLink RX3 52 yX3_has, Cond.instanceMethod yX3_has, Cond.selects RX3 yX3_has yX3_has, Cond.code yX3_has cX3_has 2 (some .boolean), Cond.methodLink RX3 64 yX3_firstOf, Cond.instanceMethod yX3_firstOf, Cond.selects RX3 yX3_firstOf yX3_firstOf, Cond.code yX3_firstOf cX3_firstOf 2 (some .int), Cond.fieldLink RX3 18 "MusicHoles$Roll" "firsts" "[I", Cond.methodLink RX3 75 yX3_lastOf, Cond.instanceMethod yX3_lastOf, Cond.selects RX3 yX3_lastOf yX3_lastOf, Cond.code yX3_lastOf cX3_lastOf 2 (some .int), Cond.fieldLink RX3 21 "MusicHoles$Roll" "lasts" "[I"]
def wsX3_addPassage_r2 : List Cond := [Cond.methodLink RX3 68 yX3_trackOf, Cond.instanceMethod yX3_trackOf, Cond.selects RX3 yX3_trackOf yX3_trackOf, Cond.code yX3_trackOf cX3_trackOf 2 (some .int), Cond.fieldLink RX3 15 "MusicHoles$Roll" "tracks" "[I", Cond.methodLink RX3 90 yX3_shiftOf, Cond.instanceMethod yX3_shiftOf, Cond.selects RX3 yX3_shiftOf yX3_shiftOf, Cond.code yX3_shiftOf cX3_shiftOf 2 (some .int), Cond.fieldLink RX3 24 "MusicHoles$Roll" "shifts" "[I", Cond.methodLink RX3 93 yX3_hasAccent, Cond.instanceMethod yX3_hasAccent, Cond.selects RX3 yX3_hasAccent yX3_hasAccent, Cond.code yX3_hasAccent cX3_hasAccent 2 (some .boolean), Cond.fieldLink RX3 27 "MusicHoles$Roll" "accents" "[Z", Cond.methodLink RX3 96 yX3_add, Cond.instanceMethod yX3_add, Cond.selects RX3 yX3_add yX3_add, Cond.code yX3_add cX3_add 8 (some .int), Cond.methodLink RX3 56 yX3_placeFor, Cond.instanceMethod yX3_placeFor, Cond.selects RX3 yX3_placeFor yX3_placeFor, Cond.code yX3_placeFor cX3_placeFor 5 (some .int), Cond.methodLink RX3 60 yX3_move]
def wsX3_addPassage_r3 : List Cond := [Cond.instanceMethod yX3_move, Cond.selects RX3 yX3_move yX3_move, Cond.code yX3_move cX3_move 3 none, Cond.static yX4_isIn, Cond.initialized RX4, Cond.code yX4_isIn cX4_isIn 3 (some .boolean)]
def wsX3_addPassage : List Cond := .code yX3_addPassage cX3_addPassage 8 none :: ((wsX3_addPassage_r1 ++ (wsX3_addPassage_r2 ++ wsX3_addPassage_r3)) ++ wsX30)
def wsX3_bridges_r1 : List Cond := [Cond.methodLink RX3 64 yX3_firstOf, Cond.instanceMethod yX3_firstOf, Cond.selects RX3 yX3_firstOf yX3_firstOf, Cond.initialized RX3, Cond.code yX3_firstOf cX3_firstOf 2 (some .int), Cond.fieldLink RX3 18 "MusicHoles$Roll" "firsts" "[I", Cond.methodLink RX3 52 yX3_has, Cond.instanceMethod yX3_has, Cond.selects RX3 yX3_has yX3_has, Cond.code yX3_has cX3_has 2 (some .boolean), Cond.fieldLink RX3 44 "MusicHoles$Roll" "notes" "I", Cond.methodLink RX3 75 yX3_lastOf, Cond.instanceMethod yX3_lastOf, Cond.selects RX3 yX3_lastOf yX3_lastOf, Cond.code yX3_lastOf cX3_lastOf 2 (some .int), Cond.fieldLink RX3 21 "MusicHoles$Roll" "lasts" "[I", Cond.methodLink RX3 103 yX3_isHole, Cond.instanceMethod yX3_isHole, Cond.selects RX3 yX3_isHole yX3_isHole, Cond.code yX3_isHole cX3_isHole 5 (some .boolean), Cond.fieldLink RX3 9 "MusicHoles$Roll" "settings" "[I", Cond.methodLink RX3 90 yX3_shiftOf, Cond.instanceMethod yX3_shiftOf, Cond.selects RX3 yX3_shiftOf yX3_shiftOf]
def wsX3_bridges_r2 : List Cond := [Cond.code yX3_shiftOf cX3_shiftOf 2 (some .int), Cond.fieldLink RX3 24 "MusicHoles$Roll" "shifts" "[I"]
def wsX3_bridges : List Cond := .code yX3_bridges cX3_bridges 4 (some .int) :: ((wsX3_bridges_r1 ++ wsX3_bridges_r2) ++ wsX30)
def wsX3_longestBridge_r1 : List Cond := [Cond.methodLink RX3 78 Lib.Math.max.name, Cond.static Lib.Math.max.name, Cond.initialized "java/lang/Math", Cond.code Lib.Math.max.name Lib.Math.max.code 2 (some .int), Cond.methodLink RX3 64 yX3_firstOf, Cond.instanceMethod yX3_firstOf, Cond.selects RX3 yX3_firstOf yX3_firstOf, Cond.initialized RX3, Cond.code yX3_firstOf cX3_firstOf 2 (some .int), Cond.fieldLink RX3 18 "MusicHoles$Roll" "firsts" "[I", Cond.methodLink RX3 52 yX3_has, Cond.instanceMethod yX3_has, Cond.selects RX3 yX3_has yX3_has, Cond.code yX3_has cX3_has 2 (some .boolean), Cond.fieldLink RX3 44 "MusicHoles$Roll" "notes" "I", Cond.methodLink RX3 75 yX3_lastOf, Cond.instanceMethod yX3_lastOf, Cond.selects RX3 yX3_lastOf yX3_lastOf, Cond.code yX3_lastOf cX3_lastOf 2 (some .int), Cond.fieldLink RX3 21 "MusicHoles$Roll" "lasts" "[I", Cond.methodLink RX3 103 yX3_isHole, Cond.instanceMethod yX3_isHole, Cond.selects RX3 yX3_isHole yX3_isHole, Cond.code yX3_isHole cX3_isHole 5 (some .boolean)]
def wsX3_longestBridge_r2 : List Cond := [Cond.fieldLink RX3 9 "MusicHoles$Roll" "settings" "[I", Cond.methodLink RX3 90 yX3_shiftOf, Cond.instanceMethod yX3_shiftOf, Cond.selects RX3 yX3_shiftOf yX3_shiftOf, Cond.code yX3_shiftOf cX3_shiftOf 2 (some .int), Cond.fieldLink RX3 24 "MusicHoles$Roll" "shifts" "[I"]
def wsX3_longestBridge : List Cond := .code yX3_longestBridge cX3_longestBridge 5 (some .int) :: ((wsX3_longestBridge_r1 ++ wsX3_longestBridge_r2) ++ wsX30)
def wsX4_init_r1 : List Cond := [Cond.methodLink RX4 1 objectInit, Cond.instanceMethod objectInit, Cond.code objectInit ⟨#[0xb1]⟩ 1 none, Cond.classLink RX4 7 RX3, Cond.instantiable RX3 7, Cond.initialized RX3, Cond.fieldLink RX4 10 "MusicHoles" "roll" "LMusicHoles$Roll;", Cond.fieldLink RX4 16 "MusicHoles" "trial" "LMusicHoles$Roll;", Cond.classLink RX4 19 RX2, Cond.instantiable RX2 3, Cond.initialized RX2, Cond.fieldLink RX4 22 "MusicHoles" "paper" "LMusicHoles$Paper;", Cond.classLink RX4 26 RX1, Cond.instantiable RX1 8, Cond.initialized RX1, Cond.fieldLink RX4 29 "MusicHoles" "pad" "LMusicHoles$Pad;", Cond.classLink RX4 33 RX0, Cond.instantiable RX0 3, Cond.initialized RX0, Cond.fieldLink RX4 36 "MusicHoles" "history" "LMusicHoles$History;", Cond.fieldLink RX4 40 "MusicHoles" "slots" "[LMusicHoles$Roll;", Cond.arrayClass .boolean, Cond.fieldLink RX4 44 "MusicHoles" "saved" "[Z", Cond.methodLink RX4 9 yX3_init]
def wsX4_init_r2 : List Cond := [Cond.instanceMethod yX3_init, Cond.code yX3_init cX3_init 1 none, Cond.methodLink RX3 3 objectInit, Cond.arrayClass .int, Cond.fieldLink RX3 9 "MusicHoles$Roll" "settings" "[I", Cond.fieldLink RX3 15 "MusicHoles$Roll" "tracks" "[I", Cond.fieldLink RX3 18 "MusicHoles$Roll" "firsts" "[I", Cond.fieldLink RX3 21 "MusicHoles$Roll" "lasts" "[I", Cond.fieldLink RX3 24 "MusicHoles$Roll" "shifts" "[I", Cond.fieldLink RX3 27 "MusicHoles$Roll" "accents" "[Z", Cond.methodLink RX3 34 arraycopyName, Cond.native arraycopyName, Cond.static arraycopyName, Cond.initialized "java/lang/System", Cond.instanceMethod yX2_init, Cond.code yX2_init cX2_init 1 none, Cond.methodLink RX2 3 objectInit, Cond.fieldLink RX2 9 "MusicHoles$Paper" "holes" "[I", Cond.fieldLink RX2 15 "MusicHoles$Paper" "heard" "[I", Cond.instanceMethod yX1_init, Cond.code yX1_init cX1_init 1 none, Cond.methodLink RX1 5 objectInit, Cond.arrayClass .char, Cond.fieldLink RX1 11 "MusicHoles$Pad" "text" "[C"]
def wsX4_init_r3 : List Cond := [Cond.fieldLink RX1 15 "MusicHoles$Pad" "tracks" "[I", Cond.fieldLink RX1 19 "MusicHoles$Pad" "firsts" "[I", Cond.fieldLink RX1 22 "MusicHoles$Pad" "lasts" "[I", Cond.fieldLink RX1 25 "MusicHoles$Pad" "accents" "[Z", Cond.methodLink RX4 35 yX0_init, Cond.instanceMethod yX0_init, Cond.code yX0_init cX0_init 2 none, Cond.methodLink RX0 3 objectInit, Cond.classLink RX0 9 RX3, Cond.fieldLink RX0 11 "MusicHoles$History" "states" "[LMusicHoles$Roll;", Cond.methodLink RX0 17 yX3_init]
def wsX4_init : List Cond := .code yX4_init cX4_init 2 none :: ((wsX4_init_r1 ++ (wsX4_init_r2 ++ wsX4_init_r3)) ++ wsX30 ++ wsX40 ++ wsX20 ++ wsX10 ++ wsX00)
def wsX4_set_r1 : List Cond := [Cond.fieldLink RX4 52 "MusicHoles" "LEAST" "[I", Cond.fieldLink RX4 56 "MusicHoles" "GREATEST" "[I", Cond.fieldLink RX4 10 "MusicHoles" "roll" "LMusicHoles$Roll;", Cond.fieldLink RX4 36 "MusicHoles" "history" "LMusicHoles$History;", Cond.methodLink RX4 48 yX4_isIn, Cond.static yX4_isIn, Cond.initialized RX4, Cond.code yX4_isIn cX4_isIn 3 (some .boolean), Cond.methodLink RX4 59 yX3_settingOf, Cond.instanceMethod yX3_settingOf, Cond.selects RX3 yX3_settingOf yX3_settingOf, Cond.initialized RX3, Cond.code yX3_settingOf cX3_settingOf 2 (some .int), Cond.fieldLink RX3 9 "MusicHoles$Roll" "settings" "[I", Cond.methodLink RX4 63 yX0_record, Cond.instanceMethod yX0_record, Cond.selects RX0 yX0_record yX0_record, Cond.initialized RX0, Cond.code yX0_record cX0_record 2 none, Cond.fieldLink RX0 11 "MusicHoles$History" "states" "[LMusicHoles$Roll;", Cond.fieldLink RX0 18 "MusicHoles$History" "size" "I", Cond.fieldLink RX0 30 "MusicHoles$History" "oldest" "I", Cond.methodLink RX0 22 yX0_placeOf, Cond.instanceMethod yX0_placeOf]
def wsX4_set_r2 : List Cond := [Cond.selects RX0 yX0_placeOf yX0_placeOf, Cond.code yX0_placeOf cX0_placeOf 2 (some .int), Cond.methodLink RX0 33 yJ9_floorMod_7cf53, Cond.static yJ9_floorMod_7cf53, Cond.initialized RJ9, Cond.code yJ9_floorMod_7cf53 cJ9_floorMod_7cf53 3 (some .int), Cond.methodLink RX0 26 yX3_become, Cond.instanceMethod yX3_become, Cond.selects RX3 yX3_become yX3_become, Cond.code yX3_become cX3_become 3 none, Cond.fieldLink RX3 44 "MusicHoles$Roll" "notes" "I", Cond.fieldLink RX3 15 "MusicHoles$Roll" "tracks" "[I", Cond.fieldLink RX3 18 "MusicHoles$Roll" "firsts" "[I", Cond.fieldLink RX3 21 "MusicHoles$Roll" "lasts" "[I", Cond.fieldLink RX3 24 "MusicHoles$Roll" "shifts" "[I", Cond.fieldLink RX3 27 "MusicHoles$Roll" "accents" "[Z", Cond.methodLink RX3 40 yX3_takeSettings, Cond.instanceMethod yX3_takeSettings, Cond.selects RX3 yX3_takeSettings yX3_takeSettings, Cond.code yX3_takeSettings cX3_takeSettings 2 none, Cond.methodLink RX3 34 arraycopyName, Cond.native arraycopyName, Cond.static arraycopyName, Cond.initialized "java/lang/System"]
def wsX4_set_r3 : List Cond := [Cond.methodLink RX4 67 yX3_giveSetting, Cond.instanceMethod yX3_giveSetting, Cond.selects RX3 yX3_giveSetting yX3_giveSetting, Cond.code yX3_giveSetting cX3_giveSetting 3 none]
def wsX4_set : List Cond := .code yX4_set cX4_set 4 (some .int) :: ((wsX4_set_r1 ++ (wsX4_set_r2 ++ wsX4_set_r3)) ++ wsX40 ++ wsX30 ++ wsX00)
def wsX4_note_r1 : List Cond := [Cond.fieldLink RX4 10 "MusicHoles" "roll" "LMusicHoles$Roll;", Cond.fieldLink RX4 36 "MusicHoles" "history" "LMusicHoles$History;", Cond.methodLink RX4 71 yX4_isTrack, Cond.static yX4_isTrack, Cond.initialized RX4, Cond.code yX4_isTrack cX4_isTrack 1 (some .boolean), Cond.methodLink RX4 48 yX4_isIn, Cond.static yX4_isIn, Cond.code yX4_isIn cX4_isIn 3 (some .boolean), Cond.methodLink RX4 75 yX4_isStep, Cond.static yX4_isStep, Cond.code yX4_isStep cX4_isStep 1 (some .boolean), Cond.methodLink RX4 78 yX3_size, Cond.instanceMethod yX3_size, Cond.selects RX3 yX3_size yX3_size, Cond.initialized RX3, Cond.code yX3_size cX3_size 1 (some .int), Cond.fieldLink RX3 44 "MusicHoles$Roll" "notes" "I", Cond.methodLink RX4 82 yX3_isTaken, Cond.instanceMethod yX3_isTaken, Cond.selects RX3 yX3_isTaken yX3_isTaken, Cond.code yX3_isTaken cX3_isTaken 4 (some .boolean), Cond.methodLink RX3 71 yX3_touching, Cond.instanceMethod yX3_touching]
def wsX4_note_r2 : List Cond := [Cond.selects RX3 yX3_touching yX3_touching, Cond.code yX3_touching cX3_touching 6 (some .int), Cond.methodLink RX3 68 yX3_trackOf, Cond.instanceMethod yX3_trackOf, Cond.selects RX3 yX3_trackOf yX3_trackOf, Cond.code yX3_trackOf cX3_trackOf 2 (some .int), Cond.fieldLink RX3 15 "MusicHoles$Roll" "tracks" "[I", Cond.methodLink RX3 52 yX3_has, Cond.instanceMethod yX3_has, Cond.selects RX3 yX3_has yX3_has, Cond.code yX3_has cX3_has 2 (some .boolean), Cond.methodLink RX3 64 yX3_firstOf, Cond.instanceMethod yX3_firstOf, Cond.selects RX3 yX3_firstOf yX3_firstOf, Cond.code yX3_firstOf cX3_firstOf 2 (some .int), Cond.fieldLink RX3 18 "MusicHoles$Roll" "firsts" "[I", Cond.methodLink RX3 75 yX3_lastOf, Cond.instanceMethod yX3_lastOf, Cond.selects RX3 yX3_lastOf yX3_lastOf, Cond.code yX3_lastOf cX3_lastOf 2 (some .int), Cond.fieldLink RX3 21 "MusicHoles$Roll" "lasts" "[I", Cond.methodLink RX4 63 yX0_record, Cond.instanceMethod yX0_record, Cond.selects RX0 yX0_record yX0_record]
def wsX4_note_r3 : List Cond := [Cond.initialized RX0, Cond.code yX0_record cX0_record 2 none, Cond.fieldLink RX0 11 "MusicHoles$History" "states" "[LMusicHoles$Roll;", Cond.fieldLink RX0 18 "MusicHoles$History" "size" "I", Cond.fieldLink RX0 30 "MusicHoles$History" "oldest" "I", Cond.methodLink RX0 22 yX0_placeOf, Cond.instanceMethod yX0_placeOf, Cond.selects RX0 yX0_placeOf yX0_placeOf, Cond.code yX0_placeOf cX0_placeOf 2 (some .int), Cond.methodLink RX0 33 yJ9_floorMod_7cf53, Cond.static yJ9_floorMod_7cf53, Cond.initialized RJ9, Cond.code yJ9_floorMod_7cf53 cJ9_floorMod_7cf53 3 (some .int), Cond.methodLink RX0 26 yX3_become, Cond.instanceMethod yX3_become, Cond.selects RX3 yX3_become yX3_become, Cond.code yX3_become cX3_become 3 none, Cond.fieldLink RX3 24 "MusicHoles$Roll" "shifts" "[I", Cond.fieldLink RX3 27 "MusicHoles$Roll" "accents" "[Z", Cond.methodLink RX3 40 yX3_takeSettings, Cond.instanceMethod yX3_takeSettings, Cond.selects RX3 yX3_takeSettings yX3_takeSettings, Cond.code yX3_takeSettings cX3_takeSettings 2 none, Cond.fieldLink RX3 9 "MusicHoles$Roll" "settings" "[I"]
def wsX4_note_r4 : List Cond := [Cond.methodLink RX3 34 arraycopyName, Cond.native arraycopyName, Cond.static arraycopyName, Cond.initialized "java/lang/System", Cond.methodLink RX4 85 yX3_add, Cond.instanceMethod yX3_add, Cond.selects RX3 yX3_add yX3_add, Cond.code yX3_add cX3_add 8 (some .int), Cond.methodLink RX3 56 yX3_placeFor, Cond.instanceMethod yX3_placeFor, Cond.selects RX3 yX3_placeFor yX3_placeFor, Cond.code yX3_placeFor cX3_placeFor 5 (some .int), Cond.methodLink RX3 60 yX3_move, Cond.instanceMethod yX3_move, Cond.selects RX3 yX3_move yX3_move, Cond.code yX3_move cX3_move 3 none]
def wsX4_note : List Cond := .code yX4_note cX4_note 4 (some .int) :: ((wsX4_note_r1 ++ (wsX4_note_r2 ++ (wsX4_note_r3 ++ wsX4_note_r4))) ++ wsX40 ++ wsX30 ++ wsX00)
def wsX4_drop_r1 : List Cond := [Cond.fieldLink RX4 10 "MusicHoles" "roll" "LMusicHoles$Roll;", Cond.fieldLink RX4 36 "MusicHoles" "history" "LMusicHoles$History;", Cond.methodLink RX4 89 yX3_has, Cond.instanceMethod yX3_has, Cond.selects RX3 yX3_has yX3_has, Cond.initialized RX3, Cond.code yX3_has cX3_has 2 (some .boolean), Cond.fieldLink RX3 44 "MusicHoles$Roll" "notes" "I", Cond.methodLink RX4 63 yX0_record, Cond.instanceMethod yX0_record, Cond.selects RX0 yX0_record yX0_record, Cond.initialized RX0, Cond.code yX0_record cX0_record 2 none, Cond.fieldLink RX0 11 "MusicHoles$History" "states" "[LMusicHoles$Roll;", Cond.fieldLink RX0 18 "MusicHoles$History" "size" "I", Cond.fieldLink RX0 30 "MusicHoles$History" "oldest" "I", Cond.methodLink RX0 22 yX0_placeOf, Cond.instanceMethod yX0_placeOf, Cond.selects RX0 yX0_placeOf yX0_placeOf, Cond.code yX0_placeOf cX0_placeOf 2 (some .int), Cond.methodLink RX0 33 yJ9_floorMod_7cf53, Cond.static yJ9_floorMod_7cf53, Cond.initialized RJ9, Cond.code yJ9_floorMod_7cf53 cJ9_floorMod_7cf53 3 (some .int)]
def wsX4_drop_r2 : List Cond := [Cond.methodLink RX0 26 yX3_become, Cond.instanceMethod yX3_become, Cond.selects RX3 yX3_become yX3_become, Cond.code yX3_become cX3_become 3 none, Cond.fieldLink RX3 15 "MusicHoles$Roll" "tracks" "[I", Cond.fieldLink RX3 18 "MusicHoles$Roll" "firsts" "[I", Cond.fieldLink RX3 21 "MusicHoles$Roll" "lasts" "[I", Cond.fieldLink RX3 24 "MusicHoles$Roll" "shifts" "[I", Cond.fieldLink RX3 27 "MusicHoles$Roll" "accents" "[Z", Cond.methodLink RX3 40 yX3_takeSettings, Cond.instanceMethod yX3_takeSettings, Cond.selects RX3 yX3_takeSettings yX3_takeSettings, Cond.code yX3_takeSettings cX3_takeSettings 2 none, Cond.fieldLink RX3 9 "MusicHoles$Roll" "settings" "[I", Cond.methodLink RX3 34 arraycopyName, Cond.native arraycopyName, Cond.static arraycopyName, Cond.initialized "java/lang/System", Cond.methodLink RX4 92 yX3_remove, Cond.instanceMethod yX3_remove, Cond.selects RX3 yX3_remove yX3_remove, Cond.code yX3_remove cX3_remove 3 none, Cond.methodLink RX3 52 yX3_has, Cond.methodLink RX3 60 yX3_move]
def wsX4_drop_r3 : List Cond := [Cond.instanceMethod yX3_move, Cond.selects RX3 yX3_move yX3_move, Cond.code yX3_move cX3_move 3 none, Cond.static yX4_isIn, Cond.initialized RX4, Cond.code yX4_isIn cX4_isIn 3 (some .boolean), Cond.methodLink RX4 78 yX3_size, Cond.instanceMethod yX3_size, Cond.selects RX3 yX3_size yX3_size, Cond.code yX3_size cX3_size 1 (some .int)]
def wsX4_drop : List Cond := .code yX4_drop cX4_drop 2 (some .int) :: ((wsX4_drop_r1 ++ (wsX4_drop_r2 ++ wsX4_drop_r3)) ++ wsX40 ++ wsX30 ++ wsX00)
def wsX4_shift_r1 : List Cond := [Cond.fieldLink RX4 10 "MusicHoles" "roll" "LMusicHoles$Roll;", Cond.fieldLink RX4 36 "MusicHoles" "history" "LMusicHoles$History;", Cond.methodLink RX4 89 yX3_has, Cond.instanceMethod yX3_has, Cond.selects RX3 yX3_has yX3_has, Cond.initialized RX3, Cond.code yX3_has cX3_has 2 (some .boolean), Cond.fieldLink RX3 44 "MusicHoles$Roll" "notes" "I", Cond.methodLink RX4 48 yX4_isIn, Cond.static yX4_isIn, Cond.initialized RX4, Cond.code yX4_isIn cX4_isIn 3 (some .boolean), Cond.methodLink RX4 96 yX3_shiftOf, Cond.instanceMethod yX3_shiftOf, Cond.selects RX3 yX3_shiftOf yX3_shiftOf, Cond.code yX3_shiftOf cX3_shiftOf 2 (some .int), Cond.fieldLink RX3 24 "MusicHoles$Roll" "shifts" "[I", Cond.methodLink RX3 52 yX3_has, Cond.methodLink RX4 63 yX0_record, Cond.instanceMethod yX0_record, Cond.selects RX0 yX0_record yX0_record, Cond.initialized RX0, Cond.code yX0_record cX0_record 2 none, Cond.fieldLink RX0 11 "MusicHoles$History" "states" "[LMusicHoles$Roll;"]
def wsX4_shift_r2 : List Cond := [Cond.fieldLink RX0 18 "MusicHoles$History" "size" "I", Cond.fieldLink RX0 30 "MusicHoles$History" "oldest" "I", Cond.methodLink RX0 22 yX0_placeOf, Cond.instanceMethod yX0_placeOf, Cond.selects RX0 yX0_placeOf yX0_placeOf, Cond.code yX0_placeOf cX0_placeOf 2 (some .int), Cond.methodLink RX0 33 yJ9_floorMod_7cf53, Cond.static yJ9_floorMod_7cf53, Cond.initialized RJ9, Cond.code yJ9_floorMod_7cf53 cJ9_floorMod_7cf53 3 (some .int), Cond.methodLink RX0 26 yX3_become, Cond.instanceMethod yX3_become, Cond.selects RX3 yX3_become yX3_become, Cond.code yX3_become cX3_become 3 none, Cond.fieldLink RX3 15 "MusicHoles$Roll" "tracks" "[I", Cond.fieldLink RX3 18 "MusicHoles$Roll" "firsts" "[I", Cond.fieldLink RX3 21 "MusicHoles$Roll" "lasts" "[I", Cond.fieldLink RX3 27 "MusicHoles$Roll" "accents" "[Z", Cond.methodLink RX3 40 yX3_takeSettings, Cond.instanceMethod yX3_takeSettings, Cond.selects RX3 yX3_takeSettings yX3_takeSettings, Cond.code yX3_takeSettings cX3_takeSettings 2 none, Cond.fieldLink RX3 9 "MusicHoles$Roll" "settings" "[I", Cond.methodLink RX3 34 arraycopyName]
def wsX4_shift_r3 : List Cond := [Cond.native arraycopyName, Cond.static arraycopyName, Cond.initialized "java/lang/System", Cond.methodLink RX4 99 yX3_giveShift, Cond.instanceMethod yX3_giveShift, Cond.selects RX3 yX3_giveShift yX3_giveShift, Cond.code yX3_giveShift cX3_giveShift 3 none]
def wsX4_shift : List Cond := .code yX4_shift cX4_shift 4 (some .int) :: ((wsX4_shift_r1 ++ (wsX4_shift_r2 ++ wsX4_shift_r3)) ++ wsX40 ++ wsX30 ++ wsX00)
def wsX4_asNumber : List Cond := .code yX4_asNumber cX4_asNumber 1 (some .int) :: ([])
def wsX4_accent_r1 : List Cond := [Cond.fieldLink RX4 10 "MusicHoles" "roll" "LMusicHoles$Roll;", Cond.fieldLink RX4 36 "MusicHoles" "history" "LMusicHoles$History;", Cond.methodLink RX4 89 yX3_has, Cond.instanceMethod yX3_has, Cond.selects RX3 yX3_has yX3_has, Cond.initialized RX3, Cond.code yX3_has cX3_has 2 (some .boolean), Cond.fieldLink RX3 44 "MusicHoles$Roll" "notes" "I", Cond.methodLink RX4 102 yX3_hasAccent, Cond.instanceMethod yX3_hasAccent, Cond.selects RX3 yX3_hasAccent yX3_hasAccent, Cond.code yX3_hasAccent cX3_hasAccent 2 (some .boolean), Cond.fieldLink RX3 27 "MusicHoles$Roll" "accents" "[Z", Cond.methodLink RX3 52 yX3_has, Cond.methodLink RX4 63 yX0_record, Cond.instanceMethod yX0_record, Cond.selects RX0 yX0_record yX0_record, Cond.initialized RX0, Cond.code yX0_record cX0_record 2 none, Cond.fieldLink RX0 11 "MusicHoles$History" "states" "[LMusicHoles$Roll;", Cond.fieldLink RX0 18 "MusicHoles$History" "size" "I", Cond.fieldLink RX0 30 "MusicHoles$History" "oldest" "I", Cond.methodLink RX0 22 yX0_placeOf, Cond.instanceMethod yX0_placeOf]
def wsX4_accent_r2 : List Cond := [Cond.selects RX0 yX0_placeOf yX0_placeOf, Cond.code yX0_placeOf cX0_placeOf 2 (some .int), Cond.methodLink RX0 33 yJ9_floorMod_7cf53, Cond.static yJ9_floorMod_7cf53, Cond.initialized RJ9, Cond.code yJ9_floorMod_7cf53 cJ9_floorMod_7cf53 3 (some .int), Cond.methodLink RX0 26 yX3_become, Cond.instanceMethod yX3_become, Cond.selects RX3 yX3_become yX3_become, Cond.code yX3_become cX3_become 3 none, Cond.fieldLink RX3 15 "MusicHoles$Roll" "tracks" "[I", Cond.fieldLink RX3 18 "MusicHoles$Roll" "firsts" "[I", Cond.fieldLink RX3 21 "MusicHoles$Roll" "lasts" "[I", Cond.fieldLink RX3 24 "MusicHoles$Roll" "shifts" "[I", Cond.methodLink RX3 40 yX3_takeSettings, Cond.instanceMethod yX3_takeSettings, Cond.selects RX3 yX3_takeSettings yX3_takeSettings, Cond.code yX3_takeSettings cX3_takeSettings 2 none, Cond.fieldLink RX3 9 "MusicHoles$Roll" "settings" "[I", Cond.methodLink RX3 34 arraycopyName, Cond.native arraycopyName, Cond.static arraycopyName, Cond.initialized "java/lang/System", Cond.methodLink RX4 105 yX3_giveAccent]
def wsX4_accent_r3 : List Cond := [Cond.instanceMethod yX3_giveAccent, Cond.selects RX3 yX3_giveAccent yX3_giveAccent, Cond.code yX3_giveAccent cX3_giveAccent 3 none, Cond.methodLink RX4 109 yX4_asNumber, Cond.static yX4_asNumber, Cond.initialized RX4, Cond.code yX4_asNumber cX4_asNumber 1 (some .int)]
def wsX4_accent : List Cond := .code yX4_accent cX4_accent 4 (some .int) :: ((wsX4_accent_r1 ++ (wsX4_accent_r2 ++ wsX4_accent_r3)) ++ wsX40 ++ wsX30 ++ wsX00)
def wsX4_insert_r1 : List Cond := [Cond.fieldLink RX4 10 "MusicHoles" "roll" "LMusicHoles$Roll;", Cond.fieldLink RX4 36 "MusicHoles" "history" "LMusicHoles$History;", Cond.methodLink RX4 75 yX4_isStep, Cond.static yX4_isStep, Cond.initialized RX4, Cond.code yX4_isStep cX4_isStep 1 (some .boolean), Cond.methodLink RX4 48 yX4_isIn, Cond.static yX4_isIn, Cond.code yX4_isIn cX4_isIn 3 (some .boolean), Cond.methodLink RX4 113 yX3_greatestLast, Cond.instanceMethod yX3_greatestLast, Cond.selects RX3 yX3_greatestLast yX3_greatestLast, Cond.initialized RX3, Cond.code yX3_greatestLast cX3_greatestLast 3 (some .int), Cond.fieldLink RX3 44 "MusicHoles$Roll" "notes" "I", Cond.methodLink RX3 78 Lib.Math.max.name, Cond.static Lib.Math.max.name, Cond.initialized "java/lang/Math", Cond.code Lib.Math.max.name Lib.Math.max.code 2 (some .int), Cond.methodLink RX3 75 yX3_lastOf, Cond.instanceMethod yX3_lastOf, Cond.selects RX3 yX3_lastOf yX3_lastOf, Cond.code yX3_lastOf cX3_lastOf 2 (some .int), Cond.fieldLink RX3 21 "MusicHoles$Roll" "lasts" "[I"]
def wsX4_insert_r2 : List Cond := [Cond.methodLink RX3 52 yX3_has, Cond.instanceMethod yX3_has, Cond.selects RX3 yX3_has yX3_has, Cond.code yX3_has cX3_has 2 (some .boolean), Cond.methodLink RX4 63 yX0_record, Cond.instanceMethod yX0_record, Cond.selects RX0 yX0_record yX0_record, Cond.initialized RX0, Cond.code yX0_record cX0_record 2 none, Cond.fieldLink RX0 11 "MusicHoles$History" "states" "[LMusicHoles$Roll;", Cond.fieldLink RX0 18 "MusicHoles$History" "size" "I", Cond.fieldLink RX0 30 "MusicHoles$History" "oldest" "I", Cond.methodLink RX0 22 yX0_placeOf, Cond.instanceMethod yX0_placeOf, Cond.selects RX0 yX0_placeOf yX0_placeOf, Cond.code yX0_placeOf cX0_placeOf 2 (some .int), Cond.methodLink RX0 33 yJ9_floorMod_7cf53, Cond.static yJ9_floorMod_7cf53, Cond.initialized RJ9, Cond.code yJ9_floorMod_7cf53 cJ9_floorMod_7cf53 3 (some .int), Cond.methodLink RX0 26 yX3_become, Cond.instanceMethod yX3_become, Cond.selects RX3 yX3_become yX3_become, Cond.code yX3_become cX3_become 3 none]
def wsX4_insert_r3 : List Cond := [Cond.fieldLink RX3 15 "MusicHoles$Roll" "tracks" "[I", Cond.fieldLink RX3 18 "MusicHoles$Roll" "firsts" "[I", Cond.fieldLink RX3 24 "MusicHoles$Roll" "shifts" "[I", Cond.fieldLink RX3 27 "MusicHoles$Roll" "accents" "[Z", Cond.methodLink RX3 40 yX3_takeSettings, Cond.instanceMethod yX3_takeSettings, Cond.selects RX3 yX3_takeSettings yX3_takeSettings, Cond.code yX3_takeSettings cX3_takeSettings 2 none, Cond.fieldLink RX3 9 "MusicHoles$Roll" "settings" "[I", Cond.methodLink RX3 34 arraycopyName, Cond.native arraycopyName, Cond.static arraycopyName, Cond.initialized "java/lang/System", Cond.methodLink RX4 116 yX3_lengthen, Cond.instanceMethod yX3_lengthen, Cond.selects RX3 yX3_lengthen yX3_lengthen, Cond.code yX3_lengthen cX3_lengthen 5 (some .int)]
def wsX4_insert : List Cond := .code yX4_insert cX4_insert 4 (some .int) :: ((wsX4_insert_r1 ++ (wsX4_insert_r2 ++ wsX4_insert_r3)) ++ wsX40 ++ wsX30 ++ wsX00)
def wsX4_cut_r1 : List Cond := [Cond.fieldLink RX4 10 "MusicHoles" "roll" "LMusicHoles$Roll;", Cond.fieldLink RX4 36 "MusicHoles" "history" "LMusicHoles$History;", Cond.fieldLink RX4 16 "MusicHoles" "trial" "LMusicHoles$Roll;", Cond.methodLink RX4 75 yX4_isStep, Cond.static yX4_isStep, Cond.initialized RX4, Cond.code yX4_isStep cX4_isStep 1 (some .boolean), Cond.methodLink RX4 48 yX4_isIn, Cond.static yX4_isIn, Cond.code yX4_isIn cX4_isIn 3 (some .boolean), Cond.methodLink RX4 78 yX3_size, Cond.instanceMethod yX3_size, Cond.selects RX3 yX3_size yX3_size, Cond.initialized RX3, Cond.code yX3_size cX3_size 1 (some .int), Cond.fieldLink RX3 44 "MusicHoles$Roll" "notes" "I", Cond.methodLink RX4 63 yX0_record, Cond.instanceMethod yX0_record, Cond.selects RX0 yX0_record yX0_record, Cond.initialized RX0, Cond.code yX0_record cX0_record 2 none, Cond.fieldLink RX0 11 "MusicHoles$History" "states" "[LMusicHoles$Roll;", Cond.fieldLink RX0 18 "MusicHoles$History" "size" "I", Cond.fieldLink RX0 30 "MusicHoles$History" "oldest" "I"]
def wsX4_cut_r2 : List Cond := [Cond.methodLink RX0 22 yX0_placeOf, Cond.instanceMethod yX0_placeOf, Cond.selects RX0 yX0_placeOf yX0_placeOf, Cond.code yX0_placeOf cX0_placeOf 2 (some .int), Cond.methodLink RX0 33 yJ9_floorMod_7cf53, Cond.static yJ9_floorMod_7cf53, Cond.initialized RJ9, Cond.code yJ9_floorMod_7cf53 cJ9_floorMod_7cf53 3 (some .int), Cond.methodLink RX0 26 yX3_become, Cond.instanceMethod yX3_become, Cond.selects RX3 yX3_become yX3_become, Cond.code yX3_become cX3_become 3 none, Cond.fieldLink RX3 15 "MusicHoles$Roll" "tracks" "[I", Cond.fieldLink RX3 18 "MusicHoles$Roll" "firsts" "[I", Cond.fieldLink RX3 21 "MusicHoles$Roll" "lasts" "[I", Cond.fieldLink RX3 24 "MusicHoles$Roll" "shifts" "[I", Cond.fieldLink RX3 27 "MusicHoles$Roll" "accents" "[Z", Cond.methodLink RX3 40 yX3_takeSettings, Cond.instanceMethod yX3_takeSettings, Cond.selects RX3 yX3_takeSettings yX3_takeSettings, Cond.code yX3_takeSettings cX3_takeSettings 2 none, Cond.fieldLink RX3 9 "MusicHoles$Roll" "settings" "[I", Cond.methodLink RX3 34 arraycopyName, Cond.native arraycopyName]
def wsX4_cut_r3 : List Cond := [Cond.static arraycopyName, Cond.initialized "java/lang/System", Cond.methodLink RX4 120 yX3_takeSettings, Cond.methodLink RX4 123 yX3_takeCut, Cond.instanceMethod yX3_takeCut, Cond.selects RX3 yX3_takeCut yX3_takeCut, Cond.code yX3_takeCut cX3_takeCut 10 none, Cond.methodLink RX3 78 Lib.Math.max.name, Cond.static Lib.Math.max.name, Cond.initialized "java/lang/Math", Cond.code Lib.Math.max.name Lib.Math.max.code 2 (some .int), Cond.methodLink RX3 87 Lib.Math.min.name, Cond.static Lib.Math.min.name, Cond.code Lib.Math.min.name Lib.Math.min.code 2 (some .int), Cond.methodLink RX3 83 yX3_size, Cond.methodLink RX3 64 yX3_firstOf, Cond.instanceMethod yX3_firstOf, Cond.selects RX3 yX3_firstOf yX3_firstOf, Cond.code yX3_firstOf cX3_firstOf 2 (some .int), Cond.methodLink RX3 52 yX3_has, Cond.instanceMethod yX3_has, Cond.selects RX3 yX3_has yX3_has, Cond.code yX3_has cX3_has 2 (some .boolean), Cond.methodLink RX3 75 yX3_lastOf]
def wsX4_cut_r4 : List Cond := [Cond.instanceMethod yX3_lastOf, Cond.selects RX3 yX3_lastOf yX3_lastOf, Cond.code yX3_lastOf cX3_lastOf 2 (some .int), Cond.methodLink RX3 68 yX3_trackOf, Cond.instanceMethod yX3_trackOf, Cond.selects RX3 yX3_trackOf yX3_trackOf, Cond.code yX3_trackOf cX3_trackOf 2 (some .int), Cond.methodLink RX3 90 yX3_shiftOf, Cond.instanceMethod yX3_shiftOf, Cond.selects RX3 yX3_shiftOf yX3_shiftOf, Cond.code yX3_shiftOf cX3_shiftOf 2 (some .int), Cond.methodLink RX3 93 yX3_hasAccent, Cond.instanceMethod yX3_hasAccent, Cond.selects RX3 yX3_hasAccent yX3_hasAccent, Cond.code yX3_hasAccent cX3_hasAccent 2 (some .boolean), Cond.methodLink RX3 96 yX3_add, Cond.instanceMethod yX3_add, Cond.selects RX3 yX3_add yX3_add, Cond.code yX3_add cX3_add 8 (some .int), Cond.methodLink RX3 56 yX3_placeFor, Cond.instanceMethod yX3_placeFor, Cond.selects RX3 yX3_placeFor yX3_placeFor, Cond.code yX3_placeFor cX3_placeFor 5 (some .int), Cond.methodLink RX3 60 yX3_move]
def wsX4_cut_r5 : List Cond := [Cond.instanceMethod yX3_move, Cond.selects RX3 yX3_move yX3_move, Cond.code yX3_move cX3_move 3 none, Cond.methodLink RX4 127 yX3_become]
def wsX4_cut : List Cond := .code yX4_cut cX4_cut 4 (some .int) :: ((wsX4_cut_r1 ++ (wsX4_cut_r2 ++ (wsX4_cut_r3 ++ (wsX4_cut_r4 ++ wsX4_cut_r5)))) ++ wsX40 ++ wsX30 ++ wsX00)
def wsX4_isPassage : List Cond := .code yX4_isPassage cX4_isPassage 2 (some .boolean) :: ([.methodLink RX4 75 yX4_isStep, .static yX4_isStep, .initialized RX4, .code yX4_isStep cX4_isStep 1 (some .boolean), .methodLink RX4 48 yX4_isIn, .static yX4_isIn, .code yX4_isIn cX4_isIn 3 (some .boolean)])
def wsX4_isFreeAt_r1 : List Cond := [Cond.fieldLink RX4 10 "MusicHoles" "roll" "LMusicHoles$Roll;", Cond.methodLink RX4 78 yX3_size, Cond.instanceMethod yX3_size, Cond.selects RX3 yX3_size yX3_size, Cond.initialized RX3, Cond.code yX3_size cX3_size 1 (some .int), Cond.fieldLink RX3 44 "MusicHoles$Roll" "notes" "I", Cond.methodLink RX4 249 yX3_liesWithin, Cond.instanceMethod yX3_liesWithin, Cond.selects RX3 yX3_liesWithin yX3_liesWithin, Cond.code yX3_liesWithin cX3_liesWithin 4 (some .boolean), Cond.methodLink RX3 52 yX3_has, Cond.instanceMethod yX3_has, Cond.selects RX3 yX3_has yX3_has, Cond.code yX3_has cX3_has 2 (some .boolean), Cond.methodLink RX3 64 yX3_firstOf, Cond.instanceMethod yX3_firstOf, Cond.selects RX3 yX3_firstOf yX3_firstOf, Cond.code yX3_firstOf cX3_firstOf 2 (some .int), Cond.fieldLink RX3 18 "MusicHoles$Roll" "firsts" "[I", Cond.methodLink RX3 75 yX3_lastOf, Cond.instanceMethod yX3_lastOf, Cond.selects RX3 yX3_lastOf yX3_lastOf, Cond.code yX3_lastOf cX3_lastOf 2 (some .int)]
def wsX4_isFreeAt_r2 : List Cond := [Cond.fieldLink RX3 21 "MusicHoles$Roll" "lasts" "[I", Cond.methodLink RX4 163 yX3_firstOf, Cond.methodLink RX4 166 yX3_lastOf, Cond.methodLink RX4 160 yX3_trackOf, Cond.instanceMethod yX3_trackOf, Cond.selects RX3 yX3_trackOf yX3_trackOf, Cond.code yX3_trackOf cX3_trackOf 2 (some .int), Cond.fieldLink RX3 15 "MusicHoles$Roll" "tracks" "[I", Cond.methodLink RX4 82 yX3_isTaken, Cond.instanceMethod yX3_isTaken, Cond.selects RX3 yX3_isTaken yX3_isTaken, Cond.code yX3_isTaken cX3_isTaken 4 (some .boolean), Cond.methodLink RX3 71 yX3_touching, Cond.instanceMethod yX3_touching, Cond.selects RX3 yX3_touching yX3_touching, Cond.code yX3_touching cX3_touching 6 (some .int), Cond.methodLink RX3 68 yX3_trackOf]
def wsX4_isFreeAt : List Cond := .code yX4_isFreeAt cX4_isFreeAt 7 (some .boolean) :: ((wsX4_isFreeAt_r1 ++ wsX4_isFreeAt_r2) ++ wsX40 ++ wsX30)
def wsX4_copy_r1 : List Cond := [Cond.fieldLink RX4 10 "MusicHoles" "roll" "LMusicHoles$Roll;", Cond.fieldLink RX4 36 "MusicHoles" "history" "LMusicHoles$History;", Cond.fieldLink RX4 16 "MusicHoles" "trial" "LMusicHoles$Roll;", Cond.methodLink RX4 130 yX4_isPassage, Cond.static yX4_isPassage, Cond.initialized RX4, Cond.code yX4_isPassage cX4_isPassage 2 (some .boolean), Cond.methodLink RX4 75 yX4_isStep, Cond.static yX4_isStep, Cond.code yX4_isStep cX4_isStep 1 (some .boolean), Cond.methodLink RX4 48 yX4_isIn, Cond.static yX4_isIn, Cond.code yX4_isIn cX4_isIn 3 (some .boolean), Cond.methodLink RX4 134 yX3_within, Cond.instanceMethod yX3_within, Cond.selects RX3 yX3_within yX3_within, Cond.initialized RX3, Cond.code yX3_within cX3_within 5 (some .int), Cond.fieldLink RX3 44 "MusicHoles$Roll" "notes" "I", Cond.methodLink RX3 100 yX3_liesWithin, Cond.instanceMethod yX3_liesWithin, Cond.selects RX3 yX3_liesWithin yX3_liesWithin, Cond.code yX3_liesWithin cX3_liesWithin 4 (some .boolean), Cond.methodLink RX3 52 yX3_has]
def wsX4_copy_r2 : List Cond := [Cond.instanceMethod yX3_has, Cond.selects RX3 yX3_has yX3_has, Cond.code yX3_has cX3_has 2 (some .boolean), Cond.methodLink RX3 64 yX3_firstOf, Cond.instanceMethod yX3_firstOf, Cond.selects RX3 yX3_firstOf yX3_firstOf, Cond.code yX3_firstOf cX3_firstOf 2 (some .int), Cond.fieldLink RX3 18 "MusicHoles$Roll" "firsts" "[I", Cond.methodLink RX3 75 yX3_lastOf, Cond.instanceMethod yX3_lastOf, Cond.selects RX3 yX3_lastOf yX3_lastOf, Cond.code yX3_lastOf cX3_lastOf 2 (some .int), Cond.fieldLink RX3 21 "MusicHoles$Roll" "lasts" "[I", Cond.methodLink RX4 78 yX3_size, Cond.instanceMethod yX3_size, Cond.selects RX3 yX3_size yX3_size, Cond.code yX3_size cX3_size 1 (some .int), Cond.methodLink RX4 137 yX4_isFreeAt, Cond.instanceMethod yX4_isFreeAt, Cond.selects RX4 yX4_isFreeAt yX4_isFreeAt, Cond.code yX4_isFreeAt cX4_isFreeAt 7 (some .boolean), Cond.methodLink RX4 249 yX3_liesWithin, Cond.methodLink RX4 163 yX3_firstOf, Cond.methodLink RX4 166 yX3_lastOf]
def wsX4_copy_r3 : List Cond := [Cond.methodLink RX4 160 yX3_trackOf, Cond.instanceMethod yX3_trackOf, Cond.selects RX3 yX3_trackOf yX3_trackOf, Cond.code yX3_trackOf cX3_trackOf 2 (some .int), Cond.fieldLink RX3 15 "MusicHoles$Roll" "tracks" "[I", Cond.methodLink RX4 82 yX3_isTaken, Cond.instanceMethod yX3_isTaken, Cond.selects RX3 yX3_isTaken yX3_isTaken, Cond.code yX3_isTaken cX3_isTaken 4 (some .boolean), Cond.methodLink RX3 71 yX3_touching, Cond.instanceMethod yX3_touching, Cond.selects RX3 yX3_touching yX3_touching, Cond.code yX3_touching cX3_touching 6 (some .int), Cond.methodLink RX3 68 yX3_trackOf, Cond.methodLink RX4 63 yX0_record, Cond.instanceMethod yX0_record, Cond.selects RX0 yX0_record yX0_record, Cond.initialized RX0, Cond.code yX0_record cX0_record 2 none, Cond.fieldLink RX0 11 "MusicHoles$History" "states" "[LMusicHoles$Roll;", Cond.fieldLink RX0 18 "MusicHoles$History" "size" "I", Cond.fieldLink RX0 30 "MusicHoles$History" "oldest" "I", Cond.methodLink RX0 22 yX0_placeOf, Cond.instanceMethod yX0_placeOf]
def wsX4_copy_r4 : List Cond := [Cond.selects RX0 yX0_placeOf yX0_placeOf, Cond.code yX0_placeOf cX0_placeOf 2 (some .int), Cond.methodLink RX0 33 yJ9_floorMod_7cf53, Cond.static yJ9_floorMod_7cf53, Cond.initialized RJ9, Cond.code yJ9_floorMod_7cf53 cJ9_floorMod_7cf53 3 (some .int), Cond.methodLink RX0 26 yX3_become, Cond.instanceMethod yX3_become, Cond.selects RX3 yX3_become yX3_become, Cond.code yX3_become cX3_become 3 none, Cond.fieldLink RX3 24 "MusicHoles$Roll" "shifts" "[I", Cond.fieldLink RX3 27 "MusicHoles$Roll" "accents" "[Z", Cond.methodLink RX3 40 yX3_takeSettings, Cond.instanceMethod yX3_takeSettings, Cond.selects RX3 yX3_takeSettings yX3_takeSettings, Cond.code yX3_takeSettings cX3_takeSettings 2 none, Cond.fieldLink RX3 9 "MusicHoles$Roll" "settings" "[I", Cond.methodLink RX3 34 arraycopyName, Cond.native arraycopyName, Cond.static arraycopyName, Cond.initialized "java/lang/System", Cond.methodLink RX4 127 yX3_become, Cond.methodLink RX4 140 yX3_addPassage, Cond.instanceMethod yX3_addPassage]
def wsX4_copy_r5 : List Cond := [Cond.selects RX3 yX3_addPassage yX3_addPassage, Cond.code yX3_addPassage cX3_addPassage 8 none, Cond.methodLink RX3 83 yX3_size, Cond.methodLink RX3 90 yX3_shiftOf, Cond.instanceMethod yX3_shiftOf, Cond.selects RX3 yX3_shiftOf yX3_shiftOf, Cond.code yX3_shiftOf cX3_shiftOf 2 (some .int), Cond.methodLink RX3 93 yX3_hasAccent, Cond.instanceMethod yX3_hasAccent, Cond.selects RX3 yX3_hasAccent yX3_hasAccent, Cond.code yX3_hasAccent cX3_hasAccent 2 (some .boolean), Cond.methodLink RX3 96 yX3_add, Cond.instanceMethod yX3_add, Cond.selects RX3 yX3_add yX3_add, Cond.code yX3_add cX3_add 8 (some .int), Cond.methodLink RX3 56 yX3_placeFor, Cond.instanceMethod yX3_placeFor, Cond.selects RX3 yX3_placeFor yX3_placeFor, Cond.code yX3_placeFor cX3_placeFor 5 (some .int), Cond.methodLink RX3 60 yX3_move, Cond.instanceMethod yX3_move, Cond.selects RX3 yX3_move yX3_move, Cond.code yX3_move cX3_move 3 none]
def wsX4_copy : List Cond := .code yX4_copy cX4_copy 5 (some .int) :: ((wsX4_copy_r1 ++ (wsX4_copy_r2 ++ (wsX4_copy_r3 ++ (wsX4_copy_r4 ++ wsX4_copy_r5)))) ++ wsX40 ++ wsX30 ++ wsX00)
def wsX4_isHeardWhole_r1 : List Cond := [Cond.fieldLink RX4 10 "MusicHoles" "roll" "LMusicHoles$Roll;", Cond.fieldLink RX4 22 "MusicHoles" "paper" "LMusicHoles$Paper;", Cond.methodLink RX4 163 yX3_firstOf, Cond.instanceMethod yX3_firstOf, Cond.selects RX3 yX3_firstOf yX3_firstOf, Cond.initialized RX3, Cond.code yX3_firstOf cX3_firstOf 2 (some .int), Cond.fieldLink RX3 18 "MusicHoles$Roll" "firsts" "[I", Cond.methodLink RX3 52 yX3_has, Cond.instanceMethod yX3_has, Cond.selects RX3 yX3_has yX3_has, Cond.code yX3_has cX3_has 2 (some .boolean), Cond.fieldLink RX3 44 "MusicHoles$Roll" "notes" "I", Cond.methodLink RX4 166 yX3_lastOf, Cond.instanceMethod yX3_lastOf, Cond.selects RX3 yX3_lastOf yX3_lastOf, Cond.code yX3_lastOf cX3_lastOf 2 (some .int), Cond.fieldLink RX3 21 "MusicHoles$Roll" "lasts" "[I", Cond.methodLink RX4 160 yX3_trackOf, Cond.instanceMethod yX3_trackOf, Cond.selects RX3 yX3_trackOf yX3_trackOf, Cond.code yX3_trackOf cX3_trackOf 2 (some .int), Cond.fieldLink RX3 15 "MusicHoles$Roll" "tracks" "[I", Cond.methodLink RX4 228 yX2_isHeard]
def wsX4_isHeardWhole_r2 : List Cond := [Cond.instanceMethod yX2_isHeard, Cond.selects RX2 yX2_isHeard yX2_isHeard, Cond.initialized RX2, Cond.code yX2_isHeard cX2_isHeard 3 (some .boolean), Cond.static yX4_isTrack, Cond.initialized RX4, Cond.code yX4_isTrack cX4_isTrack 1 (some .boolean), Cond.methodLink RX4 48 yX4_isIn, Cond.static yX4_isIn, Cond.code yX4_isIn cX4_isIn 3 (some .boolean), Cond.methodLink RX2 78 yX2_heardAt, Cond.instanceMethod yX2_heardAt, Cond.selects RX2 yX2_heardAt yX2_heardAt, Cond.code yX2_heardAt cX2_heardAt 2 (some .int), Cond.fieldLink RX2 15 "MusicHoles$Paper" "heard" "[I", Cond.static yX4_isStep, Cond.code yX4_isStep cX4_isStep 1 (some .boolean)]
def wsX4_isHeardWhole : List Cond := .code yX4_isHeardWhole cX4_isHeardWhole 3 (some .boolean) :: ((wsX4_isHeardWhole_r1 ++ wsX4_isHeardWhole_r2) ++ wsX40 ++ wsX30 ++ wsX20)
def wsX4_of_r1 : List Cond := [Cond.fieldLink RX4 10 "MusicHoles" "roll" "LMusicHoles$Roll;", Cond.fieldLink RX4 22 "MusicHoles" "paper" "LMusicHoles$Paper;", Cond.methodLink RX4 89 yX3_has, Cond.instanceMethod yX3_has, Cond.selects RX3 yX3_has yX3_has, Cond.initialized RX3, Cond.code yX3_has cX3_has 2 (some .boolean), Cond.fieldLink RX3 44 "MusicHoles$Roll" "notes" "I", Cond.methodLink RX4 160 yX3_trackOf, Cond.instanceMethod yX3_trackOf, Cond.selects RX3 yX3_trackOf yX3_trackOf, Cond.code yX3_trackOf cX3_trackOf 2 (some .int), Cond.fieldLink RX3 15 "MusicHoles$Roll" "tracks" "[I", Cond.methodLink RX3 52 yX3_has, Cond.methodLink RX4 163 yX3_firstOf, Cond.instanceMethod yX3_firstOf, Cond.selects RX3 yX3_firstOf yX3_firstOf, Cond.code yX3_firstOf cX3_firstOf 2 (some .int), Cond.fieldLink RX3 18 "MusicHoles$Roll" "firsts" "[I", Cond.methodLink RX4 166 yX3_lastOf, Cond.instanceMethod yX3_lastOf, Cond.selects RX3 yX3_lastOf yX3_lastOf, Cond.code yX3_lastOf cX3_lastOf 2 (some .int), Cond.fieldLink RX3 21 "MusicHoles$Roll" "lasts" "[I"]
def wsX4_of_r2 : List Cond := [Cond.methodLink RX4 96 yX3_shiftOf, Cond.instanceMethod yX3_shiftOf, Cond.selects RX3 yX3_shiftOf yX3_shiftOf, Cond.code yX3_shiftOf cX3_shiftOf 2 (some .int), Cond.fieldLink RX3 24 "MusicHoles$Roll" "shifts" "[I", Cond.methodLink RX4 102 yX3_hasAccent, Cond.instanceMethod yX3_hasAccent, Cond.selects RX3 yX3_hasAccent yX3_hasAccent, Cond.code yX3_hasAccent cX3_hasAccent 2 (some .boolean), Cond.fieldLink RX3 27 "MusicHoles$Roll" "accents" "[Z", Cond.methodLink RX4 109 yX4_asNumber, Cond.static yX4_asNumber, Cond.initialized RX4, Cond.code yX4_asNumber cX4_asNumber 1 (some .int), Cond.methodLink RX4 169 yX3_bridges, Cond.instanceMethod yX3_bridges, Cond.selects RX3 yX3_bridges yX3_bridges, Cond.code yX3_bridges cX3_bridges 4 (some .int), Cond.methodLink RX3 64 yX3_firstOf, Cond.methodLink RX3 75 yX3_lastOf, Cond.methodLink RX3 103 yX3_isHole, Cond.instanceMethod yX3_isHole, Cond.selects RX3 yX3_isHole yX3_isHole, Cond.code yX3_isHole cX3_isHole 5 (some .boolean)]
def wsX4_of_r3 : List Cond := [Cond.fieldLink RX3 9 "MusicHoles$Roll" "settings" "[I", Cond.methodLink RX3 90 yX3_shiftOf, Cond.methodLink RX4 172 yX3_longestBridge, Cond.instanceMethod yX3_longestBridge, Cond.selects RX3 yX3_longestBridge yX3_longestBridge, Cond.code yX3_longestBridge cX3_longestBridge 5 (some .int), Cond.methodLink RX3 78 Lib.Math.max.name, Cond.static Lib.Math.max.name, Cond.initialized "java/lang/Math", Cond.code Lib.Math.max.name Lib.Math.max.code 2 (some .int), Cond.methodLink RX4 175 yX2_perforate, Cond.instanceMethod yX2_perforate, Cond.selects RX2 yX2_perforate yX2_perforate, Cond.initialized RX2, Cond.code yX2_perforate cX2_perforate 6 none, Cond.fieldLink RX2 24 "MusicHoles$Paper" "weak" "I", Cond.fieldLink RX2 9 "MusicHoles$Paper" "holes" "[I", Cond.methodLink RX2 18 yX3_settingOf, Cond.instanceMethod yX3_settingOf, Cond.selects RX3 yX3_settingOf yX3_settingOf, Cond.code yX3_settingOf cX3_settingOf 2 (some .int), Cond.static yX4_isIn, Cond.code yX4_isIn cX4_isIn 3 (some .boolean), Cond.methodLink RX2 28 yJ7_fill_53178]
def wsX4_of_r4 : List Cond := [Cond.static yJ7_fill_53178, Cond.initialized RJ7, Cond.code yJ7_fill_53178 cJ7_fill_53178 4 none, Cond.methodLink RX2 34 yX3_size, Cond.instanceMethod yX3_size, Cond.selects RX3 yX3_size yX3_size, Cond.code yX3_size cX3_size 1 (some .int), Cond.methodLink RX2 38 yX3_trackOf, Cond.methodLink RX2 41 yX3_firstOf, Cond.methodLink RX2 44 yX3_lastOf, Cond.methodLink RX2 47 yX3_isHole, Cond.methodLink RX2 51 yX2_punch, Cond.instanceMethod yX2_punch, Cond.selects RX2 yX2_punch yX2_punch, Cond.code yX2_punch cX2_punch 3 none, Cond.static yX4_isTrack, Cond.code yX4_isTrack cX4_isTrack 1 (some .boolean), Cond.methodLink RX4 48 yX4_isIn, Cond.static yX4_isStep, Cond.code yX4_isStep cX4_isStep 1 (some .boolean), Cond.methodLink RX2 55 yX3_hasAccent, Cond.methodLink RX2 59 yX2_listen, Cond.instanceMethod yX2_listen, Cond.selects RX2 yX2_listen yX2_listen]
def wsX4_of_r5 : List Cond := [Cond.code yX2_listen cX2_listen 5 none, Cond.methodLink RX2 69 Lib.Math.max.name, Cond.fieldLink RX2 15 "MusicHoles$Paper" "heard" "[I", Cond.methodLink RX2 75 yX2_holesAt, Cond.instanceMethod yX2_holesAt, Cond.selects RX2 yX2_holesAt yX2_holesAt, Cond.code yX2_holesAt cX2_holesAt 2 (some .int), Cond.methodLink RX4 178 yX4_isHeardWhole, Cond.instanceMethod yX4_isHeardWhole, Cond.selects RX4 yX4_isHeardWhole yX4_isHeardWhole, Cond.code yX4_isHeardWhole cX4_isHeardWhole 3 (some .boolean), Cond.methodLink RX4 228 yX2_isHeard, Cond.instanceMethod yX2_isHeard, Cond.selects RX2 yX2_isHeard yX2_isHeard, Cond.code yX2_isHeard cX2_isHeard 3 (some .boolean), Cond.methodLink RX2 78 yX2_heardAt, Cond.instanceMethod yX2_heardAt, Cond.selects RX2 yX2_heardAt yX2_heardAt, Cond.code yX2_heardAt cX2_heardAt 2 (some .int)]
def wsX4_of : List Cond := .code yX4_of cX4_of 3 (some .int) :: ((wsX4_of_r1 ++ (wsX4_of_r2 ++ (wsX4_of_r3 ++ (wsX4_of_r4 ++ wsX4_of_r5)))) ++ wsX40 ++ wsX30 ++ wsX20)
def wsX4_at_r1 : List Cond := [Cond.fieldLink RX4 22 "MusicHoles" "paper" "LMusicHoles$Paper;", Cond.fieldLink RX4 10 "MusicHoles" "roll" "LMusicHoles$Roll;", Cond.methodLink RX4 75 yX4_isStep, Cond.static yX4_isStep, Cond.initialized RX4, Cond.code yX4_isStep cX4_isStep 1 (some .boolean), Cond.methodLink RX4 48 yX4_isIn, Cond.static yX4_isIn, Cond.code yX4_isIn cX4_isIn 3 (some .boolean), Cond.methodLink RX4 175 yX2_perforate, Cond.instanceMethod yX2_perforate, Cond.selects RX2 yX2_perforate yX2_perforate, Cond.initialized RX2, Cond.code yX2_perforate cX2_perforate 6 none, Cond.fieldLink RX2 24 "MusicHoles$Paper" "weak" "I", Cond.fieldLink RX2 9 "MusicHoles$Paper" "holes" "[I", Cond.methodLink RX2 18 yX3_settingOf, Cond.instanceMethod yX3_settingOf, Cond.selects RX3 yX3_settingOf yX3_settingOf, Cond.initialized RX3, Cond.code yX3_settingOf cX3_settingOf 2 (some .int), Cond.fieldLink RX3 9 "MusicHoles$Roll" "settings" "[I", Cond.methodLink RX2 28 yJ7_fill_53178, Cond.static yJ7_fill_53178]
def wsX4_at_r2 : List Cond := [Cond.initialized RJ7, Cond.code yJ7_fill_53178 cJ7_fill_53178 4 none, Cond.methodLink RX2 34 yX3_size, Cond.instanceMethod yX3_size, Cond.selects RX3 yX3_size yX3_size, Cond.code yX3_size cX3_size 1 (some .int), Cond.fieldLink RX3 44 "MusicHoles$Roll" "notes" "I", Cond.methodLink RX2 38 yX3_trackOf, Cond.instanceMethod yX3_trackOf, Cond.selects RX3 yX3_trackOf yX3_trackOf, Cond.code yX3_trackOf cX3_trackOf 2 (some .int), Cond.fieldLink RX3 15 "MusicHoles$Roll" "tracks" "[I", Cond.methodLink RX3 52 yX3_has, Cond.instanceMethod yX3_has, Cond.selects RX3 yX3_has yX3_has, Cond.code yX3_has cX3_has 2 (some .boolean), Cond.methodLink RX2 41 yX3_firstOf, Cond.instanceMethod yX3_firstOf, Cond.selects RX3 yX3_firstOf yX3_firstOf, Cond.code yX3_firstOf cX3_firstOf 2 (some .int), Cond.fieldLink RX3 18 "MusicHoles$Roll" "firsts" "[I", Cond.methodLink RX2 44 yX3_lastOf, Cond.instanceMethod yX3_lastOf, Cond.selects RX3 yX3_lastOf yX3_lastOf]
def wsX4_at_r3 : List Cond := [Cond.code yX3_lastOf cX3_lastOf 2 (some .int), Cond.fieldLink RX3 21 "MusicHoles$Roll" "lasts" "[I", Cond.methodLink RX2 47 yX3_isHole, Cond.instanceMethod yX3_isHole, Cond.selects RX3 yX3_isHole yX3_isHole, Cond.code yX3_isHole cX3_isHole 5 (some .boolean), Cond.methodLink RX3 64 yX3_firstOf, Cond.methodLink RX3 75 yX3_lastOf, Cond.methodLink RX3 90 yX3_shiftOf, Cond.instanceMethod yX3_shiftOf, Cond.selects RX3 yX3_shiftOf yX3_shiftOf, Cond.code yX3_shiftOf cX3_shiftOf 2 (some .int), Cond.fieldLink RX3 24 "MusicHoles$Roll" "shifts" "[I", Cond.methodLink RX2 51 yX2_punch, Cond.instanceMethod yX2_punch, Cond.selects RX2 yX2_punch yX2_punch, Cond.code yX2_punch cX2_punch 3 none, Cond.static yX4_isTrack, Cond.code yX4_isTrack cX4_isTrack 1 (some .boolean), Cond.methodLink RX2 55 yX3_hasAccent, Cond.instanceMethod yX3_hasAccent, Cond.selects RX3 yX3_hasAccent yX3_hasAccent, Cond.code yX3_hasAccent cX3_hasAccent 2 (some .boolean), Cond.fieldLink RX3 27 "MusicHoles$Roll" "accents" "[Z"]
def wsX4_at_r4 : List Cond := [Cond.methodLink RX2 59 yX2_listen, Cond.instanceMethod yX2_listen, Cond.selects RX2 yX2_listen yX2_listen, Cond.code yX2_listen cX2_listen 5 none, Cond.methodLink RX2 69 Lib.Math.max.name, Cond.static Lib.Math.max.name, Cond.initialized "java/lang/Math", Cond.code Lib.Math.max.name Lib.Math.max.code 2 (some .int), Cond.fieldLink RX2 15 "MusicHoles$Paper" "heard" "[I", Cond.methodLink RX2 75 yX2_holesAt, Cond.instanceMethod yX2_holesAt, Cond.selects RX2 yX2_holesAt yX2_holesAt, Cond.code yX2_holesAt cX2_holesAt 2 (some .int), Cond.methodLink RX4 181 yX2_holesAt, Cond.methodLink RX4 184 yX2_heardAt, Cond.instanceMethod yX2_heardAt, Cond.selects RX2 yX2_heardAt yX2_heardAt, Cond.code yX2_heardAt cX2_heardAt 2 (some .int), Cond.methodLink RX4 187 yX3_tracksAt, Cond.instanceMethod yX3_tracksAt, Cond.selects RX3 yX3_tracksAt yX3_tracksAt, Cond.code yX3_tracksAt cX3_tracksAt 4 (some .int), Cond.methodLink RX3 68 yX3_trackOf, Cond.methodLink RX4 190 yX2_sideBySide]
def wsX4_at_r5 : List Cond := [Cond.instanceMethod yX2_sideBySide, Cond.selects RX2 yX2_sideBySide yX2_sideBySide, Cond.code yX2_sideBySide cX2_sideBySide 6 (some .int), Cond.methodLink RX4 193 yX2_isWeak, Cond.instanceMethod yX2_isWeak, Cond.selects RX2 yX2_isWeak yX2_isWeak, Cond.code yX2_isWeak cX2_isWeak 2 (some .boolean), Cond.methodLink RX2 81 yX2_sideBySide, Cond.methodLink RX4 109 yX4_asNumber, Cond.static yX4_asNumber, Cond.code yX4_asNumber cX4_asNumber 1 (some .int)]
def wsX4_at : List Cond := .code yX4_at cX4_at 3 (some .int) :: ((wsX4_at_r1 ++ (wsX4_at_r2 ++ (wsX4_at_r3 ++ (wsX4_at_r4 ++ wsX4_at_r5)))) ++ wsX40 ++ wsX20 ++ wsX30)
def wsX4_sound_r1 : List Cond := [Cond.fieldLink RX4 22 "MusicHoles" "paper" "LMusicHoles$Paper;", Cond.fieldLink RX4 10 "MusicHoles" "roll" "LMusicHoles$Roll;", Cond.methodLink RX4 71 yX4_isTrack, Cond.static yX4_isTrack, Cond.initialized RX4, Cond.code yX4_isTrack cX4_isTrack 1 (some .boolean), Cond.methodLink RX4 48 yX4_isIn, Cond.static yX4_isIn, Cond.code yX4_isIn cX4_isIn 3 (some .boolean), Cond.methodLink RX4 175 yX2_perforate, Cond.instanceMethod yX2_perforate, Cond.selects RX2 yX2_perforate yX2_perforate, Cond.initialized RX2, Cond.code yX2_perforate cX2_perforate 6 none, Cond.fieldLink RX2 24 "MusicHoles$Paper" "weak" "I", Cond.fieldLink RX2 9 "MusicHoles$Paper" "holes" "[I", Cond.methodLink RX2 18 yX3_settingOf, Cond.instanceMethod yX3_settingOf, Cond.selects RX3 yX3_settingOf yX3_settingOf, Cond.initialized RX3, Cond.code yX3_settingOf cX3_settingOf 2 (some .int), Cond.fieldLink RX3 9 "MusicHoles$Roll" "settings" "[I", Cond.methodLink RX2 28 yJ7_fill_53178, Cond.static yJ7_fill_53178]
def wsX4_sound_r2 : List Cond := [Cond.initialized RJ7, Cond.code yJ7_fill_53178 cJ7_fill_53178 4 none, Cond.methodLink RX2 34 yX3_size, Cond.instanceMethod yX3_size, Cond.selects RX3 yX3_size yX3_size, Cond.code yX3_size cX3_size 1 (some .int), Cond.fieldLink RX3 44 "MusicHoles$Roll" "notes" "I", Cond.methodLink RX2 38 yX3_trackOf, Cond.instanceMethod yX3_trackOf, Cond.selects RX3 yX3_trackOf yX3_trackOf, Cond.code yX3_trackOf cX3_trackOf 2 (some .int), Cond.fieldLink RX3 15 "MusicHoles$Roll" "tracks" "[I", Cond.methodLink RX3 52 yX3_has, Cond.instanceMethod yX3_has, Cond.selects RX3 yX3_has yX3_has, Cond.code yX3_has cX3_has 2 (some .boolean), Cond.methodLink RX2 41 yX3_firstOf, Cond.instanceMethod yX3_firstOf, Cond.selects RX3 yX3_firstOf yX3_firstOf, Cond.code yX3_firstOf cX3_firstOf 2 (some .int), Cond.fieldLink RX3 18 "MusicHoles$Roll" "firsts" "[I", Cond.methodLink RX2 44 yX3_lastOf, Cond.instanceMethod yX3_lastOf, Cond.selects RX3 yX3_lastOf yX3_lastOf]
def wsX4_sound_r3 : List Cond := [Cond.code yX3_lastOf cX3_lastOf 2 (some .int), Cond.fieldLink RX3 21 "MusicHoles$Roll" "lasts" "[I", Cond.methodLink RX2 47 yX3_isHole, Cond.instanceMethod yX3_isHole, Cond.selects RX3 yX3_isHole yX3_isHole, Cond.code yX3_isHole cX3_isHole 5 (some .boolean), Cond.methodLink RX3 64 yX3_firstOf, Cond.methodLink RX3 75 yX3_lastOf, Cond.methodLink RX3 90 yX3_shiftOf, Cond.instanceMethod yX3_shiftOf, Cond.selects RX3 yX3_shiftOf yX3_shiftOf, Cond.code yX3_shiftOf cX3_shiftOf 2 (some .int), Cond.fieldLink RX3 24 "MusicHoles$Roll" "shifts" "[I", Cond.methodLink RX2 51 yX2_punch, Cond.instanceMethod yX2_punch, Cond.selects RX2 yX2_punch yX2_punch, Cond.code yX2_punch cX2_punch 3 none, Cond.static yX4_isStep, Cond.code yX4_isStep cX4_isStep 1 (some .boolean), Cond.methodLink RX2 55 yX3_hasAccent, Cond.instanceMethod yX3_hasAccent, Cond.selects RX3 yX3_hasAccent yX3_hasAccent, Cond.code yX3_hasAccent cX3_hasAccent 2 (some .boolean), Cond.fieldLink RX3 27 "MusicHoles$Roll" "accents" "[Z"]
def wsX4_sound_r4 : List Cond := [Cond.methodLink RX2 59 yX2_listen, Cond.instanceMethod yX2_listen, Cond.selects RX2 yX2_listen yX2_listen, Cond.code yX2_listen cX2_listen 5 none, Cond.methodLink RX2 69 Lib.Math.max.name, Cond.static Lib.Math.max.name, Cond.initialized "java/lang/Math", Cond.code Lib.Math.max.name Lib.Math.max.code 2 (some .int), Cond.fieldLink RX2 15 "MusicHoles$Paper" "heard" "[I", Cond.methodLink RX2 75 yX2_holesAt, Cond.instanceMethod yX2_holesAt, Cond.selects RX2 yX2_holesAt yX2_holesAt, Cond.code yX2_holesAt cX2_holesAt 2 (some .int), Cond.methodLink RX4 196 yX2_soundStart, Cond.instanceMethod yX2_soundStart, Cond.selects RX2 yX2_soundStart yX2_soundStart, Cond.code yX2_soundStart cX2_soundStart 5 (some .int), Cond.methodLink RX2 95 yX2_startsSound, Cond.instanceMethod yX2_startsSound, Cond.selects RX2 yX2_startsSound yX2_startsSound, Cond.code yX2_startsSound cX2_startsSound 3 (some .boolean), Cond.methodLink RX2 92 yX2_isHeard, Cond.instanceMethod yX2_isHeard, Cond.selects RX2 yX2_isHeard yX2_isHeard]
def wsX4_sound_r5 : List Cond := [Cond.code yX2_isHeard cX2_isHeard 3 (some .boolean), Cond.methodLink RX2 78 yX2_heardAt, Cond.instanceMethod yX2_heardAt, Cond.selects RX2 yX2_heardAt yX2_heardAt, Cond.code yX2_heardAt cX2_heardAt 2 (some .int), Cond.methodLink RX4 199 yX2_soundEnd, Cond.instanceMethod yX2_soundEnd, Cond.selects RX2 yX2_soundEnd yX2_soundEnd, Cond.code yX2_soundEnd cX2_soundEnd 5 (some .int), Cond.methodLink RX4 202 yX3_touching, Cond.instanceMethod yX3_touching, Cond.selects RX3 yX3_touching yX3_touching, Cond.code yX3_touching cX3_touching 6 (some .int), Cond.methodLink RX3 68 yX3_trackOf]
def wsX4_sound : List Cond := .code yX4_sound cX4_sound 6 (some .int) :: ((wsX4_sound_r1 ++ (wsX4_sound_r2 ++ (wsX4_sound_r3 ++ (wsX4_sound_r4 ++ wsX4_sound_r5)))) ++ wsX40 ++ wsX20 ++ wsX30)
def wsX4_noneIfMissing : List Cond := .code yX4_noneIfMissing cX4_noneIfMissing 1 (some .int) :: ([])
def wsX4_allSounds_r1 : List Cond := [Cond.fieldLink RX4 22 "MusicHoles" "paper" "LMusicHoles$Paper;", Cond.methodLink RX4 264 yX2_sounds, Cond.instanceMethod yX2_sounds, Cond.selects RX2 yX2_sounds yX2_sounds, Cond.initialized RX2, Cond.code yX2_sounds cX2_sounds 4 (some .int), Cond.methodLink RX2 95 yX2_startsSound, Cond.instanceMethod yX2_startsSound, Cond.selects RX2 yX2_startsSound yX2_startsSound, Cond.code yX2_startsSound cX2_startsSound 3 (some .boolean), Cond.methodLink RX2 92 yX2_isHeard, Cond.instanceMethod yX2_isHeard, Cond.selects RX2 yX2_isHeard yX2_isHeard, Cond.code yX2_isHeard cX2_isHeard 3 (some .boolean), Cond.static yX4_isTrack, Cond.initialized RX4, Cond.code yX4_isTrack cX4_isTrack 1 (some .boolean), Cond.methodLink RX4 48 yX4_isIn, Cond.static yX4_isIn, Cond.code yX4_isIn cX4_isIn 3 (some .boolean), Cond.methodLink RX2 78 yX2_heardAt, Cond.instanceMethod yX2_heardAt, Cond.selects RX2 yX2_heardAt yX2_heardAt, Cond.code yX2_heardAt cX2_heardAt 2 (some .int)]
def wsX4_allSounds_r2 : List Cond := [Cond.fieldLink RX2 15 "MusicHoles$Paper" "heard" "[I", Cond.static yX4_isStep, Cond.code yX4_isStep cX4_isStep 1 (some .boolean)]
def wsX4_allSounds : List Cond := .code yX4_allSounds cX4_allSounds 3 (some .int) :: ((wsX4_allSounds_r1 ++ wsX4_allSounds_r2) ++ wsX40 ++ wsX20)
def wsX4_notesWithGap_r1 : List Cond := [Cond.fieldLink RX4 10 "MusicHoles" "roll" "LMusicHoles$Roll;", Cond.methodLink RX4 78 yX3_size, Cond.instanceMethod yX3_size, Cond.selects RX3 yX3_size yX3_size, Cond.initialized RX3, Cond.code yX3_size cX3_size 1 (some .int), Cond.fieldLink RX3 44 "MusicHoles$Roll" "notes" "I", Cond.methodLink RX4 178 yX4_isHeardWhole, Cond.instanceMethod yX4_isHeardWhole, Cond.selects RX4 yX4_isHeardWhole yX4_isHeardWhole, Cond.initialized RX4, Cond.code yX4_isHeardWhole cX4_isHeardWhole 3 (some .boolean), Cond.fieldLink RX4 22 "MusicHoles" "paper" "LMusicHoles$Paper;", Cond.methodLink RX4 163 yX3_firstOf, Cond.instanceMethod yX3_firstOf, Cond.selects RX3 yX3_firstOf yX3_firstOf, Cond.code yX3_firstOf cX3_firstOf 2 (some .int), Cond.fieldLink RX3 18 "MusicHoles$Roll" "firsts" "[I", Cond.methodLink RX3 52 yX3_has, Cond.instanceMethod yX3_has, Cond.selects RX3 yX3_has yX3_has, Cond.code yX3_has cX3_has 2 (some .boolean), Cond.methodLink RX4 166 yX3_lastOf, Cond.instanceMethod yX3_lastOf]
def wsX4_notesWithGap_r2 : List Cond := [Cond.selects RX3 yX3_lastOf yX3_lastOf, Cond.code yX3_lastOf cX3_lastOf 2 (some .int), Cond.fieldLink RX3 21 "MusicHoles$Roll" "lasts" "[I", Cond.methodLink RX4 160 yX3_trackOf, Cond.instanceMethod yX3_trackOf, Cond.selects RX3 yX3_trackOf yX3_trackOf, Cond.code yX3_trackOf cX3_trackOf 2 (some .int), Cond.fieldLink RX3 15 "MusicHoles$Roll" "tracks" "[I", Cond.methodLink RX4 228 yX2_isHeard, Cond.instanceMethod yX2_isHeard, Cond.selects RX2 yX2_isHeard yX2_isHeard, Cond.initialized RX2, Cond.code yX2_isHeard cX2_isHeard 3 (some .boolean), Cond.static yX4_isTrack, Cond.code yX4_isTrack cX4_isTrack 1 (some .boolean), Cond.methodLink RX4 48 yX4_isIn, Cond.static yX4_isIn, Cond.code yX4_isIn cX4_isIn 3 (some .boolean), Cond.methodLink RX2 78 yX2_heardAt, Cond.instanceMethod yX2_heardAt, Cond.selects RX2 yX2_heardAt yX2_heardAt, Cond.code yX2_heardAt cX2_heardAt 2 (some .int), Cond.fieldLink RX2 15 "MusicHoles$Paper" "heard" "[I", Cond.static yX4_isStep]
def wsX4_notesWithGap_r3 : List Cond := [Cond.code yX4_isStep cX4_isStep 1 (some .boolean)]
def wsX4_notesWithGap : List Cond := .code yX4_notesWithGap cX4_notesWithGap 3 (some .int) :: ((wsX4_notesWithGap_r1 ++ (wsX4_notesWithGap_r2 ++ wsX4_notesWithGap_r3)) ++ wsX40 ++ wsX30 ++ wsX20)
def wsX4_count_r1 : List Cond := [Cond.fieldLink RX4 22 "MusicHoles" "paper" "LMusicHoles$Paper;", Cond.fieldLink RX4 10 "MusicHoles" "roll" "LMusicHoles$Roll;", Cond.fieldLink RX4 29 "MusicHoles" "pad" "LMusicHoles$Pad;", Cond.fieldLink RX4 36 "MusicHoles" "history" "LMusicHoles$History;", Cond.methodLink RX4 175 yX2_perforate, Cond.instanceMethod yX2_perforate, Cond.selects RX2 yX2_perforate yX2_perforate, Cond.initialized RX2, Cond.code yX2_perforate cX2_perforate 6 none, Cond.fieldLink RX2 24 "MusicHoles$Paper" "weak" "I", Cond.fieldLink RX2 9 "MusicHoles$Paper" "holes" "[I", Cond.methodLink RX2 18 yX3_settingOf, Cond.instanceMethod yX3_settingOf, Cond.selects RX3 yX3_settingOf yX3_settingOf, Cond.initialized RX3, Cond.code yX3_settingOf cX3_settingOf 2 (some .int), Cond.fieldLink RX3 9 "MusicHoles$Roll" "settings" "[I", Cond.static yX4_isIn, Cond.initialized RX4, Cond.code yX4_isIn cX4_isIn 3 (some .boolean), Cond.methodLink RX2 28 yJ7_fill_53178, Cond.static yJ7_fill_53178, Cond.initialized RJ7, Cond.code yJ7_fill_53178 cJ7_fill_53178 4 none]
def wsX4_count_r2 : List Cond := [Cond.methodLink RX2 34 yX3_size, Cond.instanceMethod yX3_size, Cond.selects RX3 yX3_size yX3_size, Cond.code yX3_size cX3_size 1 (some .int), Cond.fieldLink RX3 44 "MusicHoles$Roll" "notes" "I", Cond.methodLink RX2 38 yX3_trackOf, Cond.instanceMethod yX3_trackOf, Cond.selects RX3 yX3_trackOf yX3_trackOf, Cond.code yX3_trackOf cX3_trackOf 2 (some .int), Cond.fieldLink RX3 15 "MusicHoles$Roll" "tracks" "[I", Cond.methodLink RX3 52 yX3_has, Cond.instanceMethod yX3_has, Cond.selects RX3 yX3_has yX3_has, Cond.code yX3_has cX3_has 2 (some .boolean), Cond.methodLink RX2 41 yX3_firstOf, Cond.instanceMethod yX3_firstOf, Cond.selects RX3 yX3_firstOf yX3_firstOf, Cond.code yX3_firstOf cX3_firstOf 2 (some .int), Cond.fieldLink RX3 18 "MusicHoles$Roll" "firsts" "[I", Cond.methodLink RX2 44 yX3_lastOf, Cond.instanceMethod yX3_lastOf, Cond.selects RX3 yX3_lastOf yX3_lastOf, Cond.code yX3_lastOf cX3_lastOf 2 (some .int), Cond.fieldLink RX3 21 "MusicHoles$Roll" "lasts" "[I"]
def wsX4_count_r3 : List Cond := [Cond.methodLink RX2 47 yX3_isHole, Cond.instanceMethod yX3_isHole, Cond.selects RX3 yX3_isHole yX3_isHole, Cond.code yX3_isHole cX3_isHole 5 (some .boolean), Cond.methodLink RX3 64 yX3_firstOf, Cond.methodLink RX3 75 yX3_lastOf, Cond.methodLink RX3 90 yX3_shiftOf, Cond.instanceMethod yX3_shiftOf, Cond.selects RX3 yX3_shiftOf yX3_shiftOf, Cond.code yX3_shiftOf cX3_shiftOf 2 (some .int), Cond.fieldLink RX3 24 "MusicHoles$Roll" "shifts" "[I", Cond.methodLink RX2 51 yX2_punch, Cond.instanceMethod yX2_punch, Cond.selects RX2 yX2_punch yX2_punch, Cond.code yX2_punch cX2_punch 3 none, Cond.static yX4_isTrack, Cond.code yX4_isTrack cX4_isTrack 1 (some .boolean), Cond.methodLink RX4 48 yX4_isIn, Cond.static yX4_isStep, Cond.code yX4_isStep cX4_isStep 1 (some .boolean), Cond.methodLink RX2 55 yX3_hasAccent, Cond.instanceMethod yX3_hasAccent, Cond.selects RX3 yX3_hasAccent yX3_hasAccent, Cond.code yX3_hasAccent cX3_hasAccent 2 (some .boolean)]
def wsX4_count_r4 : List Cond := [Cond.fieldLink RX3 27 "MusicHoles$Roll" "accents" "[Z", Cond.methodLink RX2 59 yX2_listen, Cond.instanceMethod yX2_listen, Cond.selects RX2 yX2_listen yX2_listen, Cond.code yX2_listen cX2_listen 5 none, Cond.methodLink RX2 69 Lib.Math.max.name, Cond.static Lib.Math.max.name, Cond.initialized "java/lang/Math", Cond.code Lib.Math.max.name Lib.Math.max.code 2 (some .int), Cond.fieldLink RX2 15 "MusicHoles$Paper" "heard" "[I", Cond.methodLink RX2 75 yX2_holesAt, Cond.instanceMethod yX2_holesAt, Cond.selects RX2 yX2_holesAt yX2_holesAt, Cond.code yX2_holesAt cX2_holesAt 2 (some .int), Cond.methodLink RX4 78 yX3_size, Cond.methodLink RX4 206 yX2_allHoles, Cond.instanceMethod yX2_allHoles, Cond.selects RX2 yX2_allHoles yX2_allHoles, Cond.code yX2_allHoles cX2_allHoles 3 (some .int), Cond.methodLink RX2 87 yJ6_bitCount_0f7a4, Cond.static yJ6_bitCount_0f7a4, Cond.initialized RJ6, Cond.code yJ6_bitCount_0f7a4 cJ6_bitCount_0f7a4 1 (some .int), Cond.constant RJ6 265 (1431655765)]
def wsX4_count_r5 : List Cond := [Cond.constant RJ6 266 (858993459), Cond.constant RJ6 267 (252645135), Cond.methodLink RX4 209 yX2_weakSteps, Cond.instanceMethod yX2_weakSteps, Cond.selects RX2 yX2_weakSteps yX2_weakSteps, Cond.code yX2_weakSteps cX2_weakSteps 3 (some .int), Cond.methodLink RX2 84 yX2_isWeak, Cond.instanceMethod yX2_isWeak, Cond.selects RX2 yX2_isWeak yX2_isWeak, Cond.code yX2_isWeak cX2_isWeak 2 (some .boolean), Cond.methodLink RX2 81 yX2_sideBySide, Cond.instanceMethod yX2_sideBySide, Cond.selects RX2 yX2_sideBySide yX2_sideBySide, Cond.code yX2_sideBySide cX2_sideBySide 6 (some .int), Cond.methodLink RX4 212 yX2_firstWeakStep, Cond.instanceMethod yX2_firstWeakStep, Cond.selects RX2 yX2_firstWeakStep yX2_firstWeakStep, Cond.code yX2_firstWeakStep cX2_firstWeakStep 2 (some .int), Cond.methodLink RX4 215 yX4_noneIfMissing, Cond.static yX4_noneIfMissing, Cond.code yX4_noneIfMissing cX4_noneIfMissing 1 (some .int), Cond.methodLink RX4 218 yX4_allSounds, Cond.instanceMethod yX4_allSounds, Cond.selects RX4 yX4_allSounds yX4_allSounds]
def wsX4_count_r6 : List Cond := [Cond.code yX4_allSounds cX4_allSounds 3 (some .int), Cond.methodLink RX4 264 yX2_sounds, Cond.instanceMethod yX2_sounds, Cond.selects RX2 yX2_sounds yX2_sounds, Cond.code yX2_sounds cX2_sounds 4 (some .int), Cond.methodLink RX2 95 yX2_startsSound, Cond.instanceMethod yX2_startsSound, Cond.selects RX2 yX2_startsSound yX2_startsSound, Cond.code yX2_startsSound cX2_startsSound 3 (some .boolean), Cond.methodLink RX2 92 yX2_isHeard, Cond.instanceMethod yX2_isHeard, Cond.selects RX2 yX2_isHeard yX2_isHeard, Cond.code yX2_isHeard cX2_isHeard 3 (some .boolean), Cond.methodLink RX2 78 yX2_heardAt, Cond.instanceMethod yX2_heardAt, Cond.selects RX2 yX2_heardAt yX2_heardAt, Cond.code yX2_heardAt cX2_heardAt 2 (some .int), Cond.methodLink RX4 221 yX4_notesWithGap, Cond.instanceMethod yX4_notesWithGap, Cond.selects RX4 yX4_notesWithGap yX4_notesWithGap, Cond.code yX4_notesWithGap cX4_notesWithGap 3 (some .int), Cond.methodLink RX4 178 yX4_isHeardWhole, Cond.instanceMethod yX4_isHeardWhole, Cond.selects RX4 yX4_isHeardWhole yX4_isHeardWhole]
def wsX4_count_r7 : List Cond := [Cond.code yX4_isHeardWhole cX4_isHeardWhole 3 (some .boolean), Cond.methodLink RX4 163 yX3_firstOf, Cond.methodLink RX4 166 yX3_lastOf, Cond.methodLink RX4 160 yX3_trackOf, Cond.methodLink RX4 228 yX2_isHeard, Cond.methodLink RX4 113 yX3_greatestLast, Cond.instanceMethod yX3_greatestLast, Cond.selects RX3 yX3_greatestLast yX3_greatestLast, Cond.code yX3_greatestLast cX3_greatestLast 3 (some .int), Cond.methodLink RX3 78 Lib.Math.max.name, Cond.methodLink RX4 59 yX3_settingOf, Cond.methodLink RX4 224 yX1_length, Cond.instanceMethod yX1_length, Cond.selects RX1 yX1_length yX1_length, Cond.initialized RX1, Cond.code yX1_length cX1_length 1 (some .int), Cond.fieldLink RX1 29 "MusicHoles$Pad" "length" "I", Cond.methodLink RX4 227 yX0_size, Cond.instanceMethod yX0_size, Cond.selects RX0 yX0_size yX0_size, Cond.initialized RX0, Cond.code yX0_size cX0_size 1 (some .int), Cond.fieldLink RX0 18 "MusicHoles$History" "size" "I"]
def wsX4_count : List Cond := .code yX4_count cX4_count 2 (some .int) :: ((wsX4_count_r1 ++ (wsX4_count_r2 ++ (wsX4_count_r3 ++ (wsX4_count_r4 ++ (wsX4_count_r5 ++ (wsX4_count_r6 ++ wsX4_count_r7)))))) ++ wsX40 ++ wsX20 ++ wsX30 ++ wsX10 ++ wsX00)
def wsX4_bestShift_r1 : List Cond := [Cond.fieldLink RX4 10 "MusicHoles" "roll" "LMusicHoles$Roll;", Cond.fieldLink RX4 16 "MusicHoles" "trial" "LMusicHoles$Roll;", Cond.fieldLink RX4 22 "MusicHoles" "paper" "LMusicHoles$Paper;", Cond.methodLink RX4 89 yX3_has, Cond.instanceMethod yX3_has, Cond.selects RX3 yX3_has yX3_has, Cond.initialized RX3, Cond.code yX3_has cX3_has 2 (some .boolean), Cond.fieldLink RX3 44 "MusicHoles$Roll" "notes" "I", Cond.methodLink RX4 48 yX4_isIn, Cond.static yX4_isIn, Cond.initialized RX4, Cond.code yX4_isIn cX4_isIn 3 (some .boolean), Cond.methodLink RX4 127 yX3_become, Cond.instanceMethod yX3_become, Cond.selects RX3 yX3_become yX3_become, Cond.code yX3_become cX3_become 3 none, Cond.fieldLink RX3 15 "MusicHoles$Roll" "tracks" "[I", Cond.fieldLink RX3 18 "MusicHoles$Roll" "firsts" "[I", Cond.fieldLink RX3 21 "MusicHoles$Roll" "lasts" "[I", Cond.fieldLink RX3 24 "MusicHoles$Roll" "shifts" "[I", Cond.fieldLink RX3 27 "MusicHoles$Roll" "accents" "[Z", Cond.methodLink RX3 40 yX3_takeSettings, Cond.instanceMethod yX3_takeSettings]
def wsX4_bestShift_r2 : List Cond := [Cond.selects RX3 yX3_takeSettings yX3_takeSettings, Cond.code yX3_takeSettings cX3_takeSettings 2 none, Cond.fieldLink RX3 9 "MusicHoles$Roll" "settings" "[I", Cond.methodLink RX3 34 arraycopyName, Cond.native arraycopyName, Cond.static arraycopyName, Cond.initialized "java/lang/System", Cond.methodLink RX4 99 yX3_giveShift, Cond.instanceMethod yX3_giveShift, Cond.selects RX3 yX3_giveShift yX3_giveShift, Cond.code yX3_giveShift cX3_giveShift 3 none, Cond.methodLink RX3 52 yX3_has, Cond.methodLink RX4 175 yX2_perforate, Cond.instanceMethod yX2_perforate, Cond.selects RX2 yX2_perforate yX2_perforate, Cond.initialized RX2, Cond.code yX2_perforate cX2_perforate 6 none, Cond.fieldLink RX2 24 "MusicHoles$Paper" "weak" "I", Cond.fieldLink RX2 9 "MusicHoles$Paper" "holes" "[I", Cond.methodLink RX2 18 yX3_settingOf, Cond.instanceMethod yX3_settingOf, Cond.selects RX3 yX3_settingOf yX3_settingOf, Cond.code yX3_settingOf cX3_settingOf 2 (some .int), Cond.methodLink RX2 28 yJ7_fill_53178]
def wsX4_bestShift_r3 : List Cond := [Cond.static yJ7_fill_53178, Cond.initialized RJ7, Cond.code yJ7_fill_53178 cJ7_fill_53178 4 none, Cond.methodLink RX2 34 yX3_size, Cond.instanceMethod yX3_size, Cond.selects RX3 yX3_size yX3_size, Cond.code yX3_size cX3_size 1 (some .int), Cond.methodLink RX2 38 yX3_trackOf, Cond.instanceMethod yX3_trackOf, Cond.selects RX3 yX3_trackOf yX3_trackOf, Cond.code yX3_trackOf cX3_trackOf 2 (some .int), Cond.methodLink RX2 41 yX3_firstOf, Cond.instanceMethod yX3_firstOf, Cond.selects RX3 yX3_firstOf yX3_firstOf, Cond.code yX3_firstOf cX3_firstOf 2 (some .int), Cond.methodLink RX2 44 yX3_lastOf, Cond.instanceMethod yX3_lastOf, Cond.selects RX3 yX3_lastOf yX3_lastOf, Cond.code yX3_lastOf cX3_lastOf 2 (some .int), Cond.methodLink RX2 47 yX3_isHole, Cond.instanceMethod yX3_isHole, Cond.selects RX3 yX3_isHole yX3_isHole, Cond.code yX3_isHole cX3_isHole 5 (some .boolean), Cond.methodLink RX3 64 yX3_firstOf]
def wsX4_bestShift_r4 : List Cond := [Cond.methodLink RX3 75 yX3_lastOf, Cond.methodLink RX3 90 yX3_shiftOf, Cond.instanceMethod yX3_shiftOf, Cond.selects RX3 yX3_shiftOf yX3_shiftOf, Cond.code yX3_shiftOf cX3_shiftOf 2 (some .int), Cond.methodLink RX2 51 yX2_punch, Cond.instanceMethod yX2_punch, Cond.selects RX2 yX2_punch yX2_punch, Cond.code yX2_punch cX2_punch 3 none, Cond.static yX4_isTrack, Cond.code yX4_isTrack cX4_isTrack 1 (some .boolean), Cond.static yX4_isStep, Cond.code yX4_isStep cX4_isStep 1 (some .boolean), Cond.methodLink RX2 55 yX3_hasAccent, Cond.instanceMethod yX3_hasAccent, Cond.selects RX3 yX3_hasAccent yX3_hasAccent, Cond.code yX3_hasAccent cX3_hasAccent 2 (some .boolean), Cond.methodLink RX2 59 yX2_listen, Cond.instanceMethod yX2_listen, Cond.selects RX2 yX2_listen yX2_listen, Cond.code yX2_listen cX2_listen 5 none, Cond.methodLink RX2 69 Lib.Math.max.name, Cond.static Lib.Math.max.name, Cond.initialized "java/lang/Math"]
def wsX4_bestShift_r5 : List Cond := [Cond.code Lib.Math.max.name Lib.Math.max.code 2 (some .int), Cond.fieldLink RX2 15 "MusicHoles$Paper" "heard" "[I", Cond.methodLink RX2 75 yX2_holesAt, Cond.instanceMethod yX2_holesAt, Cond.selects RX2 yX2_holesAt yX2_holesAt, Cond.code yX2_holesAt cX2_holesAt 2 (some .int), Cond.methodLink RX4 209 yX2_weakSteps, Cond.instanceMethod yX2_weakSteps, Cond.selects RX2 yX2_weakSteps yX2_weakSteps, Cond.code yX2_weakSteps cX2_weakSteps 3 (some .int), Cond.methodLink RX2 84 yX2_isWeak, Cond.instanceMethod yX2_isWeak, Cond.selects RX2 yX2_isWeak yX2_isWeak, Cond.code yX2_isWeak cX2_isWeak 2 (some .boolean), Cond.methodLink RX2 81 yX2_sideBySide, Cond.instanceMethod yX2_sideBySide, Cond.selects RX2 yX2_sideBySide yX2_sideBySide, Cond.code yX2_sideBySide cX2_sideBySide 6 (some .int)]
def wsX4_bestShift : List Cond := .code yX4_bestShift cX4_bestShift 7 (some .int) :: ((wsX4_bestShift_r1 ++ (wsX4_bestShift_r2 ++ (wsX4_bestShift_r3 ++ (wsX4_bestShift_r4 ++ wsX4_bestShift_r5)))) ++ wsX40 ++ wsX30 ++ wsX20)
def wsX4_greatestRun_r1 : List Cond := [Cond.fieldLink RX4 16 "MusicHoles" "trial" "LMusicHoles$Roll;", Cond.fieldLink RX4 10 "MusicHoles" "roll" "LMusicHoles$Roll;", Cond.fieldLink RX4 56 "MusicHoles" "GREATEST" "[I", Cond.fieldLink RX4 52 "MusicHoles" "LEAST" "[I", Cond.fieldLink RX4 22 "MusicHoles" "paper" "LMusicHoles$Paper;", Cond.methodLink RX4 127 yX3_become, Cond.instanceMethod yX3_become, Cond.selects RX3 yX3_become yX3_become, Cond.initialized RX3, Cond.code yX3_become cX3_become 3 none, Cond.fieldLink RX3 44 "MusicHoles$Roll" "notes" "I", Cond.fieldLink RX3 15 "MusicHoles$Roll" "tracks" "[I", Cond.fieldLink RX3 18 "MusicHoles$Roll" "firsts" "[I", Cond.fieldLink RX3 21 "MusicHoles$Roll" "lasts" "[I", Cond.fieldLink RX3 24 "MusicHoles$Roll" "shifts" "[I", Cond.fieldLink RX3 27 "MusicHoles$Roll" "accents" "[Z", Cond.methodLink RX3 40 yX3_takeSettings, Cond.instanceMethod yX3_takeSettings, Cond.selects RX3 yX3_takeSettings yX3_takeSettings, Cond.code yX3_takeSettings cX3_takeSettings 2 none, Cond.fieldLink RX3 9 "MusicHoles$Roll" "settings" "[I", Cond.methodLink RX3 34 arraycopyName, Cond.native arraycopyName, Cond.static arraycopyName]
def wsX4_greatestRun_r2 : List Cond := [Cond.initialized "java/lang/System", Cond.methodLink RX4 67 yX3_giveSetting, Cond.instanceMethod yX3_giveSetting, Cond.selects RX3 yX3_giveSetting yX3_giveSetting, Cond.code yX3_giveSetting cX3_giveSetting 3 none, Cond.static yX4_isIn, Cond.initialized RX4, Cond.code yX4_isIn cX4_isIn 3 (some .boolean), Cond.methodLink RX4 175 yX2_perforate, Cond.instanceMethod yX2_perforate, Cond.selects RX2 yX2_perforate yX2_perforate, Cond.initialized RX2, Cond.code yX2_perforate cX2_perforate 6 none, Cond.fieldLink RX2 24 "MusicHoles$Paper" "weak" "I", Cond.fieldLink RX2 9 "MusicHoles$Paper" "holes" "[I", Cond.methodLink RX2 18 yX3_settingOf, Cond.instanceMethod yX3_settingOf, Cond.selects RX3 yX3_settingOf yX3_settingOf, Cond.code yX3_settingOf cX3_settingOf 2 (some .int), Cond.methodLink RX2 28 yJ7_fill_53178, Cond.static yJ7_fill_53178, Cond.initialized RJ7, Cond.code yJ7_fill_53178 cJ7_fill_53178 4 none, Cond.methodLink RX2 34 yX3_size]
def wsX4_greatestRun_r3 : List Cond := [Cond.instanceMethod yX3_size, Cond.selects RX3 yX3_size yX3_size, Cond.code yX3_size cX3_size 1 (some .int), Cond.methodLink RX2 38 yX3_trackOf, Cond.instanceMethod yX3_trackOf, Cond.selects RX3 yX3_trackOf yX3_trackOf, Cond.code yX3_trackOf cX3_trackOf 2 (some .int), Cond.methodLink RX3 52 yX3_has, Cond.instanceMethod yX3_has, Cond.selects RX3 yX3_has yX3_has, Cond.code yX3_has cX3_has 2 (some .boolean), Cond.methodLink RX2 41 yX3_firstOf, Cond.instanceMethod yX3_firstOf, Cond.selects RX3 yX3_firstOf yX3_firstOf, Cond.code yX3_firstOf cX3_firstOf 2 (some .int), Cond.methodLink RX2 44 yX3_lastOf, Cond.instanceMethod yX3_lastOf, Cond.selects RX3 yX3_lastOf yX3_lastOf, Cond.code yX3_lastOf cX3_lastOf 2 (some .int), Cond.methodLink RX2 47 yX3_isHole, Cond.instanceMethod yX3_isHole, Cond.selects RX3 yX3_isHole yX3_isHole, Cond.code yX3_isHole cX3_isHole 5 (some .boolean), Cond.methodLink RX3 64 yX3_firstOf]
def wsX4_greatestRun_r4 : List Cond := [Cond.methodLink RX3 75 yX3_lastOf, Cond.methodLink RX3 90 yX3_shiftOf, Cond.instanceMethod yX3_shiftOf, Cond.selects RX3 yX3_shiftOf yX3_shiftOf, Cond.code yX3_shiftOf cX3_shiftOf 2 (some .int), Cond.methodLink RX2 51 yX2_punch, Cond.instanceMethod yX2_punch, Cond.selects RX2 yX2_punch yX2_punch, Cond.code yX2_punch cX2_punch 3 none, Cond.static yX4_isTrack, Cond.code yX4_isTrack cX4_isTrack 1 (some .boolean), Cond.methodLink RX4 48 yX4_isIn, Cond.static yX4_isStep, Cond.code yX4_isStep cX4_isStep 1 (some .boolean), Cond.methodLink RX2 55 yX3_hasAccent, Cond.instanceMethod yX3_hasAccent, Cond.selects RX3 yX3_hasAccent yX3_hasAccent, Cond.code yX3_hasAccent cX3_hasAccent 2 (some .boolean), Cond.methodLink RX2 59 yX2_listen, Cond.instanceMethod yX2_listen, Cond.selects RX2 yX2_listen yX2_listen, Cond.code yX2_listen cX2_listen 5 none, Cond.methodLink RX2 69 Lib.Math.max.name, Cond.static Lib.Math.max.name]
def wsX4_greatestRun_r5 : List Cond := [Cond.initialized "java/lang/Math", Cond.code Lib.Math.max.name Lib.Math.max.code 2 (some .int), Cond.fieldLink RX2 15 "MusicHoles$Paper" "heard" "[I", Cond.methodLink RX2 75 yX2_holesAt, Cond.instanceMethod yX2_holesAt, Cond.selects RX2 yX2_holesAt yX2_holesAt, Cond.code yX2_holesAt cX2_holesAt 2 (some .int), Cond.methodLink RX4 209 yX2_weakSteps, Cond.instanceMethod yX2_weakSteps, Cond.selects RX2 yX2_weakSteps yX2_weakSteps, Cond.code yX2_weakSteps cX2_weakSteps 3 (some .int), Cond.methodLink RX2 84 yX2_isWeak, Cond.instanceMethod yX2_isWeak, Cond.selects RX2 yX2_isWeak yX2_isWeak, Cond.code yX2_isWeak cX2_isWeak 2 (some .boolean), Cond.methodLink RX2 81 yX2_sideBySide, Cond.instanceMethod yX2_sideBySide, Cond.selects RX2 yX2_sideBySide yX2_sideBySide, Cond.code yX2_sideBySide cX2_sideBySide 6 (some .int)]
def wsX4_greatestRun : List Cond := .code yX4_greatestRun cX4_greatestRun 2 (some .int) :: ((wsX4_greatestRun_r1 ++ (wsX4_greatestRun_r2 ++ (wsX4_greatestRun_r3 ++ (wsX4_greatestRun_r4 ++ wsX4_greatestRun_r5)))) ++ wsX40 ++ wsX30 ++ wsX20)
def wsX4_swallowed_r1 : List Cond := [Cond.fieldLink RX4 22 "MusicHoles" "paper" "LMusicHoles$Paper;", Cond.fieldLink RX4 10 "MusicHoles" "roll" "LMusicHoles$Roll;", Cond.methodLink RX4 71 yX4_isTrack, Cond.static yX4_isTrack, Cond.initialized RX4, Cond.code yX4_isTrack cX4_isTrack 1 (some .boolean), Cond.methodLink RX4 48 yX4_isIn, Cond.static yX4_isIn, Cond.code yX4_isIn cX4_isIn 3 (some .boolean), Cond.methodLink RX4 175 yX2_perforate, Cond.instanceMethod yX2_perforate, Cond.selects RX2 yX2_perforate yX2_perforate, Cond.initialized RX2, Cond.code yX2_perforate cX2_perforate 6 none, Cond.fieldLink RX2 24 "MusicHoles$Paper" "weak" "I", Cond.fieldLink RX2 9 "MusicHoles$Paper" "holes" "[I", Cond.methodLink RX2 18 yX3_settingOf, Cond.instanceMethod yX3_settingOf, Cond.selects RX3 yX3_settingOf yX3_settingOf, Cond.initialized RX3, Cond.code yX3_settingOf cX3_settingOf 2 (some .int), Cond.fieldLink RX3 9 "MusicHoles$Roll" "settings" "[I", Cond.methodLink RX2 28 yJ7_fill_53178, Cond.static yJ7_fill_53178]
def wsX4_swallowed_r2 : List Cond := [Cond.initialized RJ7, Cond.code yJ7_fill_53178 cJ7_fill_53178 4 none, Cond.methodLink RX2 34 yX3_size, Cond.instanceMethod yX3_size, Cond.selects RX3 yX3_size yX3_size, Cond.code yX3_size cX3_size 1 (some .int), Cond.fieldLink RX3 44 "MusicHoles$Roll" "notes" "I", Cond.methodLink RX2 38 yX3_trackOf, Cond.instanceMethod yX3_trackOf, Cond.selects RX3 yX3_trackOf yX3_trackOf, Cond.code yX3_trackOf cX3_trackOf 2 (some .int), Cond.fieldLink RX3 15 "MusicHoles$Roll" "tracks" "[I", Cond.methodLink RX3 52 yX3_has, Cond.instanceMethod yX3_has, Cond.selects RX3 yX3_has yX3_has, Cond.code yX3_has cX3_has 2 (some .boolean), Cond.methodLink RX2 41 yX3_firstOf, Cond.instanceMethod yX3_firstOf, Cond.selects RX3 yX3_firstOf yX3_firstOf, Cond.code yX3_firstOf cX3_firstOf 2 (some .int), Cond.fieldLink RX3 18 "MusicHoles$Roll" "firsts" "[I", Cond.methodLink RX2 44 yX3_lastOf, Cond.instanceMethod yX3_lastOf, Cond.selects RX3 yX3_lastOf yX3_lastOf]
def wsX4_swallowed_r3 : List Cond := [Cond.code yX3_lastOf cX3_lastOf 2 (some .int), Cond.fieldLink RX3 21 "MusicHoles$Roll" "lasts" "[I", Cond.methodLink RX2 47 yX3_isHole, Cond.instanceMethod yX3_isHole, Cond.selects RX3 yX3_isHole yX3_isHole, Cond.code yX3_isHole cX3_isHole 5 (some .boolean), Cond.methodLink RX3 64 yX3_firstOf, Cond.methodLink RX3 75 yX3_lastOf, Cond.methodLink RX3 90 yX3_shiftOf, Cond.instanceMethod yX3_shiftOf, Cond.selects RX3 yX3_shiftOf yX3_shiftOf, Cond.code yX3_shiftOf cX3_shiftOf 2 (some .int), Cond.fieldLink RX3 24 "MusicHoles$Roll" "shifts" "[I", Cond.methodLink RX2 51 yX2_punch, Cond.instanceMethod yX2_punch, Cond.selects RX2 yX2_punch yX2_punch, Cond.code yX2_punch cX2_punch 3 none, Cond.static yX4_isStep, Cond.code yX4_isStep cX4_isStep 1 (some .boolean), Cond.methodLink RX2 55 yX3_hasAccent, Cond.instanceMethod yX3_hasAccent, Cond.selects RX3 yX3_hasAccent yX3_hasAccent, Cond.code yX3_hasAccent cX3_hasAccent 2 (some .boolean), Cond.fieldLink RX3 27 "MusicHoles$Roll" "accents" "[Z"]
def wsX4_swallowed_r4 : List Cond := [Cond.methodLink RX2 59 yX2_listen, Cond.instanceMethod yX2_listen, Cond.selects RX2 yX2_listen yX2_listen, Cond.code yX2_listen cX2_listen 5 none, Cond.methodLink RX2 69 Lib.Math.max.name, Cond.static Lib.Math.max.name, Cond.initialized "java/lang/Math", Cond.code Lib.Math.max.name Lib.Math.max.code 2 (some .int), Cond.fieldLink RX2 15 "MusicHoles$Paper" "heard" "[I", Cond.methodLink RX2 75 yX2_holesAt, Cond.instanceMethod yX2_holesAt, Cond.selects RX2 yX2_holesAt yX2_holesAt, Cond.code yX2_holesAt cX2_holesAt 2 (some .int), Cond.methodLink RX4 78 yX3_size, Cond.methodLink RX4 160 yX3_trackOf, Cond.methodLink RX4 163 yX3_firstOf, Cond.methodLink RX4 228 yX2_isHeard, Cond.instanceMethod yX2_isHeard, Cond.selects RX2 yX2_isHeard yX2_isHeard, Cond.code yX2_isHeard cX2_isHeard 3 (some .boolean), Cond.methodLink RX2 78 yX2_heardAt, Cond.instanceMethod yX2_heardAt, Cond.selects RX2 yX2_heardAt yX2_heardAt, Cond.code yX2_heardAt cX2_heardAt 2 (some .int)]
def wsX4_swallowed : List Cond := .code yX4_swallowed cX4_swallowed 4 (some .int) :: ((wsX4_swallowed_r1 ++ (wsX4_swallowed_r2 ++ (wsX4_swallowed_r3 ++ wsX4_swallowed_r4))) ++ wsX40 ++ wsX20 ++ wsX30)
def wsJ9_max_7cf53 : List Cond := .code yJ9_max_7cf53 cJ9_max_7cf53 2 (some .int) :: ([])
def wsJ9_min_7cf53 : List Cond := .code yJ9_min_7cf53 cJ9_min_7cf53 2 (some .int) :: ([])
def wsL_cell : List Cond := .code yL_cell cL_cell 2 (some .int) :: ([.constant RL 7 (920236517), .constant RL 8 (793545339)])
def wsL_low : List Cond := .code yL_low cL_low 2 (some .int) :: ([.constant RL 9 (2147483647)])
def wsL_hole : List Cond := .code yL_hole cL_hole 7 (some .boolean) :: ([])
def wsL_holes : List Cond := .code yL_holes cL_holes 6 none :: ([.methodLink RL 10 yL_hole, .static yL_hole, .initialized RL, .code yL_hole cL_hole 7 (some .boolean)])
def wsL_side : List Cond := .code yL_side cL_side 3 (some .int) :: ([])
def wsL_heard : List Cond := .code yL_heard cL_heard 5 (some .int) :: ([])
def wsL_weak : List Cond := .code yL_weak cL_weak 5 (some .int) :: ([.methodLink RL 16 yL_holes, .static yL_holes, .initialized RL, .code yL_holes cL_holes 6 none, .methodLink RL 10 yL_hole, .static yL_hole, .code yL_hole cL_hole 7 (some .boolean), .methodLink RL 20 yL_side, .static yL_side, .code yL_side cL_side 3 (some .int)])
def wsL_taken : List Cond := .code yL_taken cL_taken 6 (some .boolean) :: ([])
def wsL_sort : List Cond := .code yL_sort cL_sort 6 none :: ([])
def wsL_add : List Cond := .code yL_add cL_add 8 none :: ([])
def wsL_same_r1 : List Cond := [Cond.methodLink RL 24 yL_weak, Cond.static yL_weak, Cond.initialized RL, Cond.code yL_weak cL_weak 5 (some .int), Cond.methodLink RL 16 yL_holes, Cond.static yL_holes, Cond.code yL_holes cL_holes 6 none, Cond.methodLink RL 10 yL_hole, Cond.static yL_hole, Cond.code yL_hole cL_hole 7 (some .boolean), Cond.methodLink RL 20 yL_side, Cond.static yL_side, Cond.code yL_side cL_side 3 (some .int), Cond.methodLink RL 28 yL_heard, Cond.static yL_heard, Cond.code yL_heard cL_heard 5 (some .int), Cond.methodLink RL 32 yX4_at, Cond.instanceMethod yX4_at, Cond.selects RX4 yX4_at yX4_at, Cond.initialized RX4, Cond.code yX4_at cX4_at 3 (some .int), Cond.fieldLink RX4 22 "MusicHoles" "paper" "LMusicHoles$Paper;", Cond.fieldLink RX4 10 "MusicHoles" "roll" "LMusicHoles$Roll;", Cond.methodLink RX4 75 yX4_isStep]
def wsL_same_r2 : List Cond := [Cond.static yX4_isStep, Cond.code yX4_isStep cX4_isStep 1 (some .boolean), Cond.methodLink RX4 48 yX4_isIn, Cond.static yX4_isIn, Cond.code yX4_isIn cX4_isIn 3 (some .boolean), Cond.methodLink RX4 175 yX2_perforate, Cond.instanceMethod yX2_perforate, Cond.selects RX2 yX2_perforate yX2_perforate, Cond.initialized RX2, Cond.code yX2_perforate cX2_perforate 6 none, Cond.fieldLink RX2 24 "MusicHoles$Paper" "weak" "I", Cond.fieldLink RX2 9 "MusicHoles$Paper" "holes" "[I", Cond.methodLink RX2 18 yX3_settingOf, Cond.instanceMethod yX3_settingOf, Cond.selects RX3 yX3_settingOf yX3_settingOf, Cond.initialized RX3, Cond.code yX3_settingOf cX3_settingOf 2 (some .int), Cond.fieldLink RX3 9 "MusicHoles$Roll" "settings" "[I", Cond.methodLink RX2 28 yJ7_fill_53178, Cond.static yJ7_fill_53178, Cond.initialized RJ7, Cond.code yJ7_fill_53178 cJ7_fill_53178 4 none, Cond.methodLink RX2 34 yX3_size, Cond.instanceMethod yX3_size]
def wsL_same_r3 : List Cond := [Cond.selects RX3 yX3_size yX3_size, Cond.code yX3_size cX3_size 1 (some .int), Cond.fieldLink RX3 44 "MusicHoles$Roll" "notes" "I", Cond.methodLink RX2 38 yX3_trackOf, Cond.instanceMethod yX3_trackOf, Cond.selects RX3 yX3_trackOf yX3_trackOf, Cond.code yX3_trackOf cX3_trackOf 2 (some .int), Cond.fieldLink RX3 15 "MusicHoles$Roll" "tracks" "[I", Cond.methodLink RX3 52 yX3_has, Cond.instanceMethod yX3_has, Cond.selects RX3 yX3_has yX3_has, Cond.code yX3_has cX3_has 2 (some .boolean), Cond.methodLink RX2 41 yX3_firstOf, Cond.instanceMethod yX3_firstOf, Cond.selects RX3 yX3_firstOf yX3_firstOf, Cond.code yX3_firstOf cX3_firstOf 2 (some .int), Cond.fieldLink RX3 18 "MusicHoles$Roll" "firsts" "[I", Cond.methodLink RX2 44 yX3_lastOf, Cond.instanceMethod yX3_lastOf, Cond.selects RX3 yX3_lastOf yX3_lastOf, Cond.code yX3_lastOf cX3_lastOf 2 (some .int), Cond.fieldLink RX3 21 "MusicHoles$Roll" "lasts" "[I", Cond.methodLink RX2 47 yX3_isHole, Cond.instanceMethod yX3_isHole]
def wsL_same_r4 : List Cond := [Cond.selects RX3 yX3_isHole yX3_isHole, Cond.code yX3_isHole cX3_isHole 5 (some .boolean), Cond.methodLink RX3 64 yX3_firstOf, Cond.methodLink RX3 75 yX3_lastOf, Cond.methodLink RX3 90 yX3_shiftOf, Cond.instanceMethod yX3_shiftOf, Cond.selects RX3 yX3_shiftOf yX3_shiftOf, Cond.code yX3_shiftOf cX3_shiftOf 2 (some .int), Cond.fieldLink RX3 24 "MusicHoles$Roll" "shifts" "[I", Cond.methodLink RX2 51 yX2_punch, Cond.instanceMethod yX2_punch, Cond.selects RX2 yX2_punch yX2_punch, Cond.code yX2_punch cX2_punch 3 none, Cond.static yX4_isTrack, Cond.code yX4_isTrack cX4_isTrack 1 (some .boolean), Cond.methodLink RX2 55 yX3_hasAccent, Cond.instanceMethod yX3_hasAccent, Cond.selects RX3 yX3_hasAccent yX3_hasAccent, Cond.code yX3_hasAccent cX3_hasAccent 2 (some .boolean), Cond.fieldLink RX3 27 "MusicHoles$Roll" "accents" "[Z", Cond.methodLink RX2 59 yX2_listen, Cond.instanceMethod yX2_listen, Cond.selects RX2 yX2_listen yX2_listen, Cond.code yX2_listen cX2_listen 5 none]
def wsL_same_r5 : List Cond := [Cond.methodLink RX2 69 Lib.Math.max.name, Cond.static Lib.Math.max.name, Cond.initialized "java/lang/Math", Cond.code Lib.Math.max.name Lib.Math.max.code 2 (some .int), Cond.fieldLink RX2 15 "MusicHoles$Paper" "heard" "[I", Cond.methodLink RX2 75 yX2_holesAt, Cond.instanceMethod yX2_holesAt, Cond.selects RX2 yX2_holesAt yX2_holesAt, Cond.code yX2_holesAt cX2_holesAt 2 (some .int), Cond.methodLink RX4 181 yX2_holesAt, Cond.methodLink RX4 184 yX2_heardAt, Cond.instanceMethod yX2_heardAt, Cond.selects RX2 yX2_heardAt yX2_heardAt, Cond.code yX2_heardAt cX2_heardAt 2 (some .int), Cond.methodLink RX4 187 yX3_tracksAt, Cond.instanceMethod yX3_tracksAt, Cond.selects RX3 yX3_tracksAt yX3_tracksAt, Cond.code yX3_tracksAt cX3_tracksAt 4 (some .int), Cond.methodLink RX3 68 yX3_trackOf, Cond.methodLink RX4 190 yX2_sideBySide, Cond.instanceMethod yX2_sideBySide, Cond.selects RX2 yX2_sideBySide yX2_sideBySide, Cond.code yX2_sideBySide cX2_sideBySide 6 (some .int), Cond.methodLink RX4 193 yX2_isWeak]
def wsL_same_r6 : List Cond := [Cond.instanceMethod yX2_isWeak, Cond.selects RX2 yX2_isWeak yX2_isWeak, Cond.code yX2_isWeak cX2_isWeak 2 (some .boolean), Cond.methodLink RX2 81 yX2_sideBySide, Cond.methodLink RX4 109 yX4_asNumber, Cond.static yX4_asNumber, Cond.code yX4_asNumber cX4_asNumber 1 (some .int), Cond.methodLink RL 38 yX4_of, Cond.instanceMethod yX4_of, Cond.selects RX4 yX4_of yX4_of, Cond.code yX4_of cX4_of 3 (some .int), Cond.methodLink RX4 89 yX3_has, Cond.methodLink RX4 160 yX3_trackOf, Cond.methodLink RX4 163 yX3_firstOf, Cond.methodLink RX4 166 yX3_lastOf, Cond.methodLink RX4 96 yX3_shiftOf, Cond.methodLink RX4 102 yX3_hasAccent, Cond.methodLink RX4 169 yX3_bridges, Cond.instanceMethod yX3_bridges, Cond.selects RX3 yX3_bridges yX3_bridges, Cond.code yX3_bridges cX3_bridges 4 (some .int), Cond.methodLink RX3 103 yX3_isHole, Cond.methodLink RX4 172 yX3_longestBridge, Cond.instanceMethod yX3_longestBridge]
def wsL_same_r7 : List Cond := [Cond.selects RX3 yX3_longestBridge yX3_longestBridge, Cond.code yX3_longestBridge cX3_longestBridge 5 (some .int), Cond.methodLink RX3 78 Lib.Math.max.name, Cond.methodLink RX4 178 yX4_isHeardWhole, Cond.instanceMethod yX4_isHeardWhole, Cond.selects RX4 yX4_isHeardWhole yX4_isHeardWhole, Cond.code yX4_isHeardWhole cX4_isHeardWhole 3 (some .boolean), Cond.methodLink RX4 228 yX2_isHeard, Cond.instanceMethod yX2_isHeard, Cond.selects RX2 yX2_isHeard yX2_isHeard, Cond.code yX2_isHeard cX2_isHeard 3 (some .boolean), Cond.methodLink RX2 78 yX2_heardAt, Cond.methodLink RL 41 yL_low, Cond.static yL_low, Cond.code yL_low cL_low 2 (some .int), Cond.constant RL 9 (2147483647), Cond.methodLink RL 44 yX4_sound, Cond.instanceMethod yX4_sound, Cond.selects RX4 yX4_sound yX4_sound, Cond.code yX4_sound cX4_sound 6 (some .int), Cond.methodLink RX4 71 yX4_isTrack, Cond.methodLink RX4 196 yX2_soundStart, Cond.instanceMethod yX2_soundStart, Cond.selects RX2 yX2_soundStart yX2_soundStart]
def wsL_same_r8 : List Cond := [Cond.code yX2_soundStart cX2_soundStart 5 (some .int), Cond.methodLink RX2 95 yX2_startsSound, Cond.instanceMethod yX2_startsSound, Cond.selects RX2 yX2_startsSound yX2_startsSound, Cond.code yX2_startsSound cX2_startsSound 3 (some .boolean), Cond.methodLink RX2 92 yX2_isHeard, Cond.methodLink RX4 199 yX2_soundEnd, Cond.instanceMethod yX2_soundEnd, Cond.selects RX2 yX2_soundEnd yX2_soundEnd, Cond.code yX2_soundEnd cX2_soundEnd 5 (some .int), Cond.methodLink RX4 202 yX3_touching, Cond.instanceMethod yX3_touching, Cond.selects RX3 yX3_touching yX3_touching, Cond.code yX3_touching cX3_touching 6 (some .int), Cond.methodLink RL 48 yX4_swallowed, Cond.instanceMethod yX4_swallowed, Cond.selects RX4 yX4_swallowed yX4_swallowed, Cond.code yX4_swallowed cX4_swallowed 4 (some .int), Cond.methodLink RX4 78 yX3_size, Cond.methodLink RL 51 yX4_count, Cond.instanceMethod yX4_count, Cond.selects RX4 yX4_count yX4_count, Cond.code yX4_count cX4_count 2 (some .int), Cond.fieldLink RX4 29 "MusicHoles" "pad" "LMusicHoles$Pad;"]
def wsL_same_r9 : List Cond := [Cond.fieldLink RX4 36 "MusicHoles" "history" "LMusicHoles$History;", Cond.methodLink RX4 206 yX2_allHoles, Cond.instanceMethod yX2_allHoles, Cond.selects RX2 yX2_allHoles yX2_allHoles, Cond.code yX2_allHoles cX2_allHoles 3 (some .int), Cond.methodLink RX2 87 yJ6_bitCount_0f7a4, Cond.static yJ6_bitCount_0f7a4, Cond.initialized RJ6, Cond.code yJ6_bitCount_0f7a4 cJ6_bitCount_0f7a4 1 (some .int), Cond.constant RJ6 265 (1431655765), Cond.constant RJ6 266 (858993459), Cond.constant RJ6 267 (252645135), Cond.methodLink RX4 209 yX2_weakSteps, Cond.instanceMethod yX2_weakSteps, Cond.selects RX2 yX2_weakSteps yX2_weakSteps, Cond.code yX2_weakSteps cX2_weakSteps 3 (some .int), Cond.methodLink RX2 84 yX2_isWeak, Cond.methodLink RX4 212 yX2_firstWeakStep, Cond.instanceMethod yX2_firstWeakStep, Cond.selects RX2 yX2_firstWeakStep yX2_firstWeakStep, Cond.code yX2_firstWeakStep cX2_firstWeakStep 2 (some .int), Cond.methodLink RX4 215 yX4_noneIfMissing, Cond.static yX4_noneIfMissing, Cond.code yX4_noneIfMissing cX4_noneIfMissing 1 (some .int)]
def wsL_same_r10 : List Cond := [Cond.methodLink RX4 218 yX4_allSounds, Cond.instanceMethod yX4_allSounds, Cond.selects RX4 yX4_allSounds yX4_allSounds, Cond.code yX4_allSounds cX4_allSounds 3 (some .int), Cond.methodLink RX4 264 yX2_sounds, Cond.instanceMethod yX2_sounds, Cond.selects RX2 yX2_sounds yX2_sounds, Cond.code yX2_sounds cX2_sounds 4 (some .int), Cond.methodLink RX4 221 yX4_notesWithGap, Cond.instanceMethod yX4_notesWithGap, Cond.selects RX4 yX4_notesWithGap yX4_notesWithGap, Cond.code yX4_notesWithGap cX4_notesWithGap 3 (some .int), Cond.methodLink RX4 113 yX3_greatestLast, Cond.instanceMethod yX3_greatestLast, Cond.selects RX3 yX3_greatestLast yX3_greatestLast, Cond.code yX3_greatestLast cX3_greatestLast 3 (some .int), Cond.methodLink RX4 59 yX3_settingOf, Cond.methodLink RX4 224 yX1_length, Cond.instanceMethod yX1_length, Cond.selects RX1 yX1_length yX1_length, Cond.initialized RX1, Cond.code yX1_length cX1_length 1 (some .int), Cond.fieldLink RX1 29 "MusicHoles$Pad" "length" "I", Cond.methodLink RX4 227 yX0_size]
def wsL_same_r11 : List Cond := [Cond.instanceMethod yX0_size, Cond.selects RX0 yX0_size yX0_size, Cond.initialized RX0, Cond.code yX0_size cX0_size 1 (some .int), Cond.fieldLink RX0 18 "MusicHoles$History" "size" "I"]
def wsL_same : List Cond := .code yL_same cL_same 20 (some .boolean) :: ((wsL_same_r1 ++ (wsL_same_r2 ++ (wsL_same_r3 ++ (wsL_same_r4 ++ (wsL_same_r5 ++ (wsL_same_r6 ++ (wsL_same_r7 ++ (wsL_same_r8 ++ (wsL_same_r9 ++ (wsL_same_r10 ++ wsL_same_r11)))))))))) ++ wsX40 ++ wsX20 ++ wsX30 ++ wsX10 ++ wsX00)
def wsL_would_r1 : List Cond := [Cond.methodLink RL 24 yL_weak, Cond.static yL_weak, Cond.initialized RL, Cond.code yL_weak cL_weak 5 (some .int), Cond.methodLink RL 16 yL_holes, Cond.static yL_holes, Cond.code yL_holes cL_holes 6 none, Cond.methodLink RL 10 yL_hole, Cond.static yL_hole, Cond.code yL_hole cL_hole 7 (some .boolean), Cond.methodLink RL 20 yL_side, Cond.static yL_side, Cond.code yL_side cL_side 3 (some .int), Cond.methodLink RL 54 yX4_greatestRun, Cond.instanceMethod yX4_greatestRun, Cond.selects RX4 yX4_greatestRun yX4_greatestRun, Cond.initialized RX4, Cond.code yX4_greatestRun cX4_greatestRun 2 (some .int), Cond.fieldLink RX4 16 "MusicHoles" "trial" "LMusicHoles$Roll;", Cond.fieldLink RX4 10 "MusicHoles" "roll" "LMusicHoles$Roll;", Cond.fieldLink RX4 56 "MusicHoles" "GREATEST" "[I", Cond.fieldLink RX4 52 "MusicHoles" "LEAST" "[I", Cond.fieldLink RX4 22 "MusicHoles" "paper" "LMusicHoles$Paper;", Cond.methodLink RX4 127 yX3_become]
def wsL_would_r2 : List Cond := [Cond.instanceMethod yX3_become, Cond.selects RX3 yX3_become yX3_become, Cond.initialized RX3, Cond.code yX3_become cX3_become 3 none, Cond.fieldLink RX3 44 "MusicHoles$Roll" "notes" "I", Cond.fieldLink RX3 15 "MusicHoles$Roll" "tracks" "[I", Cond.fieldLink RX3 18 "MusicHoles$Roll" "firsts" "[I", Cond.fieldLink RX3 21 "MusicHoles$Roll" "lasts" "[I", Cond.fieldLink RX3 24 "MusicHoles$Roll" "shifts" "[I", Cond.fieldLink RX3 27 "MusicHoles$Roll" "accents" "[Z", Cond.methodLink RX3 40 yX3_takeSettings, Cond.instanceMethod yX3_takeSettings, Cond.selects RX3 yX3_takeSettings yX3_takeSettings, Cond.code yX3_takeSettings cX3_takeSettings 2 none, Cond.fieldLink RX3 9 "MusicHoles$Roll" "settings" "[I", Cond.methodLink RX3 34 arraycopyName, Cond.native arraycopyName, Cond.static arraycopyName, Cond.initialized "java/lang/System", Cond.methodLink RX4 67 yX3_giveSetting, Cond.instanceMethod yX3_giveSetting, Cond.selects RX3 yX3_giveSetting yX3_giveSetting, Cond.code yX3_giveSetting cX3_giveSetting 3 none, Cond.static yX4_isIn]
def wsL_would_r3 : List Cond := [Cond.code yX4_isIn cX4_isIn 3 (some .boolean), Cond.methodLink RX4 175 yX2_perforate, Cond.instanceMethod yX2_perforate, Cond.selects RX2 yX2_perforate yX2_perforate, Cond.initialized RX2, Cond.code yX2_perforate cX2_perforate 6 none, Cond.fieldLink RX2 24 "MusicHoles$Paper" "weak" "I", Cond.fieldLink RX2 9 "MusicHoles$Paper" "holes" "[I", Cond.methodLink RX2 18 yX3_settingOf, Cond.instanceMethod yX3_settingOf, Cond.selects RX3 yX3_settingOf yX3_settingOf, Cond.code yX3_settingOf cX3_settingOf 2 (some .int), Cond.methodLink RX2 28 yJ7_fill_53178, Cond.static yJ7_fill_53178, Cond.initialized RJ7, Cond.code yJ7_fill_53178 cJ7_fill_53178 4 none, Cond.methodLink RX2 34 yX3_size, Cond.instanceMethod yX3_size, Cond.selects RX3 yX3_size yX3_size, Cond.code yX3_size cX3_size 1 (some .int), Cond.methodLink RX2 38 yX3_trackOf, Cond.instanceMethod yX3_trackOf, Cond.selects RX3 yX3_trackOf yX3_trackOf, Cond.code yX3_trackOf cX3_trackOf 2 (some .int)]
def wsL_would_r4 : List Cond := [Cond.methodLink RX3 52 yX3_has, Cond.instanceMethod yX3_has, Cond.selects RX3 yX3_has yX3_has, Cond.code yX3_has cX3_has 2 (some .boolean), Cond.methodLink RX2 41 yX3_firstOf, Cond.instanceMethod yX3_firstOf, Cond.selects RX3 yX3_firstOf yX3_firstOf, Cond.code yX3_firstOf cX3_firstOf 2 (some .int), Cond.methodLink RX2 44 yX3_lastOf, Cond.instanceMethod yX3_lastOf, Cond.selects RX3 yX3_lastOf yX3_lastOf, Cond.code yX3_lastOf cX3_lastOf 2 (some .int), Cond.methodLink RX2 47 yX3_isHole, Cond.instanceMethod yX3_isHole, Cond.selects RX3 yX3_isHole yX3_isHole, Cond.code yX3_isHole cX3_isHole 5 (some .boolean), Cond.methodLink RX3 64 yX3_firstOf, Cond.methodLink RX3 75 yX3_lastOf, Cond.methodLink RX3 90 yX3_shiftOf, Cond.instanceMethod yX3_shiftOf, Cond.selects RX3 yX3_shiftOf yX3_shiftOf, Cond.code yX3_shiftOf cX3_shiftOf 2 (some .int), Cond.methodLink RX2 51 yX2_punch, Cond.instanceMethod yX2_punch]
def wsL_would_r5 : List Cond := [Cond.selects RX2 yX2_punch yX2_punch, Cond.code yX2_punch cX2_punch 3 none, Cond.static yX4_isTrack, Cond.code yX4_isTrack cX4_isTrack 1 (some .boolean), Cond.methodLink RX4 48 yX4_isIn, Cond.static yX4_isStep, Cond.code yX4_isStep cX4_isStep 1 (some .boolean), Cond.methodLink RX2 55 yX3_hasAccent, Cond.instanceMethod yX3_hasAccent, Cond.selects RX3 yX3_hasAccent yX3_hasAccent, Cond.code yX3_hasAccent cX3_hasAccent 2 (some .boolean), Cond.methodLink RX2 59 yX2_listen, Cond.instanceMethod yX2_listen, Cond.selects RX2 yX2_listen yX2_listen, Cond.code yX2_listen cX2_listen 5 none, Cond.methodLink RX2 69 Lib.Math.max.name, Cond.static Lib.Math.max.name, Cond.initialized "java/lang/Math", Cond.code Lib.Math.max.name Lib.Math.max.code 2 (some .int), Cond.fieldLink RX2 15 "MusicHoles$Paper" "heard" "[I", Cond.methodLink RX2 75 yX2_holesAt, Cond.instanceMethod yX2_holesAt, Cond.selects RX2 yX2_holesAt yX2_holesAt, Cond.code yX2_holesAt cX2_holesAt 2 (some .int)]
def wsL_would_r6 : List Cond := [Cond.methodLink RX4 209 yX2_weakSteps, Cond.instanceMethod yX2_weakSteps, Cond.selects RX2 yX2_weakSteps yX2_weakSteps, Cond.code yX2_weakSteps cX2_weakSteps 3 (some .int), Cond.methodLink RX2 84 yX2_isWeak, Cond.instanceMethod yX2_isWeak, Cond.selects RX2 yX2_isWeak yX2_isWeak, Cond.code yX2_isWeak cX2_isWeak 2 (some .boolean), Cond.methodLink RX2 81 yX2_sideBySide, Cond.instanceMethod yX2_sideBySide, Cond.selects RX2 yX2_sideBySide yX2_sideBySide, Cond.code yX2_sideBySide cX2_sideBySide 6 (some .int), Cond.methodLink RL 41 yL_low, Cond.static yL_low, Cond.code yL_low cL_low 2 (some .int), Cond.constant RL 9 (2147483647), Cond.methodLink RL 58 yX4_bestShift, Cond.instanceMethod yX4_bestShift, Cond.selects RX4 yX4_bestShift yX4_bestShift, Cond.code yX4_bestShift cX4_bestShift 7 (some .int), Cond.methodLink RX4 89 yX3_has, Cond.methodLink RX4 99 yX3_giveShift, Cond.instanceMethod yX3_giveShift, Cond.selects RX3 yX3_giveShift yX3_giveShift]
def wsL_would_r7 : List Cond := [Cond.code yX3_giveShift cX3_giveShift 3 none]
def wsL_would : List Cond := .code yL_would cL_would 13 (some .boolean) :: ((wsL_would_r1 ++ (wsL_would_r2 ++ (wsL_would_r3 ++ (wsL_would_r4 ++ (wsL_would_r5 ++ (wsL_would_r6 ++ wsL_would_r7)))))) ++ wsX40 ++ wsX30 ++ wsX20)
def wsL_law_r1 : List Cond := [Cond.classLink RL 33 RX4, Cond.instantiable RX4 7, Cond.initialized RX4, Cond.arrayClass .int, Cond.methodLink RL 61 yX4_init, Cond.instanceMethod yX4_init, Cond.code yX4_init cX4_init 2 none, Cond.methodLink RX4 1 objectInit, Cond.instanceMethod objectInit, Cond.code objectInit ⟨#[0xb1]⟩ 1 none, Cond.classLink RX4 7 RX3, Cond.instantiable RX3 7, Cond.initialized RX3, Cond.fieldLink RX4 10 "MusicHoles" "roll" "LMusicHoles$Roll;", Cond.fieldLink RX4 16 "MusicHoles" "trial" "LMusicHoles$Roll;", Cond.classLink RX4 19 RX2, Cond.instantiable RX2 3, Cond.initialized RX2, Cond.fieldLink RX4 22 "MusicHoles" "paper" "LMusicHoles$Paper;", Cond.classLink RX4 26 RX1, Cond.instantiable RX1 8, Cond.initialized RX1, Cond.fieldLink RX4 29 "MusicHoles" "pad" "LMusicHoles$Pad;", Cond.classLink RX4 33 RX0]
def wsL_law_r2 : List Cond := [Cond.instantiable RX0 3, Cond.initialized RX0, Cond.fieldLink RX4 36 "MusicHoles" "history" "LMusicHoles$History;", Cond.fieldLink RX4 40 "MusicHoles" "slots" "[LMusicHoles$Roll;", Cond.arrayClass .boolean, Cond.fieldLink RX4 44 "MusicHoles" "saved" "[Z", Cond.methodLink RX4 9 yX3_init, Cond.instanceMethod yX3_init, Cond.code yX3_init cX3_init 1 none, Cond.methodLink RX3 3 objectInit, Cond.fieldLink RX3 9 "MusicHoles$Roll" "settings" "[I", Cond.fieldLink RX3 15 "MusicHoles$Roll" "tracks" "[I", Cond.fieldLink RX3 18 "MusicHoles$Roll" "firsts" "[I", Cond.fieldLink RX3 21 "MusicHoles$Roll" "lasts" "[I", Cond.fieldLink RX3 24 "MusicHoles$Roll" "shifts" "[I", Cond.fieldLink RX3 27 "MusicHoles$Roll" "accents" "[Z", Cond.methodLink RX3 34 arraycopyName, Cond.native arraycopyName, Cond.static arraycopyName, Cond.initialized "java/lang/System", Cond.instanceMethod yX2_init, Cond.code yX2_init cX2_init 1 none, Cond.methodLink RX2 3 objectInit, Cond.fieldLink RX2 9 "MusicHoles$Paper" "holes" "[I"]
def wsL_law_r3 : List Cond := [Cond.fieldLink RX2 15 "MusicHoles$Paper" "heard" "[I", Cond.instanceMethod yX1_init, Cond.code yX1_init cX1_init 1 none, Cond.methodLink RX1 5 objectInit, Cond.arrayClass .char, Cond.fieldLink RX1 11 "MusicHoles$Pad" "text" "[C", Cond.fieldLink RX1 15 "MusicHoles$Pad" "tracks" "[I", Cond.fieldLink RX1 19 "MusicHoles$Pad" "firsts" "[I", Cond.fieldLink RX1 22 "MusicHoles$Pad" "lasts" "[I", Cond.fieldLink RX1 25 "MusicHoles$Pad" "accents" "[Z", Cond.methodLink RX4 35 yX0_init, Cond.instanceMethod yX0_init, Cond.code yX0_init cX0_init 2 none, Cond.methodLink RX0 3 objectInit, Cond.classLink RX0 9 RX3, Cond.fieldLink RX0 11 "MusicHoles$History" "states" "[LMusicHoles$Roll;", Cond.methodLink RX0 17 yX3_init, Cond.methodLink RL 62 yL_cell, Cond.static yL_cell, Cond.initialized RL, Cond.code yL_cell cL_cell 2 (some .int), Cond.constant RL 7 (920236517), Cond.constant RL 8 (793545339), Cond.methodLink RL 41 yL_low]
def wsL_law_r4 : List Cond := [Cond.static yL_low, Cond.code yL_low cL_low 2 (some .int), Cond.constant RL 9 (2147483647), Cond.methodLink RL 66 yL_taken, Cond.static yL_taken, Cond.code yL_taken cL_taken 6 (some .boolean), Cond.methodLink RL 70 yX4_note, Cond.instanceMethod yX4_note, Cond.selects RX4 yX4_note yX4_note, Cond.code yX4_note cX4_note 4 (some .int), Cond.methodLink RX4 71 yX4_isTrack, Cond.static yX4_isTrack, Cond.code yX4_isTrack cX4_isTrack 1 (some .boolean), Cond.methodLink RX4 48 yX4_isIn, Cond.static yX4_isIn, Cond.code yX4_isIn cX4_isIn 3 (some .boolean), Cond.methodLink RX4 75 yX4_isStep, Cond.static yX4_isStep, Cond.code yX4_isStep cX4_isStep 1 (some .boolean), Cond.methodLink RX4 78 yX3_size, Cond.instanceMethod yX3_size, Cond.selects RX3 yX3_size yX3_size, Cond.code yX3_size cX3_size 1 (some .int), Cond.fieldLink RX3 44 "MusicHoles$Roll" "notes" "I"]
def wsL_law_r5 : List Cond := [Cond.methodLink RX4 82 yX3_isTaken, Cond.instanceMethod yX3_isTaken, Cond.selects RX3 yX3_isTaken yX3_isTaken, Cond.code yX3_isTaken cX3_isTaken 4 (some .boolean), Cond.methodLink RX3 71 yX3_touching, Cond.instanceMethod yX3_touching, Cond.selects RX3 yX3_touching yX3_touching, Cond.code yX3_touching cX3_touching 6 (some .int), Cond.methodLink RX3 68 yX3_trackOf, Cond.instanceMethod yX3_trackOf, Cond.selects RX3 yX3_trackOf yX3_trackOf, Cond.code yX3_trackOf cX3_trackOf 2 (some .int), Cond.methodLink RX3 52 yX3_has, Cond.instanceMethod yX3_has, Cond.selects RX3 yX3_has yX3_has, Cond.code yX3_has cX3_has 2 (some .boolean), Cond.methodLink RX3 64 yX3_firstOf, Cond.instanceMethod yX3_firstOf, Cond.selects RX3 yX3_firstOf yX3_firstOf, Cond.code yX3_firstOf cX3_firstOf 2 (some .int), Cond.methodLink RX3 75 yX3_lastOf, Cond.instanceMethod yX3_lastOf, Cond.selects RX3 yX3_lastOf yX3_lastOf, Cond.code yX3_lastOf cX3_lastOf 2 (some .int)]
def wsL_law_r6 : List Cond := [Cond.methodLink RX4 63 yX0_record, Cond.instanceMethod yX0_record, Cond.selects RX0 yX0_record yX0_record, Cond.code yX0_record cX0_record 2 none, Cond.fieldLink RX0 18 "MusicHoles$History" "size" "I", Cond.fieldLink RX0 30 "MusicHoles$History" "oldest" "I", Cond.methodLink RX0 22 yX0_placeOf, Cond.instanceMethod yX0_placeOf, Cond.selects RX0 yX0_placeOf yX0_placeOf, Cond.code yX0_placeOf cX0_placeOf 2 (some .int), Cond.methodLink RX0 33 yJ9_floorMod_7cf53, Cond.static yJ9_floorMod_7cf53, Cond.initialized RJ9, Cond.code yJ9_floorMod_7cf53 cJ9_floorMod_7cf53 3 (some .int), Cond.methodLink RX0 26 yX3_become, Cond.instanceMethod yX3_become, Cond.selects RX3 yX3_become yX3_become, Cond.code yX3_become cX3_become 3 none, Cond.methodLink RX3 40 yX3_takeSettings, Cond.instanceMethod yX3_takeSettings, Cond.selects RX3 yX3_takeSettings yX3_takeSettings, Cond.code yX3_takeSettings cX3_takeSettings 2 none, Cond.methodLink RX4 85 yX3_add, Cond.instanceMethod yX3_add]
def wsL_law_r7 : List Cond := [Cond.selects RX3 yX3_add yX3_add, Cond.code yX3_add cX3_add 8 (some .int), Cond.methodLink RX3 56 yX3_placeFor, Cond.instanceMethod yX3_placeFor, Cond.selects RX3 yX3_placeFor yX3_placeFor, Cond.code yX3_placeFor cX3_placeFor 5 (some .int), Cond.methodLink RX3 60 yX3_move, Cond.instanceMethod yX3_move, Cond.selects RX3 yX3_move yX3_move, Cond.code yX3_move cX3_move 3 none, Cond.methodLink RL 73 yL_add, Cond.static yL_add, Cond.code yL_add cL_add 8 none, Cond.methodLink RL 77 yL_sort, Cond.static yL_sort, Cond.code yL_sort cL_sort 6 none, Cond.methodLink RL 81 yX4_drop, Cond.instanceMethod yX4_drop, Cond.selects RX4 yX4_drop yX4_drop, Cond.code yX4_drop cX4_drop 2 (some .int), Cond.methodLink RX4 89 yX3_has, Cond.methodLink RX4 92 yX3_remove, Cond.instanceMethod yX3_remove, Cond.selects RX3 yX3_remove yX3_remove]
def wsL_law_r8 : List Cond := [Cond.code yX3_remove cX3_remove 3 none, Cond.methodLink RL 84 yX4_shift, Cond.instanceMethod yX4_shift, Cond.selects RX4 yX4_shift yX4_shift, Cond.code yX4_shift cX4_shift 4 (some .int), Cond.methodLink RX4 96 yX3_shiftOf, Cond.instanceMethod yX3_shiftOf, Cond.selects RX3 yX3_shiftOf yX3_shiftOf, Cond.code yX3_shiftOf cX3_shiftOf 2 (some .int), Cond.methodLink RX4 99 yX3_giveShift, Cond.instanceMethod yX3_giveShift, Cond.selects RX3 yX3_giveShift yX3_giveShift, Cond.code yX3_giveShift cX3_giveShift 3 none, Cond.methodLink RL 87 yX4_accent, Cond.instanceMethod yX4_accent, Cond.selects RX4 yX4_accent yX4_accent, Cond.code yX4_accent cX4_accent 4 (some .int), Cond.methodLink RX4 102 yX3_hasAccent, Cond.instanceMethod yX3_hasAccent, Cond.selects RX3 yX3_hasAccent yX3_hasAccent, Cond.code yX3_hasAccent cX3_hasAccent 2 (some .boolean), Cond.methodLink RX4 105 yX3_giveAccent, Cond.instanceMethod yX3_giveAccent, Cond.selects RX3 yX3_giveAccent yX3_giveAccent]
def wsL_law_r9 : List Cond := [Cond.code yX3_giveAccent cX3_giveAccent 3 none, Cond.methodLink RX4 109 yX4_asNumber, Cond.static yX4_asNumber, Cond.code yX4_asNumber cX4_asNumber 1 (some .int), Cond.methodLink RL 91 yX4_insert, Cond.instanceMethod yX4_insert, Cond.selects RX4 yX4_insert yX4_insert, Cond.code yX4_insert cX4_insert 4 (some .int), Cond.methodLink RX4 113 yX3_greatestLast, Cond.instanceMethod yX3_greatestLast, Cond.selects RX3 yX3_greatestLast yX3_greatestLast, Cond.code yX3_greatestLast cX3_greatestLast 3 (some .int), Cond.methodLink RX3 78 Lib.Math.max.name, Cond.static Lib.Math.max.name, Cond.initialized "java/lang/Math", Cond.code Lib.Math.max.name Lib.Math.max.code 2 (some .int), Cond.methodLink RX4 116 yX3_lengthen, Cond.instanceMethod yX3_lengthen, Cond.selects RX3 yX3_lengthen yX3_lengthen, Cond.code yX3_lengthen cX3_lengthen 5 (some .int), Cond.methodLink RL 94 yX4_cut, Cond.instanceMethod yX4_cut, Cond.selects RX4 yX4_cut yX4_cut, Cond.code yX4_cut cX4_cut 4 (some .int)]
def wsL_law_r10 : List Cond := [Cond.methodLink RX4 120 yX3_takeSettings, Cond.methodLink RX4 123 yX3_takeCut, Cond.instanceMethod yX3_takeCut, Cond.selects RX3 yX3_takeCut yX3_takeCut, Cond.code yX3_takeCut cX3_takeCut 10 none, Cond.methodLink RX3 87 Lib.Math.min.name, Cond.static Lib.Math.min.name, Cond.code Lib.Math.min.name Lib.Math.min.code 2 (some .int), Cond.methodLink RX3 83 yX3_size, Cond.methodLink RX3 90 yX3_shiftOf, Cond.methodLink RX3 93 yX3_hasAccent, Cond.methodLink RX3 96 yX3_add, Cond.methodLink RX4 127 yX3_become, Cond.methodLink RL 97 yX4_copy, Cond.instanceMethod yX4_copy, Cond.selects RX4 yX4_copy yX4_copy, Cond.code yX4_copy cX4_copy 5 (some .int), Cond.methodLink RX4 130 yX4_isPassage, Cond.static yX4_isPassage, Cond.code yX4_isPassage cX4_isPassage 2 (some .boolean), Cond.methodLink RX4 134 yX3_within, Cond.instanceMethod yX3_within, Cond.selects RX3 yX3_within yX3_within, Cond.code yX3_within cX3_within 5 (some .int)]
def wsL_law_r11 : List Cond := [Cond.methodLink RX3 100 yX3_liesWithin, Cond.instanceMethod yX3_liesWithin, Cond.selects RX3 yX3_liesWithin yX3_liesWithin, Cond.code yX3_liesWithin cX3_liesWithin 4 (some .boolean), Cond.methodLink RX4 137 yX4_isFreeAt, Cond.instanceMethod yX4_isFreeAt, Cond.selects RX4 yX4_isFreeAt yX4_isFreeAt, Cond.code yX4_isFreeAt cX4_isFreeAt 7 (some .boolean), Cond.methodLink RX4 249 yX3_liesWithin, Cond.methodLink RX4 163 yX3_firstOf, Cond.methodLink RX4 166 yX3_lastOf, Cond.methodLink RX4 160 yX3_trackOf, Cond.methodLink RX4 140 yX3_addPassage, Cond.instanceMethod yX3_addPassage, Cond.selects RX3 yX3_addPassage yX3_addPassage, Cond.code yX3_addPassage cX3_addPassage 8 none, Cond.methodLink RL 100 yX4_set, Cond.instanceMethod yX4_set, Cond.selects RX4 yX4_set yX4_set, Cond.code yX4_set cX4_set 4 (some .int), Cond.fieldLink RX4 52 "MusicHoles" "LEAST" "[I", Cond.fieldLink RX4 56 "MusicHoles" "GREATEST" "[I", Cond.methodLink RX4 59 yX3_settingOf, Cond.instanceMethod yX3_settingOf]
def wsL_law_r12 : List Cond := [Cond.selects RX3 yX3_settingOf yX3_settingOf, Cond.code yX3_settingOf cX3_settingOf 2 (some .int), Cond.methodLink RX4 67 yX3_giveSetting, Cond.instanceMethod yX3_giveSetting, Cond.selects RX3 yX3_giveSetting yX3_giveSetting, Cond.code yX3_giveSetting cX3_giveSetting 3 none, Cond.methodLink RL 103 yL_same, Cond.static yL_same, Cond.code yL_same cL_same 20 (some .boolean), Cond.methodLink RL 24 yL_weak, Cond.static yL_weak, Cond.code yL_weak cL_weak 5 (some .int), Cond.methodLink RL 16 yL_holes, Cond.static yL_holes, Cond.code yL_holes cL_holes 6 none, Cond.methodLink RL 10 yL_hole, Cond.static yL_hole, Cond.code yL_hole cL_hole 7 (some .boolean), Cond.methodLink RL 20 yL_side, Cond.static yL_side, Cond.code yL_side cL_side 3 (some .int), Cond.methodLink RL 28 yL_heard, Cond.static yL_heard, Cond.code yL_heard cL_heard 5 (some .int)]
def wsL_law_r13 : List Cond := [Cond.methodLink RL 32 yX4_at, Cond.instanceMethod yX4_at, Cond.selects RX4 yX4_at yX4_at, Cond.code yX4_at cX4_at 3 (some .int), Cond.methodLink RX4 175 yX2_perforate, Cond.instanceMethod yX2_perforate, Cond.selects RX2 yX2_perforate yX2_perforate, Cond.code yX2_perforate cX2_perforate 6 none, Cond.fieldLink RX2 24 "MusicHoles$Paper" "weak" "I", Cond.methodLink RX2 18 yX3_settingOf, Cond.methodLink RX2 28 yJ7_fill_53178, Cond.static yJ7_fill_53178, Cond.initialized RJ7, Cond.code yJ7_fill_53178 cJ7_fill_53178 4 none, Cond.methodLink RX2 34 yX3_size, Cond.methodLink RX2 38 yX3_trackOf, Cond.methodLink RX2 41 yX3_firstOf, Cond.methodLink RX2 44 yX3_lastOf, Cond.methodLink RX2 47 yX3_isHole, Cond.instanceMethod yX3_isHole, Cond.selects RX3 yX3_isHole yX3_isHole, Cond.code yX3_isHole cX3_isHole 5 (some .boolean), Cond.methodLink RX2 51 yX2_punch, Cond.instanceMethod yX2_punch]
def wsL_law_r14 : List Cond := [Cond.selects RX2 yX2_punch yX2_punch, Cond.code yX2_punch cX2_punch 3 none, Cond.methodLink RX2 55 yX3_hasAccent, Cond.methodLink RX2 59 yX2_listen, Cond.instanceMethod yX2_listen, Cond.selects RX2 yX2_listen yX2_listen, Cond.code yX2_listen cX2_listen 5 none, Cond.methodLink RX2 69 Lib.Math.max.name, Cond.methodLink RX2 75 yX2_holesAt, Cond.instanceMethod yX2_holesAt, Cond.selects RX2 yX2_holesAt yX2_holesAt, Cond.code yX2_holesAt cX2_holesAt 2 (some .int), Cond.methodLink RX4 181 yX2_holesAt, Cond.methodLink RX4 184 yX2_heardAt, Cond.instanceMethod yX2_heardAt, Cond.selects RX2 yX2_heardAt yX2_heardAt, Cond.code yX2_heardAt cX2_heardAt 2 (some .int), Cond.methodLink RX4 187 yX3_tracksAt, Cond.instanceMethod yX3_tracksAt, Cond.selects RX3 yX3_tracksAt yX3_tracksAt, Cond.code yX3_tracksAt cX3_tracksAt 4 (some .int), Cond.methodLink RX4 190 yX2_sideBySide, Cond.instanceMethod yX2_sideBySide, Cond.selects RX2 yX2_sideBySide yX2_sideBySide]
def wsL_law_r15 : List Cond := [Cond.code yX2_sideBySide cX2_sideBySide 6 (some .int), Cond.methodLink RX4 193 yX2_isWeak, Cond.instanceMethod yX2_isWeak, Cond.selects RX2 yX2_isWeak yX2_isWeak, Cond.code yX2_isWeak cX2_isWeak 2 (some .boolean), Cond.methodLink RX2 81 yX2_sideBySide, Cond.methodLink RL 38 yX4_of, Cond.instanceMethod yX4_of, Cond.selects RX4 yX4_of yX4_of, Cond.code yX4_of cX4_of 3 (some .int), Cond.methodLink RX4 169 yX3_bridges, Cond.instanceMethod yX3_bridges, Cond.selects RX3 yX3_bridges yX3_bridges, Cond.code yX3_bridges cX3_bridges 4 (some .int), Cond.methodLink RX3 103 yX3_isHole, Cond.methodLink RX4 172 yX3_longestBridge, Cond.instanceMethod yX3_longestBridge, Cond.selects RX3 yX3_longestBridge yX3_longestBridge, Cond.code yX3_longestBridge cX3_longestBridge 5 (some .int), Cond.methodLink RX4 178 yX4_isHeardWhole, Cond.instanceMethod yX4_isHeardWhole, Cond.selects RX4 yX4_isHeardWhole yX4_isHeardWhole, Cond.code yX4_isHeardWhole cX4_isHeardWhole 3 (some .boolean), Cond.methodLink RX4 228 yX2_isHeard]
def wsL_law_r16 : List Cond := [Cond.instanceMethod yX2_isHeard, Cond.selects RX2 yX2_isHeard yX2_isHeard, Cond.code yX2_isHeard cX2_isHeard 3 (some .boolean), Cond.methodLink RX2 78 yX2_heardAt, Cond.methodLink RL 44 yX4_sound, Cond.instanceMethod yX4_sound, Cond.selects RX4 yX4_sound yX4_sound, Cond.code yX4_sound cX4_sound 6 (some .int), Cond.methodLink RX4 196 yX2_soundStart, Cond.instanceMethod yX2_soundStart, Cond.selects RX2 yX2_soundStart yX2_soundStart, Cond.code yX2_soundStart cX2_soundStart 5 (some .int), Cond.methodLink RX2 95 yX2_startsSound, Cond.instanceMethod yX2_startsSound, Cond.selects RX2 yX2_startsSound yX2_startsSound, Cond.code yX2_startsSound cX2_startsSound 3 (some .boolean), Cond.methodLink RX2 92 yX2_isHeard, Cond.methodLink RX4 199 yX2_soundEnd, Cond.instanceMethod yX2_soundEnd, Cond.selects RX2 yX2_soundEnd yX2_soundEnd, Cond.code yX2_soundEnd cX2_soundEnd 5 (some .int), Cond.methodLink RX4 202 yX3_touching, Cond.methodLink RL 48 yX4_swallowed, Cond.instanceMethod yX4_swallowed]
def wsL_law_r17 : List Cond := [Cond.selects RX4 yX4_swallowed yX4_swallowed, Cond.code yX4_swallowed cX4_swallowed 4 (some .int), Cond.methodLink RL 51 yX4_count, Cond.instanceMethod yX4_count, Cond.selects RX4 yX4_count yX4_count, Cond.code yX4_count cX4_count 2 (some .int), Cond.methodLink RX4 206 yX2_allHoles, Cond.instanceMethod yX2_allHoles, Cond.selects RX2 yX2_allHoles yX2_allHoles, Cond.code yX2_allHoles cX2_allHoles 3 (some .int), Cond.methodLink RX2 87 yJ6_bitCount_0f7a4, Cond.static yJ6_bitCount_0f7a4, Cond.initialized RJ6, Cond.code yJ6_bitCount_0f7a4 cJ6_bitCount_0f7a4 1 (some .int), Cond.constant RJ6 265 (1431655765), Cond.constant RJ6 266 (858993459), Cond.constant RJ6 267 (252645135), Cond.methodLink RX4 209 yX2_weakSteps, Cond.instanceMethod yX2_weakSteps, Cond.selects RX2 yX2_weakSteps yX2_weakSteps, Cond.code yX2_weakSteps cX2_weakSteps 3 (some .int), Cond.methodLink RX2 84 yX2_isWeak, Cond.methodLink RX4 212 yX2_firstWeakStep, Cond.instanceMethod yX2_firstWeakStep]
def wsL_law_r18 : List Cond := [Cond.selects RX2 yX2_firstWeakStep yX2_firstWeakStep, Cond.code yX2_firstWeakStep cX2_firstWeakStep 2 (some .int), Cond.methodLink RX4 215 yX4_noneIfMissing, Cond.static yX4_noneIfMissing, Cond.code yX4_noneIfMissing cX4_noneIfMissing 1 (some .int), Cond.methodLink RX4 218 yX4_allSounds, Cond.instanceMethod yX4_allSounds, Cond.selects RX4 yX4_allSounds yX4_allSounds, Cond.code yX4_allSounds cX4_allSounds 3 (some .int), Cond.methodLink RX4 264 yX2_sounds, Cond.instanceMethod yX2_sounds, Cond.selects RX2 yX2_sounds yX2_sounds, Cond.code yX2_sounds cX2_sounds 4 (some .int), Cond.methodLink RX4 221 yX4_notesWithGap, Cond.instanceMethod yX4_notesWithGap, Cond.selects RX4 yX4_notesWithGap yX4_notesWithGap, Cond.code yX4_notesWithGap cX4_notesWithGap 3 (some .int), Cond.methodLink RX4 224 yX1_length, Cond.instanceMethod yX1_length, Cond.selects RX1 yX1_length yX1_length, Cond.code yX1_length cX1_length 1 (some .int), Cond.fieldLink RX1 29 "MusicHoles$Pad" "length" "I", Cond.methodLink RX4 227 yX0_size, Cond.instanceMethod yX0_size]
def wsL_law_r19 : List Cond := [Cond.selects RX0 yX0_size yX0_size, Cond.code yX0_size cX0_size 1 (some .int), Cond.methodLink RL 107 yL_would, Cond.static yL_would, Cond.code yL_would cL_would 13 (some .boolean), Cond.methodLink RL 54 yX4_greatestRun, Cond.instanceMethod yX4_greatestRun, Cond.selects RX4 yX4_greatestRun yX4_greatestRun, Cond.code yX4_greatestRun cX4_greatestRun 2 (some .int), Cond.methodLink RL 58 yX4_bestShift, Cond.instanceMethod yX4_bestShift, Cond.selects RX4 yX4_bestShift yX4_bestShift, Cond.code yX4_bestShift cX4_bestShift 7 (some .int)]
def wsL_law : List Cond := (wsL_law_r1 ++ (wsL_law_r2 ++ (wsL_law_r3 ++ (wsL_law_r4 ++ (wsL_law_r5 ++ (wsL_law_r6 ++ (wsL_law_r7 ++ (wsL_law_r8 ++ (wsL_law_r9 ++ (wsL_law_r10 ++ (wsL_law_r11 ++ (wsL_law_r12 ++ (wsL_law_r13 ++ (wsL_law_r14 ++ (wsL_law_r15 ++ (wsL_law_r16 ++ (wsL_law_r17 ++ (wsL_law_r18 ++ wsL_law_r19)))))))))))))))))) ++ wsX40 ++ wsX30 ++ wsX20 ++ wsX10 ++ wsX00 ++ ([] : List Cond)
end
section
theorem jin_places {big ws : List Cond} (ps : List Nat) (hp : ws = ps.filterMap (fun i => big[i]?)) : ∀ w ∈ ws, w ∈ big := by
  intro w h
  rw [hp] at h
  obtain ⟨i, -, hi⟩ := List.mem_filterMap.mp h
  exact List.mem_of_getElem? hi
set_option maxRecDepth 20000 in
theorem jin_wsL_law_r1 : ∀ w ∈ wsL_law_r1, w ∈ lw_tbl := jin_places [20, 21, 11, 61, 22, 23, 24, 25, 26, 27, 28, 29, 12, 128, 129, 63, 64, 14, 130, 79, 80, 15, 131, 109] (by decide +kernel)
set_option maxRecDepth 20000 in
theorem jin_wsL_law_r2 : ∀ w ∈ wsL_law_r2, w ∈ lw_tbl := jin_places [110, 16, 132, 133, 62, 134, 30, 31, 32, 33, 39, 40, 41, 42, 43, 44, 36, 38, 37, 13, 66, 67, 68, 69] (by decide +kernel)
set_option maxRecDepth 20000 in
theorem jin_wsL_law_r3 : ∀ w ∈ wsL_law_r3, w ∈ lw_tbl := jin_places [70, 82, 83, 84, 108, 85, 87, 88, 89, 90, 111, 112, 113, 114, 115, 118, 117, 334, 335, 10, 336, 337, 338, 339] (by decide +kernel)
set_option maxRecDepth 20000 in
theorem jin_wsL_law_r4 : ∀ w ∈ wsL_law_r4, w ∈ lw_tbl := jin_places [340, 341, 342, 343, 344, 345, 189, 190, 191, 192, 193, 194, 195, 154, 155, 156, 196, 197, 198, 199, 200, 201, 202, 45] (by decide +kernel)
set_option maxRecDepth 20000 in
theorem jin_wsL_law_r5 : ∀ w ∈ wsL_law_r5, w ∈ lw_tbl := jin_places [203, 204, 205, 206, 207, 208, 209, 210, 211, 212, 213, 214, 215, 216, 217, 218, 219, 220, 221, 222, 223, 224, 225, 226] (by decide +kernel)
set_option maxRecDepth 20000 in
theorem jin_wsL_law_r6 : ∀ w ∈ wsL_law_r6, w ∈ lw_tbl := jin_places [166, 167, 168, 169, 120, 119, 170, 172, 0, 173, 174, 175, 17, 176, 177, 178, 179, 180, 181, 182, 183, 184, 227, 228] (by decide +kernel)
end
section
set_option maxRecDepth 20000 in
theorem jin_wsL_law_r7 : ∀ w ∈ wsL_law_r7, w ∈ lw_tbl := jin_places [229, 230, 231, 233, 1, 234, 235, 237, 2, 238, 349, 350, 351, 346, 347, 348, 239, 240, 241, 242, 243, 244, 245, 246] (by decide +kernel)
set_option maxRecDepth 20000 in
theorem jin_wsL_law_r8 : ∀ w ∈ wsL_law_r8, w ∈ lw_tbl := jin_places [247, 248, 249, 250, 251, 252, 253, 254, 255, 256, 257, 258, 259, 260, 261, 262, 263, 264, 265, 266, 267, 268, 269, 270] (by decide +kernel)
set_option maxRecDepth 20000 in
theorem jin_wsL_law_r9 : ∀ w ∈ wsL_law_r9, w ∈ lw_tbl := jin_places [271, 272, 273, 274, 275, 276, 277, 278, 279, 280, 281, 282, 283, 284, 17, 285, 286, 287, 288, 289, 290, 291, 292, 293] (by decide +kernel)
set_option maxRecDepth 20000 in
theorem jin_wsL_law_r10 : ∀ w ∈ wsL_law_r10, w ∈ lw_tbl := jin_places [294, 295, 296, 297, 298, 300, 301, 302, 299, 303, 304, 305, 306, 307, 308, 309, 310, 311, 312, 313, 314, 315, 316, 317] (by decide +kernel)
set_option maxRecDepth 20000 in
theorem jin_wsL_law_r11 : ∀ w ∈ wsL_law_r11, w ∈ lw_tbl := jin_places [318, 319, 320, 321, 322, 324, 3, 325, 326, 327, 328, 329, 330, 331, 332, 333, 150, 151, 152, 153, 157, 159, 161, 162] (by decide +kernel)
set_option maxRecDepth 20000 in
theorem jin_wsL_law_r12 : ∀ w ∈ wsL_law_r12, w ∈ lw_tbl := jin_places [163, 164, 185, 186, 187, 188, 352, 353, 354, 355, 356, 357, 358, 359, 360, 361, 362, 363, 364, 365, 366, 367, 368, 369] (by decide +kernel)
end
section
set_option maxRecDepth 20000 in
theorem jin_wsL_law_r13 : ∀ w ∈ wsL_law_r13, w ∈ lw_tbl := jin_places [370, 371, 372, 373, 374, 375, 376, 377, 71, 378, 379, 380, 18, 381, 382, 383, 384, 385, 386, 387, 388, 389, 390, 392] (by decide +kernel)
set_option maxRecDepth 20000 in
theorem jin_wsL_law_r14 : ∀ w ∈ wsL_law_r14, w ∈ lw_tbl := jin_places [4, 393, 396, 397, 399, 5, 400, 401, 402, 403, 404, 405, 406, 407, 408, 409, 410, 411, 412, 413, 414, 415, 416, 417] (by decide +kernel)
set_option maxRecDepth 20000 in
theorem jin_wsL_law_r15 : ∀ w ∈ wsL_law_r15, w ∈ lw_tbl := jin_places [418, 419, 420, 421, 422, 423, 424, 425, 426, 427, 428, 429, 430, 431, 432, 433, 434, 435, 436, 437, 439, 6, 440, 441] (by decide +kernel)
set_option maxRecDepth 20000 in
theorem jin_wsL_law_r16 : ∀ w ∈ wsL_law_r16, w ∈ lw_tbl := jin_places [442, 443, 444, 445, 446, 447, 448, 449, 450, 451, 452, 453, 454, 456, 7, 457, 458, 459, 460, 461, 462, 463, 464, 465] (by decide +kernel)
set_option maxRecDepth 20000 in
theorem jin_wsL_law_r17 : ∀ w ∈ wsL_law_r17, w ∈ lw_tbl := jin_places [466, 467, 468, 469, 470, 471, 472, 473, 474, 475, 476, 477, 19, 478, 479, 480, 481, 482, 483, 484, 485, 486, 487, 488] (by decide +kernel)
set_option maxRecDepth 20000 in
theorem jin_wsL_law_r18 : ∀ w ∈ wsL_law_r18, w ∈ lw_tbl := jin_places [489, 490, 491, 492, 493, 494, 496, 8, 497, 498, 499, 500, 501, 502, 504, 9, 505, 506, 507, 508, 509, 86, 510, 511] (by decide +kernel)
end
section
set_option maxRecDepth 20000 in
theorem jin_wsL_law_r19 : ∀ w ∈ wsL_law_r19, w ∈ lw_tbl := jin_places [512, 513, 514, 515, 516, 517, 518, 519, 520, 521, 522, 523, 524] (by decide +kernel)
set_option maxRecDepth 20000 in
theorem jin_wsX00 : ∀ w ∈ wsX00, w ∈ lw_tbl := jin_places [121, 123, 125] (by decide +kernel)
set_option maxRecDepth 20000 in
theorem jin_wsX10 : ∀ w ∈ wsX10, w ∈ lw_tbl := jin_places [91, 93, 95, 97, 99, 101, 103, 105] (by decide +kernel)
set_option maxRecDepth 20000 in
theorem jin_wsX20 : ∀ w ∈ wsX20, w ∈ lw_tbl := jin_places [72, 74, 76] (by decide +kernel)
set_option maxRecDepth 20000 in
theorem jin_wsX30 : ∀ w ∈ wsX30, w ∈ lw_tbl := jin_places [46, 48, 50, 52, 54, 56, 58] (by decide +kernel)
set_option maxRecDepth 20000 in
theorem jin_wsX40 : ∀ w ∈ wsX40, w ∈ lw_tbl := jin_places [135, 137, 139, 141, 143, 145, 147] (by decide +kernel)
end
section
theorem jin_app {big a b : List Cond} (ha : ∀ w ∈ a, w ∈ big) (hb : ∀ w ∈ b, w ∈ big) : ∀ w ∈ a ++ b, w ∈ big := fun w h => (List.mem_append.mp h).elim (ha w) (hb w)
theorem wsL_law_in : ∀ w ∈ wsL_law, w ∈ lw_tbl := (jin_app (jin_app (jin_app (jin_app (jin_app (jin_app (jin_app jin_wsL_law_r1 (jin_app jin_wsL_law_r2 (jin_app jin_wsL_law_r3 (jin_app jin_wsL_law_r4 (jin_app jin_wsL_law_r5 (jin_app jin_wsL_law_r6 (jin_app jin_wsL_law_r7 (jin_app jin_wsL_law_r8 (jin_app jin_wsL_law_r9 (jin_app jin_wsL_law_r10 (jin_app jin_wsL_law_r11 (jin_app jin_wsL_law_r12 (jin_app jin_wsL_law_r13 (jin_app jin_wsL_law_r14 (jin_app jin_wsL_law_r15 (jin_app jin_wsL_law_r16 (jin_app jin_wsL_law_r17 (jin_app jin_wsL_law_r18 jin_wsL_law_r19)))))))))))))))))) jin_wsX40) jin_wsX30) jin_wsX20) jin_wsX10) jin_wsX00) (fun _ h => absurd h List.not_mem_nil))
theorem inlX0 : ∀ w ∈ wsX00, w ∈ wsL_law := fun _ h => List.mem_append_left _ (List.mem_append_right _ h)
theorem inX0 : ∀ w ∈ wsX00, w ∈ lw_tbl := fun w h => wsL_law_in w (inlX0 w h)
theorem inlX1 : ∀ w ∈ wsX10, w ∈ wsL_law := fun _ h => List.mem_append_left _ (List.mem_append_left _ (List.mem_append_right _ h))
theorem inX1 : ∀ w ∈ wsX10, w ∈ lw_tbl := fun w h => wsL_law_in w (inlX1 w h)
theorem inlX2 : ∀ w ∈ wsX20, w ∈ wsL_law := fun _ h => List.mem_append_left _ (List.mem_append_left _ (List.mem_append_left _ (List.mem_append_right _ h)))
theorem inX2 : ∀ w ∈ wsX20, w ∈ lw_tbl := fun w h => wsL_law_in w (inlX2 w h)
theorem inlX3 : ∀ w ∈ wsX30, w ∈ wsL_law := fun _ h => List.mem_append_left _ (List.mem_append_left _ (List.mem_append_left _ (List.mem_append_left _ (List.mem_append_right _ h))))
theorem inX3 : ∀ w ∈ wsX30, w ∈ lw_tbl := fun w h => wsL_law_in w (inlX3 w h)
theorem inlX4 : ∀ w ∈ wsX40, w ∈ wsL_law := fun _ h => List.mem_append_left _ (List.mem_append_left _ (List.mem_append_left _ (List.mem_append_left _ (List.mem_append_left _ (List.mem_append_right _ h)))))
theorem inX4 : ∀ w ∈ wsX40, w ∈ lw_tbl := fun w h => wsL_law_in w (inlX4 w h)
theorem inX5 : ∀ w ∈ wsX50, w ∈ lw_tbl := by decide +kernel
theorem inJ6 : ∀ w ∈ wsJ60, w ∈ lw_tbl := by decide +kernel
theorem inJ9 : ∀ w ∈ wsJ90, w ∈ lw_tbl := by decide +kernel
theorem inJ10 : ∀ w ∈ wsJ100, w ∈ lw_tbl := by decide +kernel
theorem inJ7 : ∀ w ∈ wsJ70, w ∈ lw_tbl := by decide +kernel
abbrev vwCl : List vw_C := [(RX0, TX0, 3), (RX1, TX1, 8), (RX2, TX2, 3), (RX3, TX3, 7), (RX4, TX4, 7)]
end
section
/-! ints of the machine as integers; partial functions that a walk follows; rows of the kit in these words -/
def jI (x : Int) : Int32 := Int32.ofInt x
def jA (f : Int → Int) : Nat → Int32 := fun k => jI (f (k : Int))
def uI {α : Type} (f : Int → α) (i : Int) (x : α) : Int → α := fun q => if q = i then x else f q
abbrev rg (x : Int) : Prop := -2147483648 ≤ x ∧ x < 2147483648
theorem jI_toInt {x : Int} (h : rg x) : (jI x).toInt = x := Int32.toInt_ofInt_of_le h.1 h.2
theorem jI_of (x : Int32) : jI x.toInt = x := Int32.ofInt_toInt x
theorem rg_of (x : Int32) : rg x.toInt := ⟨Int32.le_toInt x, Int32.toInt_lt x⟩
theorem jI_add (a b : Int) : jI a + jI b = jI (a + b) := (Int32.ofInt_add a b).symm
theorem jI_sub (a b : Int) : jI a - jI b = jI (a - b) := (Int32.ofInt_sub a b).symm
theorem jI_mul (a b : Int) : jI a * jI b = jI (a * b) := (Int32.ofInt_mul a b).symm
theorem jI_inj {a b : Int} (ha : rg a) (hb : rg b) : jI a = jI b ↔ a = b := by
  constructor
  · intro h
    have := congrArg Int32.toInt h
    rwa [jI_toInt ha, jI_toInt hb] at this
  · intro h; rw [h]
theorem jI_le {a b : Int} (ha : rg a) (hb : rg b) : jI a ≤ jI b ↔ a ≤ b := by rw [Int32.le_iff_toInt_le, jI_toInt ha, jI_toInt hb]
theorem jI_lt {a b : Int} (ha : rg a) (hb : rg b) : jI a < jI b ↔ a < b := by rw [Int32.lt_iff_toInt_lt, jI_toInt ha, jI_toInt hb]
theorem jI_nat {x : Int} (h0 : 0 ≤ x) (h1 : x < 2147483648) : (jI x).toNatClampNeg = x.toNat := by
  show (jI x).toInt.toNat = _
  rw [jI_toInt ⟨by omega, h1⟩]
theorem jI_in {x : Int} {n : Nat} (h0 : 0 ≤ x) (h1 : x < n) (hn : x < 2147483648) : vp_in (jI x) n := by
  rw [vp_in_iff, jI_toInt ⟨by omega, hn⟩]; exact ⟨h0, h1⟩
theorem jA_at (f : Int → Int) {x : Int} (h0 : 0 ≤ x) (h1 : x < 2147483648) : jA f (jI x).toNatClampNeg = jI (f x) := by
  rw [jI_nat h0 h1]; show jI (f ((x.toNat : Nat) : Int)) = _; rw [Int.toNat_of_nonneg h0]
theorem jA_set (f : Int → Int) {x : Int} (v : Int) (h0 : 0 ≤ x) (h1 : x < 2147483648) : upd (jA f) (jI x).toNatClampNeg (jI v) = jA (uI f x v) := by
  rw [jI_nat h0 h1]
  funext k
  show (if k = x.toNat then jI v else jI (f k)) = jI (if (k : Int) = x then v else f k)
  by_cases h : k = x.toNat
  · rw [if_pos h, if_pos (by omega)]
  · rw [if_neg h, if_neg (by omega)]
-- the partial functions
def jck {α : Type} (a b : Int) (X : Option α) : Option α := if rg a ∧ rg b then X else none
def jix {α : Type} (n i : Int) (X : Option α) : Option α := if 0 ≤ i ∧ i < n then X else none
def jbo {α : Type} (x : Int) (X : Option α) : Option α := if x = 0 ∨ x = 1 then X else none
def jch {α : Type} (x : Int) (X : Option α) : Option α := if 0 ≤ x ∧ x < 65536 then X else none
def jre {α : Type} (a b : Int) (X : Option α) : Option α := if 0 ≤ a ∧ a < 2147483648 ∧ 0 < b ∧ b < 2147483648 then X else none
def jj {α β : Type} (K : β → Option α) (F : (β → Option α) → Option α) : Option α := F K
def jb {α β : Type} (x : Option α) (k : α → Option β) : Option β := match x with
  | some a => k a
  | none => none
def jor (a b : Int) : Int := (jI a ||| jI b).toInt
def jand (a b : Int) : Int := (jI a &&& jI b).toInt
def jshl (a b : Int) : Int := (jI a <<< (jI b &&& 31)).toInt
def jshr (a b : Int) : Int := (jI a >>> (jI b &&& 31)).toInt
def jushr (a b : Int) : Int := ((jI a).toUInt32 >>> ((jI b).toUInt32 &&& Int32.toUInt32 31)).toInt32.toInt
def jxor (a b : Int) : Int := (jI a ^^^ jI b).toInt
def jmax (a b : Int) : Int := if a < b then b else a
def jmin (a b : Int) : Int := if b < a then b else a
theorem jck_i {α : Type} {a b : Int} {X : Option α} {r : α} (h : jck a b X = some r) : rg a ∧ rg b ∧ X = some r := by
  unfold jck at h
  by_cases c : rg a ∧ rg b
  · rw [if_pos c] at h; exact ⟨c.1, c.2, h⟩
  · rw [if_neg c] at h; cases h
theorem jix_i {α : Type} {n i : Int} {X : Option α} {r : α} (h : jix n i X = some r) : 0 ≤ i ∧ i < n ∧ X = some r := by
  unfold jix at h
  by_cases c : 0 ≤ i ∧ i < n
  · rw [if_pos c] at h; exact ⟨c.1, c.2, h⟩
  · rw [if_neg c] at h; cases h
theorem jbo_i {α : Type} {x : Int} {X : Option α} {r : α} (h : jbo x X = some r) : (x = 0 ∨ x = 1) ∧ X = some r := by
  unfold jbo at h
  by_cases c : x = 0 ∨ x = 1
  · rw [if_pos c] at h; exact ⟨c, h⟩
  · rw [if_neg c] at h; cases h
theorem jch_i {α : Type} {x : Int} {X : Option α} {r : α} (h : jch x X = some r) : (0 ≤ x ∧ x < 65536) ∧ X = some r := by
  unfold jch at h
  by_cases c : 0 ≤ x ∧ x < 65536
  · rw [if_pos c] at h; exact ⟨c, h⟩
  · rw [if_neg c] at h; cases h
theorem jre_i {α : Type} {a b : Int} {X : Option α} {r : α} (h : jre a b X = some r) : (0 ≤ a ∧ a < 2147483648 ∧ 0 < b ∧ b < 2147483648) ∧ X = some r := by
  unfold jre at h
  by_cases c : 0 ≤ a ∧ a < 2147483648 ∧ 0 < b ∧ b < 2147483648
  · rw [if_pos c] at h; exact ⟨c, h⟩
  · rw [if_neg c] at h; cases h
theorem jj_i {α β : Type} {K : β → Option α} {F : (β → Option α) → Option α} {r : α} (h : jj K F = some r) : ∃ k : β → Option α, (∀ v, k v = K v) ∧ F k = some r := ⟨K, fun _ => rfl, h⟩
theorem jb_i {α β : Type} {x : Option α} {k : α → Option β} {r : β} (h : jb x k = some r) : ∃ a, x = some a ∧ k a = some r := by
  cases x with
  | none => cases h
  | some a => exact ⟨a, rfl, h⟩
def jb2 {t1 t2 β : Type} (x : Option (t1 × t2)) (k : t1 → t2 → Option β) : Option β := match x with
  | some (a1, a2) => k a1 a2
  | none => none
theorem jb2_i {t1 t2 β : Type} {x : Option (t1 × t2)} {k : t1 → t2 → Option β} {r : β} (h : jb2 x k = some r) : ∃ a1 a2, x = some (a1, a2) ∧ k a1 a2 = some r := by
  cases x with
  | none => cases h
  | some q => obtain ⟨a1, a2⟩ := q; exact ⟨a1, a2, rfl, h⟩
def jb3 {t1 t2 t3 β : Type} (x : Option (t1 × t2 × t3)) (k : t1 → t2 → t3 → Option β) : Option β := match x with
  | some (a1, a2, a3) => k a1 a2 a3
  | none => none
theorem jb3_i {t1 t2 t3 β : Type} {x : Option (t1 × t2 × t3)} {k : t1 → t2 → t3 → Option β} {r : β} (h : jb3 x k = some r) : ∃ a1 a2 a3, x = some (a1, a2, a3) ∧ k a1 a2 a3 = some r := by
  cases x with
  | none => cases h
  | some q => obtain ⟨a1, a2, a3⟩ := q; exact ⟨a1, a2, a3, rfl, h⟩
def jb4 {t1 t2 t3 t4 β : Type} (x : Option (t1 × t2 × t3 × t4)) (k : t1 → t2 → t3 → t4 → Option β) : Option β := match x with
  | some (a1, a2, a3, a4) => k a1 a2 a3 a4
  | none => none
theorem jb4_i {t1 t2 t3 t4 β : Type} {x : Option (t1 × t2 × t3 × t4)} {k : t1 → t2 → t3 → t4 → Option β} {r : β} (h : jb4 x k = some r) : ∃ a1 a2 a3 a4, x = some (a1, a2, a3, a4) ∧ k a1 a2 a3 a4 = some r := by
  cases x with
  | none => cases h
  | some q => obtain ⟨a1, a2, a3, a4⟩ := q; exact ⟨a1, a2, a3, a4, rfl, h⟩
def jb5 {t1 t2 t3 t4 t5 β : Type} (x : Option (t1 × t2 × t3 × t4 × t5)) (k : t1 → t2 → t3 → t4 → t5 → Option β) : Option β := match x with
  | some (a1, a2, a3, a4, a5) => k a1 a2 a3 a4 a5
  | none => none
theorem jb5_i {t1 t2 t3 t4 t5 β : Type} {x : Option (t1 × t2 × t3 × t4 × t5)} {k : t1 → t2 → t3 → t4 → t5 → Option β} {r : β} (h : jb5 x k = some r) : ∃ a1 a2 a3 a4 a5, x = some (a1, a2, a3, a4, a5) ∧ k a1 a2 a3 a4 a5 = some r := by
  cases x with
  | none => cases h
  | some q => obtain ⟨a1, a2, a3, a4, a5⟩ := q; exact ⟨a1, a2, a3, a4, a5, rfl, h⟩
def jb6 {t1 t2 t3 t4 t5 t6 β : Type} (x : Option (t1 × t2 × t3 × t4 × t5 × t6)) (k : t1 → t2 → t3 → t4 → t5 → t6 → Option β) : Option β := match x with
  | some (a1, a2, a3, a4, a5, a6) => k a1 a2 a3 a4 a5 a6
  | none => none
theorem jb6_i {t1 t2 t3 t4 t5 t6 β : Type} {x : Option (t1 × t2 × t3 × t4 × t5 × t6)} {k : t1 → t2 → t3 → t4 → t5 → t6 → Option β} {r : β} (h : jb6 x k = some r) : ∃ a1 a2 a3 a4 a5 a6, x = some (a1, a2, a3, a4, a5, a6) ∧ k a1 a2 a3 a4 a5 a6 = some r := by
  cases x with
  | none => cases h
  | some q => obtain ⟨a1, a2, a3, a4, a5, a6⟩ := q; exact ⟨a1, a2, a3, a4, a5, a6, rfl, h⟩
def jb7 {t1 t2 t3 t4 t5 t6 t7 β : Type} (x : Option (t1 × t2 × t3 × t4 × t5 × t6 × t7)) (k : t1 → t2 → t3 → t4 → t5 → t6 → t7 → Option β) : Option β := match x with
  | some (a1, a2, a3, a4, a5, a6, a7) => k a1 a2 a3 a4 a5 a6 a7
  | none => none
theorem jb7_i {t1 t2 t3 t4 t5 t6 t7 β : Type} {x : Option (t1 × t2 × t3 × t4 × t5 × t6 × t7)} {k : t1 → t2 → t3 → t4 → t5 → t6 → t7 → Option β} {r : β} (h : jb7 x k = some r) : ∃ a1 a2 a3 a4 a5 a6 a7, x = some (a1, a2, a3, a4, a5, a6, a7) ∧ k a1 a2 a3 a4 a5 a6 a7 = some r := by
  cases x with
  | none => cases h
  | some q => obtain ⟨a1, a2, a3, a4, a5, a6, a7⟩ := q; exact ⟨a1, a2, a3, a4, a5, a6, a7, rfl, h⟩
def jb8 {t1 t2 t3 t4 t5 t6 t7 t8 β : Type} (x : Option (t1 × t2 × t3 × t4 × t5 × t6 × t7 × t8)) (k : t1 → t2 → t3 → t4 → t5 → t6 → t7 → t8 → Option β) : Option β := match x with
  | some (a1, a2, a3, a4, a5, a6, a7, a8) => k a1 a2 a3 a4 a5 a6 a7 a8
  | none => none
theorem jb8_i {t1 t2 t3 t4 t5 t6 t7 t8 β : Type} {x : Option (t1 × t2 × t3 × t4 × t5 × t6 × t7 × t8)} {k : t1 → t2 → t3 → t4 → t5 → t6 → t7 → t8 → Option β} {r : β} (h : jb8 x k = some r) : ∃ a1 a2 a3 a4 a5 a6 a7 a8, x = some (a1, a2, a3, a4, a5, a6, a7, a8) ∧ k a1 a2 a3 a4 a5 a6 a7 a8 = some r := by
  cases x with
  | none => cases h
  | some q => obtain ⟨a1, a2, a3, a4, a5, a6, a7, a8⟩ := q; exact ⟨a1, a2, a3, a4, a5, a6, a7, a8, rfl, h⟩
def jb9 {t1 t2 t3 t4 t5 t6 t7 t8 t9 β : Type} (x : Option (t1 × t2 × t3 × t4 × t5 × t6 × t7 × t8 × t9)) (k : t1 → t2 → t3 → t4 → t5 → t6 → t7 → t8 → t9 → Option β) : Option β := match x with
  | some (a1, a2, a3, a4, a5, a6, a7, a8, a9) => k a1 a2 a3 a4 a5 a6 a7 a8 a9
  | none => none
theorem jb9_i {t1 t2 t3 t4 t5 t6 t7 t8 t9 β : Type} {x : Option (t1 × t2 × t3 × t4 × t5 × t6 × t7 × t8 × t9)} {k : t1 → t2 → t3 → t4 → t5 → t6 → t7 → t8 → t9 → Option β} {r : β} (h : jb9 x k = some r) : ∃ a1 a2 a3 a4 a5 a6 a7 a8 a9, x = some (a1, a2, a3, a4, a5, a6, a7, a8, a9) ∧ k a1 a2 a3 a4 a5 a6 a7 a8 a9 = some r := by
  cases x with
  | none => cases h
  | some q => obtain ⟨a1, a2, a3, a4, a5, a6, a7, a8, a9⟩ := q; exact ⟨a1, a2, a3, a4, a5, a6, a7, a8, a9, rfl, h⟩
def jb10 {t1 t2 t3 t4 t5 t6 t7 t8 t9 t10 β : Type} (x : Option (t1 × t2 × t3 × t4 × t5 × t6 × t7 × t8 × t9 × t10)) (k : t1 → t2 → t3 → t4 → t5 → t6 → t7 → t8 → t9 → t10 → Option β) : Option β := match x with
  | some (a1, a2, a3, a4, a5, a6, a7, a8, a9, a10) => k a1 a2 a3 a4 a5 a6 a7 a8 a9 a10
  | none => none
theorem jb10_i {t1 t2 t3 t4 t5 t6 t7 t8 t9 t10 β : Type} {x : Option (t1 × t2 × t3 × t4 × t5 × t6 × t7 × t8 × t9 × t10)} {k : t1 → t2 → t3 → t4 → t5 → t6 → t7 → t8 → t9 → t10 → Option β} {r : β} (h : jb10 x k = some r) : ∃ a1 a2 a3 a4 a5 a6 a7 a8 a9 a10, x = some (a1, a2, a3, a4, a5, a6, a7, a8, a9, a10) ∧ k a1 a2 a3 a4 a5 a6 a7 a8 a9 a10 = some r := by
  cases x with
  | none => cases h
  | some q => obtain ⟨a1, a2, a3, a4, a5, a6, a7, a8, a9, a10⟩ := q; exact ⟨a1, a2, a3, a4, a5, a6, a7, a8, a9, a10, rfl, h⟩
def jb11 {t1 t2 t3 t4 t5 t6 t7 t8 t9 t10 t11 β : Type} (x : Option (t1 × t2 × t3 × t4 × t5 × t6 × t7 × t8 × t9 × t10 × t11)) (k : t1 → t2 → t3 → t4 → t5 → t6 → t7 → t8 → t9 → t10 → t11 → Option β) : Option β := match x with
  | some (a1, a2, a3, a4, a5, a6, a7, a8, a9, a10, a11) => k a1 a2 a3 a4 a5 a6 a7 a8 a9 a10 a11
  | none => none
theorem jb11_i {t1 t2 t3 t4 t5 t6 t7 t8 t9 t10 t11 β : Type} {x : Option (t1 × t2 × t3 × t4 × t5 × t6 × t7 × t8 × t9 × t10 × t11)} {k : t1 → t2 → t3 → t4 → t5 → t6 → t7 → t8 → t9 → t10 → t11 → Option β} {r : β} (h : jb11 x k = some r) : ∃ a1 a2 a3 a4 a5 a6 a7 a8 a9 a10 a11, x = some (a1, a2, a3, a4, a5, a6, a7, a8, a9, a10, a11) ∧ k a1 a2 a3 a4 a5 a6 a7 a8 a9 a10 a11 = some r := by
  cases x with
  | none => cases h
  | some q => obtain ⟨a1, a2, a3, a4, a5, a6, a7, a8, a9, a10, a11⟩ := q; exact ⟨a1, a2, a3, a4, a5, a6, a7, a8, a9, a10, a11, rfl, h⟩
def jb12 {t1 t2 t3 t4 t5 t6 t7 t8 t9 t10 t11 t12 β : Type} (x : Option (t1 × t2 × t3 × t4 × t5 × t6 × t7 × t8 × t9 × t10 × t11 × t12)) (k : t1 → t2 → t3 → t4 → t5 → t6 → t7 → t8 → t9 → t10 → t11 → t12 → Option β) : Option β := match x with
  | some (a1, a2, a3, a4, a5, a6, a7, a8, a9, a10, a11, a12) => k a1 a2 a3 a4 a5 a6 a7 a8 a9 a10 a11 a12
  | none => none
theorem jb12_i {t1 t2 t3 t4 t5 t6 t7 t8 t9 t10 t11 t12 β : Type} {x : Option (t1 × t2 × t3 × t4 × t5 × t6 × t7 × t8 × t9 × t10 × t11 × t12)} {k : t1 → t2 → t3 → t4 → t5 → t6 → t7 → t8 → t9 → t10 → t11 → t12 → Option β} {r : β} (h : jb12 x k = some r) : ∃ a1 a2 a3 a4 a5 a6 a7 a8 a9 a10 a11 a12, x = some (a1, a2, a3, a4, a5, a6, a7, a8, a9, a10, a11, a12) ∧ k a1 a2 a3 a4 a5 a6 a7 a8 a9 a10 a11 a12 = some r := by
  cases x with
  | none => cases h
  | some q => obtain ⟨a1, a2, a3, a4, a5, a6, a7, a8, a9, a10, a11, a12⟩ := q; exact ⟨a1, a2, a3, a4, a5, a6, a7, a8, a9, a10, a11, a12, rfl, h⟩
def jb13 {t1 t2 t3 t4 t5 t6 t7 t8 t9 t10 t11 t12 t13 β : Type} (x : Option (t1 × t2 × t3 × t4 × t5 × t6 × t7 × t8 × t9 × t10 × t11 × t12 × t13)) (k : t1 → t2 → t3 → t4 → t5 → t6 → t7 → t8 → t9 → t10 → t11 → t12 → t13 → Option β) : Option β := match x with
  | some (a1, a2, a3, a4, a5, a6, a7, a8, a9, a10, a11, a12, a13) => k a1 a2 a3 a4 a5 a6 a7 a8 a9 a10 a11 a12 a13
  | none => none
theorem jb13_i {t1 t2 t3 t4 t5 t6 t7 t8 t9 t10 t11 t12 t13 β : Type} {x : Option (t1 × t2 × t3 × t4 × t5 × t6 × t7 × t8 × t9 × t10 × t11 × t12 × t13)} {k : t1 → t2 → t3 → t4 → t5 → t6 → t7 → t8 → t9 → t10 → t11 → t12 → t13 → Option β} {r : β} (h : jb13 x k = some r) : ∃ a1 a2 a3 a4 a5 a6 a7 a8 a9 a10 a11 a12 a13, x = some (a1, a2, a3, a4, a5, a6, a7, a8, a9, a10, a11, a12, a13) ∧ k a1 a2 a3 a4 a5 a6 a7 a8 a9 a10 a11 a12 a13 = some r := by
  cases x with
  | none => cases h
  | some q => obtain ⟨a1, a2, a3, a4, a5, a6, a7, a8, a9, a10, a11, a12, a13⟩ := q; exact ⟨a1, a2, a3, a4, a5, a6, a7, a8, a9, a10, a11, a12, a13, rfl, h⟩
def jb14 {t1 t2 t3 t4 t5 t6 t7 t8 t9 t10 t11 t12 t13 t14 β : Type} (x : Option (t1 × t2 × t3 × t4 × t5 × t6 × t7 × t8 × t9 × t10 × t11 × t12 × t13 × t14)) (k : t1 → t2 → t3 → t4 → t5 → t6 → t7 → t8 → t9 → t10 → t11 → t12 → t13 → t14 → Option β) : Option β := match x with
  | some (a1, a2, a3, a4, a5, a6, a7, a8, a9, a10, a11, a12, a13, a14) => k a1 a2 a3 a4 a5 a6 a7 a8 a9 a10 a11 a12 a13 a14
  | none => none
theorem jb14_i {t1 t2 t3 t4 t5 t6 t7 t8 t9 t10 t11 t12 t13 t14 β : Type} {x : Option (t1 × t2 × t3 × t4 × t5 × t6 × t7 × t8 × t9 × t10 × t11 × t12 × t13 × t14)} {k : t1 → t2 → t3 → t4 → t5 → t6 → t7 → t8 → t9 → t10 → t11 → t12 → t13 → t14 → Option β} {r : β} (h : jb14 x k = some r) : ∃ a1 a2 a3 a4 a5 a6 a7 a8 a9 a10 a11 a12 a13 a14, x = some (a1, a2, a3, a4, a5, a6, a7, a8, a9, a10, a11, a12, a13, a14) ∧ k a1 a2 a3 a4 a5 a6 a7 a8 a9 a10 a11 a12 a13 a14 = some r := by
  cases x with
  | none => cases h
  | some q => obtain ⟨a1, a2, a3, a4, a5, a6, a7, a8, a9, a10, a11, a12, a13, a14⟩ := q; exact ⟨a1, a2, a3, a4, a5, a6, a7, a8, a9, a10, a11, a12, a13, a14, rfl, h⟩
def jb15 {t1 t2 t3 t4 t5 t6 t7 t8 t9 t10 t11 t12 t13 t14 t15 β : Type} (x : Option (t1 × t2 × t3 × t4 × t5 × t6 × t7 × t8 × t9 × t10 × t11 × t12 × t13 × t14 × t15)) (k : t1 → t2 → t3 → t4 → t5 → t6 → t7 → t8 → t9 → t10 → t11 → t12 → t13 → t14 → t15 → Option β) : Option β := match x with
  | some (a1, a2, a3, a4, a5, a6, a7, a8, a9, a10, a11, a12, a13, a14, a15) => k a1 a2 a3 a4 a5 a6 a7 a8 a9 a10 a11 a12 a13 a14 a15
  | none => none
theorem jb15_i {t1 t2 t3 t4 t5 t6 t7 t8 t9 t10 t11 t12 t13 t14 t15 β : Type} {x : Option (t1 × t2 × t3 × t4 × t5 × t6 × t7 × t8 × t9 × t10 × t11 × t12 × t13 × t14 × t15)} {k : t1 → t2 → t3 → t4 → t5 → t6 → t7 → t8 → t9 → t10 → t11 → t12 → t13 → t14 → t15 → Option β} {r : β} (h : jb15 x k = some r) : ∃ a1 a2 a3 a4 a5 a6 a7 a8 a9 a10 a11 a12 a13 a14 a15, x = some (a1, a2, a3, a4, a5, a6, a7, a8, a9, a10, a11, a12, a13, a14, a15) ∧ k a1 a2 a3 a4 a5 a6 a7 a8 a9 a10 a11 a12 a13 a14 a15 = some r := by
  cases x with
  | none => cases h
  | some q => obtain ⟨a1, a2, a3, a4, a5, a6, a7, a8, a9, a10, a11, a12, a13, a14, a15⟩ := q; exact ⟨a1, a2, a3, a4, a5, a6, a7, a8, a9, a10, a11, a12, a13, a14, a15, rfl, h⟩
def jb16 {t1 t2 t3 t4 t5 t6 t7 t8 t9 t10 t11 t12 t13 t14 t15 t16 β : Type} (x : Option (t1 × t2 × t3 × t4 × t5 × t6 × t7 × t8 × t9 × t10 × t11 × t12 × t13 × t14 × t15 × t16)) (k : t1 → t2 → t3 → t4 → t5 → t6 → t7 → t8 → t9 → t10 → t11 → t12 → t13 → t14 → t15 → t16 → Option β) : Option β := match x with
  | some (a1, a2, a3, a4, a5, a6, a7, a8, a9, a10, a11, a12, a13, a14, a15, a16) => k a1 a2 a3 a4 a5 a6 a7 a8 a9 a10 a11 a12 a13 a14 a15 a16
  | none => none
theorem jb16_i {t1 t2 t3 t4 t5 t6 t7 t8 t9 t10 t11 t12 t13 t14 t15 t16 β : Type} {x : Option (t1 × t2 × t3 × t4 × t5 × t6 × t7 × t8 × t9 × t10 × t11 × t12 × t13 × t14 × t15 × t16)} {k : t1 → t2 → t3 → t4 → t5 → t6 → t7 → t8 → t9 → t10 → t11 → t12 → t13 → t14 → t15 → t16 → Option β} {r : β} (h : jb16 x k = some r) : ∃ a1 a2 a3 a4 a5 a6 a7 a8 a9 a10 a11 a12 a13 a14 a15 a16, x = some (a1, a2, a3, a4, a5, a6, a7, a8, a9, a10, a11, a12, a13, a14, a15, a16) ∧ k a1 a2 a3 a4 a5 a6 a7 a8 a9 a10 a11 a12 a13 a14 a15 a16 = some r := by
  cases x with
  | none => cases h
  | some q => obtain ⟨a1, a2, a3, a4, a5, a6, a7, a8, a9, a10, a11, a12, a13, a14, a15, a16⟩ := q; exact ⟨a1, a2, a3, a4, a5, a6, a7, a8, a9, a10, a11, a12, a13, a14, a15, a16, rfl, h⟩
def jb17 {t1 t2 t3 t4 t5 t6 t7 t8 t9 t10 t11 t12 t13 t14 t15 t16 t17 β : Type} (x : Option (t1 × t2 × t3 × t4 × t5 × t6 × t7 × t8 × t9 × t10 × t11 × t12 × t13 × t14 × t15 × t16 × t17)) (k : t1 → t2 → t3 → t4 → t5 → t6 → t7 → t8 → t9 → t10 → t11 → t12 → t13 → t14 → t15 → t16 → t17 → Option β) : Option β := match x with
  | some (a1, a2, a3, a4, a5, a6, a7, a8, a9, a10, a11, a12, a13, a14, a15, a16, a17) => k a1 a2 a3 a4 a5 a6 a7 a8 a9 a10 a11 a12 a13 a14 a15 a16 a17
  | none => none
theorem jb17_i {t1 t2 t3 t4 t5 t6 t7 t8 t9 t10 t11 t12 t13 t14 t15 t16 t17 β : Type} {x : Option (t1 × t2 × t3 × t4 × t5 × t6 × t7 × t8 × t9 × t10 × t11 × t12 × t13 × t14 × t15 × t16 × t17)} {k : t1 → t2 → t3 → t4 → t5 → t6 → t7 → t8 → t9 → t10 → t11 → t12 → t13 → t14 → t15 → t16 → t17 → Option β} {r : β} (h : jb17 x k = some r) : ∃ a1 a2 a3 a4 a5 a6 a7 a8 a9 a10 a11 a12 a13 a14 a15 a16 a17, x = some (a1, a2, a3, a4, a5, a6, a7, a8, a9, a10, a11, a12, a13, a14, a15, a16, a17) ∧ k a1 a2 a3 a4 a5 a6 a7 a8 a9 a10 a11 a12 a13 a14 a15 a16 a17 = some r := by
  cases x with
  | none => cases h
  | some q => obtain ⟨a1, a2, a3, a4, a5, a6, a7, a8, a9, a10, a11, a12, a13, a14, a15, a16, a17⟩ := q; exact ⟨a1, a2, a3, a4, a5, a6, a7, a8, a9, a10, a11, a12, a13, a14, a15, a16, a17, rfl, h⟩
def jb18 {t1 t2 t3 t4 t5 t6 t7 t8 t9 t10 t11 t12 t13 t14 t15 t16 t17 t18 β : Type} (x : Option (t1 × t2 × t3 × t4 × t5 × t6 × t7 × t8 × t9 × t10 × t11 × t12 × t13 × t14 × t15 × t16 × t17 × t18)) (k : t1 → t2 → t3 → t4 → t5 → t6 → t7 → t8 → t9 → t10 → t11 → t12 → t13 → t14 → t15 → t16 → t17 → t18 → Option β) : Option β := match x with
  | some (a1, a2, a3, a4, a5, a6, a7, a8, a9, a10, a11, a12, a13, a14, a15, a16, a17, a18) => k a1 a2 a3 a4 a5 a6 a7 a8 a9 a10 a11 a12 a13 a14 a15 a16 a17 a18
  | none => none
theorem jb18_i {t1 t2 t3 t4 t5 t6 t7 t8 t9 t10 t11 t12 t13 t14 t15 t16 t17 t18 β : Type} {x : Option (t1 × t2 × t3 × t4 × t5 × t6 × t7 × t8 × t9 × t10 × t11 × t12 × t13 × t14 × t15 × t16 × t17 × t18)} {k : t1 → t2 → t3 → t4 → t5 → t6 → t7 → t8 → t9 → t10 → t11 → t12 → t13 → t14 → t15 → t16 → t17 → t18 → Option β} {r : β} (h : jb18 x k = some r) : ∃ a1 a2 a3 a4 a5 a6 a7 a8 a9 a10 a11 a12 a13 a14 a15 a16 a17 a18, x = some (a1, a2, a3, a4, a5, a6, a7, a8, a9, a10, a11, a12, a13, a14, a15, a16, a17, a18) ∧ k a1 a2 a3 a4 a5 a6 a7 a8 a9 a10 a11 a12 a13 a14 a15 a16 a17 a18 = some r := by
  cases x with
  | none => cases h
  | some q => obtain ⟨a1, a2, a3, a4, a5, a6, a7, a8, a9, a10, a11, a12, a13, a14, a15, a16, a17, a18⟩ := q; exact ⟨a1, a2, a3, a4, a5, a6, a7, a8, a9, a10, a11, a12, a13, a14, a15, a16, a17, a18, rfl, h⟩
-- what the walks of our methods have of the tables, and of the static rows that nobody writes
def jT (y : Nat → ClassId) : List (ClassId × FieldType) := [(y 0, .int), (y 1, .boolean), (y 2, .char), (y 3, .object RX3)]
def jNW (U : State) : Prop := va_Nw (.methodLinkNest "MusicHoles" 21 yX2_init "MusicHoles") U ∧ va_Nw (.methodLinkNest "MusicHoles" 28 yX1_init "MusicHoles") U ∧ va_Nw (.methodLinkNest "MusicHoles$Paper" 63 yX4_isTrack "MusicHoles") U ∧ va_Nw (.methodLinkNest "MusicHoles$Paper" 66 yX4_isStep "MusicHoles") U ∧ va_Nw (.methodLinkNest "MusicHoles$Roll" 48 yX4_isIn "MusicHoles") U
theorem jNW.warm {s U : State} (hW : s.WarmedH U.vm) (h : jNW s) : jNW U := ⟨h.1.warmM hW, h.2.1.warmM hW, h.2.2.1.warmM hW, h.2.2.2.1.warmM hW, h.2.2.2.2.warmM hW⟩
theorem jNW.same {u U : State} (hv : u.vm = U.vm) (h : jNW u) : jNW U := ⟨h.1.same rfl hv, h.2.1.same rfl hv, h.2.2.1.same rfl hv, h.2.2.2.1.same rfl hv, h.2.2.2.2.same rfl hv⟩
def jL (k : Nat) : Int := match k with
  | 0 => 1
  | 1 => 1
  | 2 => 0
  | _ => 2
def jG (k : Nat) : Int := match k with
  | 0 => 9
  | 1 => 4
  | 2 => 4
  | _ => 12
def jF (k : Nat) : Int := match k with
  | 0 => 3
  | 1 => 1
  | 2 => 1
  | _ => 4
def jST (z : Nat → Nat) (A : Nat → Prop) (U : State) (H : Heap) : Prop :=
  (va_Z "MusicHoles" "LEAST" "[I" (.ref (z 0)) A U H ∧ va_T .int (z 0) 4 (fun k => .int (jI (jL k))) A U H) ∧
  (va_Z "MusicHoles" "GREATEST" "[I" (.ref (z 1)) A U H ∧ va_T .int (z 1) 4 (fun k => .int (jI (jG k))) A U H) ∧
  (va_Z "MusicHoles" "AT_FIRST" "[I" (.ref (z 2)) A U H ∧ va_X (z 2) 4 (fun k => jI (jF k)) U H ∧ ¬ A (z 2))
theorem jST.moved {z : Nat → Nat} {A : Nat → Prop} {u U : State} {H : Heap} (hvm : u.vm.Alike U.vm) (h : jST z A u H) : jST z A U H := ⟨⟨h.1.1.moved hvm, h.1.2.moved hvm⟩, ⟨h.2.1.1.moved hvm, h.2.1.2.moved hvm⟩, ⟨h.2.2.1.moved hvm, h.2.2.2.1.moved hvm, h.2.2.2.2⟩⟩
theorem jST.kept {z : Nat → Nat} {A : Nat → Prop} {U : State} {H H1 : Heap} (h : jST z A U H) (hq : ∀ a : Nat, a < H.size → ¬ A a → H1[a]? = H[a]?) : jST z A U H1 := ⟨⟨h.1.1.kept hq, h.1.2.kept hq⟩, ⟨h.2.1.1.kept hq, h.2.1.2.kept hq⟩, ⟨h.2.2.1.kept hq, h.2.2.2.1.kept (hq _ (by obtain ⟨scr, h1, -⟩ := h.2.2.2.1; exact (Array.getElem?_eq_some_iff.mp h1).1) h.2.2.2.2), h.2.2.2.2⟩⟩
theorem jST.narrow {z : Nat → Nat} {A B : Nat → Prop} {U : State} {H : Heap} (h : jST z A U H) (hAB : ∀ q, B q → A q) : jST z B U H := ⟨⟨h.1.1.narrow hAB, h.1.2.narrow hAB⟩, ⟨h.2.1.1.narrow hAB, h.2.1.2.narrow hAB⟩, ⟨h.2.2.1.narrow hAB, h.2.2.2.1, fun q => h.2.2.2.2 (hAB _ q)⟩⟩
def jM (D : va_G) (y : Nat → ClassId) (z : Nat → Nat) (A : Nat → Prop) (U : State) : Prop := va_K D vwCl (jT y) U ∧ jNW U ∧ jST z A U U.heap
theorem jM.calling {D : va_G} {y : Nat → ClassId} {z : Nat → Nat} {A : Nat → Prop} {U : State} {g : JFrame} {mk : MethodId} {a : Array Value} (h : jM D y z A U) : jM D y z A (U.calling g mk a) :=
  ⟨va_K.moved (u := U) (U := U.calling g mk a) (Vm.Alike.refl U.vm) h.1, jNW.same (u := U) (U := U.calling g mk a) rfl h.2.1, jST.moved (u := U) (U := U.calling g mk a) (Vm.Alike.refl U.vm) h.2.2⟩
theorem jM.there {D : va_G} {y : Nat → ClassId} {z : Nat → Nat} {A B : Nat → Prop} {s U : State} {H : Heap} {locs : List Loc} (h : jM D y z A s) (hS : va_S A s.heap H locs) (hAB : ∀ q, B q → A q) (hU : U.heap = H) (hW : s.WarmedH U.vm) : jM D y z B U := by
  refine ⟨va_K.moved hW.alike h.1, jNW.warm hW h.2.1, ?_⟩
  rw [hU]
  exact jST.moved hW.alike ((h.2.2.kept (fun a h1 h2 => hS.2.1 a h1 h2)).narrow hAB)
-- worlds in chunks
theorem jch_sub {D : va_G} {cl : List vw_C} {cs cc : List va_W} {H : Heap} (h : va_P D cl cs.flatten H) (is : List Nat) (hs : is.map (fun i => cs[i]?) = cc.map some) : va_P D cl cc.flatten H := by
  intro k q hk
  obtain ⟨w, hw, hq⟩ := List.mem_flatten.mp (List.mem_of_getElem? hk)
  obtain ⟨j, hj⟩ := List.getElem?_of_mem hw
  have h1 : (is.map (fun i => cs[i]?))[j]? = some (some w) := by rw [hs, List.getElem?_map, hj]; rfl
  rw [List.getElem?_map] at h1
  cases hi : is[j]? with
  | none => rw [hi] at h1; cases h1
  | some i =>
    rw [hi] at h1
    have h2 : cs[i]? = some w := Option.some.inj h1
    obtain ⟨n, hn⟩ := List.getElem?_of_mem (List.mem_flatten.mpr ⟨w, List.mem_of_getElem? h2, hq⟩)
    exact h n q hn
theorem jD_iff {A : Nat → Prop} {ws : va_W} : va_D A ws ↔ (ws.map (·.1)).Nodup ∧ ∀ q ∈ ws, A q.1 := by
  constructor
  · intro h
    refine ⟨?_, fun q hq => ?_⟩
    · show List.Pairwise (· ≠ ·) (ws.map (·.1))
      rw [List.pairwise_iff_getElem]
      intro i j hi hj hij he
      have hi2 : i < ws.length := by rw [List.length_map] at hi; exact hi
      have hj2 : j < ws.length := by rw [List.length_map] at hj; exact hj
      rw [List.getElem_map, List.getElem_map] at he
      have := h.1 i j _ _ (List.getElem?_eq_getElem hi2) (List.getElem?_eq_getElem hj2) he
      omega
    · obtain ⟨k, hk⟩ := List.getElem?_of_mem hq
      exact h.2 k q hk
  · intro h
    refine ⟨fun i j p q hi hj he => ?_, fun k q hk => h.2 q (List.mem_of_getElem? hk)⟩
    have hp : ∀ (i j : Nat) (p q : Nat × va_E), ws[i]? = some p → ws[j]? = some q → p.1 = q.1 → ¬ i < j := by
      intro i j p q hi hj he hij
      obtain ⟨hi2, hi3⟩ := List.getElem?_eq_some_iff.mp hi
      obtain ⟨hj2, hj3⟩ := List.getElem?_eq_some_iff.mp hj
      have h0 : List.Pairwise (· ≠ ·) (ws.map (·.1)) := h.1
      have h1 := List.pairwise_iff_getElem.mp h0 i j (by rw [List.length_map]; exact hi2) (by rw [List.length_map]; exact hj2) hij
      apply h1
      rw [List.getElem_map, List.getElem_map, hi3, hj3]
      exact he
    have a1 := hp i j p q hi hj he
    have a2 := hp j i q p hj hi he.symm
    omega
theorem jD_perm {A : Nat → Prop} {w1 w2 : va_W} (hp : w1.Perm w2) (h : va_D A w1) : va_D A w2 := by
  rw [jD_iff] at h ⊢
  exact ⟨((hp.map (·.1)).nodup_iff).mp h.1, fun q hq => h.2 q (hp.mem_iff.mpr hq)⟩
def jpick (cs : List va_W) (is : List Nat) : List va_W := is.filterMap (fun i => cs[i]?)
theorem jpick_all (cs : List va_W) : jpick cs (List.range cs.length) = cs := by
  unfold jpick
  have e : ∀ (l : List va_W) (d : List va_W), (List.range' d.length l.length).filterMap (fun i => (d ++ l)[i]?) = l := by
    intro l
    induction l with
    | nil => intro d; rfl
    | cons a t ih =>
      intro d
      have h0 : (d ++ a :: t)[d.length]? = some a := by simp
      have h1 := ih (d ++ [a])
      rw [List.length_cons, List.range'_succ, List.filterMap_cons, h0]
      simp only [List.append_assoc, List.singleton_append, List.length_append, List.length_cons, List.length_nil] at h1
      rw [show d.length + 1 = d.length + (0 + 1) by omega, h1]
  have := e cs []
  rw [List.range_eq_range']
  exact this
theorem jperm {cs c2 : List va_W} (n : Nat) (is : List Nat) (hn : cs.length = n) (h : (List.range n).Perm is) (h2 : jpick cs is = c2) : cs.Perm c2 := by
  subst hn
  have h3 := h.filterMap (fun i => cs[i]?)
  have e := jpick_all cs
  unfold jpick at e h2
  rw [e, h2] at h3
  exact h3
theorem jP_perm {D : va_G} {cl : List vw_C} {c1 c2 : List va_W} {H : Heap} (hp : c1.Perm c2) (h : va_P D cl c1.flatten H) : va_P D cl c2.flatten H := by
  intro k q hk
  obtain ⟨n, hn⟩ := List.getElem?_of_mem (hp.flatten.mem_iff.mpr (List.mem_of_getElem? hk))
  exact h n q hn
theorem jch_join {A0 : Nat → Prop} {D : va_G} {cl : List vw_C} {wr cc c1 : va_W} {H H1 : Heap} (hP : va_P D cl (wr ++ cc) H) (hD : va_D A0 (wr ++ cc))
    (hk : ∀ q : Nat, q < H.size → ¬ va_A cc H.size q → H1[q]? = H[q]?) (hF : ∀ q, va_A cc H.size q → A0 q) (hP1 : va_P D cl c1 H1) (hD1 : va_D (va_A cc H.size) c1) : va_P D cl (wr ++ c1) H1 ∧ va_D A0 (wr ++ c1) := by
  rw [jD_iff] at hD hD1 ⊢
  rw [List.map_append, List.nodup_append] at hD
  obtain ⟨⟨n1, n2, n3⟩, hA⟩ := hD
  have hlt : ∀ q ∈ wr, q.1 < H.size := fun q hq => by
    obtain ⟨k, hk⟩ := List.getElem?_of_mem (List.mem_append_left cc hq)
    exact (hP k q hk).lt
  have hnot : ∀ q ∈ wr, ¬ va_A cc H.size q.1 := fun q hq h => by
    rcases h with ⟨k, e, h⟩ | h
    · exact n3 q.1 (List.mem_map.mpr ⟨q, hq, rfl⟩) q.1 (List.mem_map.mpr ⟨(q.1, e), List.mem_of_getElem? h, rfl⟩) rfl
    · exact absurd (hlt q hq) (by omega)
  refine ⟨va_P.app (fun k q hq => ?_) hP1, ?_, ?_⟩
  · obtain ⟨j, hj⟩ := List.getElem?_of_mem (List.mem_append_left cc (List.mem_of_getElem? hq))
    exact (hP j q hj).kept (hk q.1 (hlt q (List.mem_of_getElem? hq)) (hnot q (List.mem_of_getElem? hq)))
  · rw [List.map_append, List.nodup_append]
    refine ⟨n1, hD1.1, fun a ha b hb he => ?_⟩
    obtain ⟨q, hq, rfl⟩ := List.mem_map.mp ha
    obtain ⟨r, hr, rfl⟩ := List.mem_map.mp hb
    exact hnot q hq (by rw [he]; exact hD1.2 r hr)
  · intro q hq
    rcases List.mem_append.mp hq with h | h
    · exact hA q (List.mem_append_left cc h)
    · exact hF q.1 (hD1.2 q h)
-- contracts: what a method of ours is, over a world of chunks
def jPre (D : va_G) (y : Nat → ClassId) (z : Nat → Nat) (sz : Nat) (cs : List va_W) (U : State) : Prop := U.heap.size = sz ∧ va_P D vwCl cs.flatten U.heap ∧ va_D (fun _ => True) cs.flatten ∧ jM D y z (va_A cs.flatten sz) U
def jB (D : va_G) (A : Nat → Prop) (cs : List va_W) (_ : Unit) (t : State) : Prop := va_P D vwCl cs.flatten t.heap ∧ va_D A cs.flatten
def jCI (l : Launch) (D : va_G) (y : Nat → ClassId) (z : Nat → Nat) (ym : MethodName) (ws : List Cond) (rm : Room) (av : List Value) (cs cs' : List va_W) (r : Int) : Prop :=
  ∀ sz : Nat, Met l ym ws rm (va_Pc av (jPre D y z sz cs)) (va_Qi (fun v (_ : Unit) => v = jI r) (jB D (va_A cs.flatten sz) cs') (va_A cs.flatten sz)) 0 0 (va_A cs.flatten sz)
def jCV (l : Launch) (D : va_G) (y : Nat → ClassId) (z : Nat → Nat) (ym : MethodName) (ws : List Cond) (rm : Room) (av : List Value) (cs cs' : List va_W) : Prop :=
  ∀ sz : Nat, Met l ym ws rm (va_Pc av (jPre D y z sz cs)) (va_Qv (fun (_ : Unit) => True) (jB D (va_A cs.flatten sz) cs') (va_A cs.flatten sz)) 0 0 (va_A cs.flatten sz)
theorem jblind (av : List Value) (D : va_G) (y : Nat → ClassId) (z : Nat → Nat) (sz : Nat) (cs : List va_W) : FrameBlind (va_Pc av (jPre D y z sz cs)) := fun _ _ _ _ q => ⟨q.1, q.2.1, q.2.2.1, q.2.2.2.1, q.2.2.2.2.calling⟩
theorem jmet {l : Launch} {D : va_G} {y : Nat → ClassId} {z : Nat → Nat} {ym : MethodName} {ws ws' : List Cond} {rm : Room} {av : List Value} {cs : List va_W} {Qc : (Nat → Prop) → Array Value → State → Outcome → State → Prop} {cc : ByteArray} {maxL mc ms sz : Nat} {ret : Option FieldType}
    (hy : plainName ym.cls = true) (hw : ws = Cond.code ym cc maxL ret :: ws') (hsl : (lg_sl av).length ≤ maxL) {own : String} (hcls : ym.cls = own)
    (body : ∀ (p : Program) (e : Env) (s : State) (m : MethodId) (R : Room) (args : Array Value) (below : List Frame) (meth : Method) (c : Code) (A : Nat → Prop) (ls : Array Slot), R = rm → args = av.toArray → p.tables.exec = Jvm.exec → c.code = cc → meth.sig.returnType = ret → meth.locks = false → c.maxLocals = maxL → s.vm.findClass own = some m.cls → (∀ w ∈ ws, w.before args s = true) → meth.name = ym.name →
      s.heap.size = sz → va_P D vwCl cs.flatten s.heap → va_D A cs.flatten → (∀ q, s.heap.size ≤ q → A q) → jM D y z A s → lv_has ls maxL (lv_args 0 av) →
      W p l e R s m args below meth c s.heap [] 0 0 (MQ below (Qc A) args s mc ms A) (F0 m 0 ls [])) :
    Met l ym ws rm (va_Pc av (jPre D y z sz cs)) (Qc (va_A cs.flatten sz)) mc ms (va_A cs.flatten sz) := by
  refine Met.ofW (cc := cc) (maxL := maxL) (ret := ret) hy hw ?_
  intro p e s m args below meth c s₁ B hml hv
  obtain ⟨rfl, hsz, hP, hD, hM⟩ := hv
  have hl := lv_entry av (n := maxL) hsl
  rw [lg_entry_eq]
  generalize (lg_sl av ++ List.replicate (maxL - (lg_sl av).length) Slot.unset).toArray = ls at hl ⊢
  exact body p e s m rm av.toArray below meth c (va_A cs.flatten sz) ls rfl rfl B.exec B.bytes B.returns B.notSynchronized hml (by rw [← hcls]; exact findClass_of_methodNamed B.named) (atoms_spec (ws := ws) B.pre) (name_of_methodNamed B.named B.method).1 hsz hP hD.self (fun q h => Or.inr (by rw [← hsz]; exact h)) hM hl
section JX
variable {p : Program} {l : Launch} {e : Env} {R : Room} {s : State} {m : MethodId} {args : Array Value} {below : List Frame} {meth : Method} {c : Code} {H : Heap} {locs : List Loc} {cells slots : Nat} {Q : State → Prop}
variable {cc : ByteArray} {pc : Nat} {ls : Array Slot} {rest : List Value} {D : va_G} {y : Nat → ClassId} {z : Nat → Nat} {A : Nat → Prop} {a : Nat} {ws : va_W}
theorem jend_i {own : List va_W} {r : Int} (hx : p.tables.exec = Jvm.exec) (hb : c.code = cc) (hr : meth.sig.returnType = some .int) (hlocks : meth.locks = false) (hP : va_P D vwCl own.flatten H) (hD : va_D A own.flatten) (hS : va_S A s.heap H locs) (hdg : decode cc pc = .ok (.ireturn, 1)) :
    W p l e R s m args below meth c H locs 0 0 (MQ below (va_Qi (fun v (_ : Unit) => v = jI r) (jB D A own) A) args s 0 0 A) (F0 m pc ls [.int (jI r)]) :=
  W.iret hx hb hr (fun t ht _ => ⟨⟨jI r, (), rfl, rfl, by rw [ht]; exact hP, hD⟩, hS.F ht⟩) hS.2.2 hdg
theorem jend_z {own : List va_W} {r : Int} (hx : p.tables.exec = Jvm.exec) (hb : c.code = cc) (hr : meth.sig.returnType = some .boolean) (hlocks : meth.locks = false) (h : r = 0 ∨ r = 1) (hP : va_P D vwCl own.flatten H) (hD : va_D A own.flatten) (hS : va_S A s.heap H locs) (hdg : decode cc pc = .ok (.ireturn, 1)) :
    W p l e R s m args below meth c H locs 0 0 (MQ below (va_Qi (fun v (_ : Unit) => v = jI r) (jB D A own) A) args s 0 0 A) (F0 m pc ls [.int (jI r)]) :=
  W.zret hx hb hr (by rcases h with h | h <;> subst h <;> rfl) (fun t ht _ => ⟨⟨jI r, (), rfl, rfl, by rw [ht]; exact hP, hD⟩, hS.F ht⟩) hS.2.2 hdg
theorem jchar {r : Int} (h : 0 ≤ r ∧ r < 65536) : ∃ q : Nat, q < 65536 ∧ jI r = nI q := ⟨r.toNat, by omega, by
  show Int32.ofInt r = Int32.ofNat r.toNat
  rw [show (Int32.ofNat r.toNat) = Int32.ofInt (r.toNat : Int) from rfl, Int.toNat_of_nonneg h.1]⟩
theorem jend_c {own : List va_W} {r : Int} (hx : p.tables.exec = Jvm.exec) (hb : c.code = cc) (hr : meth.sig.returnType = some .char) (hlocks : meth.locks = false) (h : 0 ≤ r ∧ r < 65536) (hP : va_P D vwCl own.flatten H) (hD : va_D A own.flatten) (hS : va_S A s.heap H locs) (hdg : decode cc pc = .ok (.ireturn, 1)) :
    W p l e R s m args below meth c H locs 0 0 (MQ below (va_Qi (fun v (_ : Unit) => v = jI r) (jB D A own) A) args s 0 0 A) (F0 m pc ls [.int (jI r)]) :=
  W.zret hx hb hr (by obtain ⟨q, h1, h2⟩ := jchar h; rw [h2]; exact (pk_charN h1).1) (fun t ht _ => ⟨⟨jI r, (), rfl, rfl, by rw [ht]; exact hP, hD⟩, hS.F ht⟩) hS.2.2 hdg
theorem jend_v {own : List va_W} (hx : p.tables.exec = Jvm.exec) (hb : c.code = cc) (hr : meth.sig.returnType = none) (hlocks : meth.locks = false) (hP : va_P D vwCl own.flatten H) (hD : va_D A own.flatten) (hS : va_S A s.heap H locs) (hdg : decode cc pc = .ok (.return_, 1)) :
    W p l e R s m args below meth c H locs 0 0 (MQ below (va_Qv (fun (_ : Unit) => True) (jB D A own) A) args s 0 0 A) (F0 m pc ls []) :=
  W.vret hx hb hr (fun t ht _ => ⟨⟨(), rfl, trivial, by rw [ht]; exact hP, hD⟩, hS.F ht⟩) hS.2.2 hdg
-- arithmetic
theorem jx_iadd (hx : p.tables.exec = Jvm.exec) (hb : c.code = cc) {u v : Int} (hdg : decode cc pc = .ok (.iadd, 1)) (k : W p l e R s m args below meth c H locs cells slots Q (F0 m (pc + 1) ls (.int (jI (u + v)) :: rest))) : W p l e R s m args below meth c H locs cells slots Q (F0 m pc ls (.int (jI v) :: .int (jI u) :: rest)) := lv_iadd hx hb hdg (by rw [jI_add]; exact k)
theorem jx_isub (hx : p.tables.exec = Jvm.exec) (hb : c.code = cc) {u v : Int} (hdg : decode cc pc = .ok (.isub, 1)) (k : W p l e R s m args below meth c H locs cells slots Q (F0 m (pc + 1) ls (.int (jI (u - v)) :: rest))) : W p l e R s m args below meth c H locs cells slots Q (F0 m pc ls (.int (jI v) :: .int (jI u) :: rest)) := lv_isub hx hb hdg (by rw [jI_sub]; exact k)
theorem jx_imul (hx : p.tables.exec = Jvm.exec) (hb : c.code = cc) {u v : Int} (hdg : decode cc pc = .ok (.imul, 1)) (k : W p l e R s m args below meth c H locs cells slots Q (F0 m (pc + 1) ls (.int (jI (u * v)) :: rest))) : W p l e R s m args below meth c H locs cells slots Q (F0 m pc ls (.int (jI v) :: .int (jI u) :: rest)) := lv_imul hx hb hdg (by rw [jI_mul]; exact k)
theorem jx_ior (hx : p.tables.exec = Jvm.exec) (hb : c.code = cc) {u v : Int} (hdg : decode cc pc = .ok (.ior, 1)) (k : W p l e R s m args below meth c H locs cells slots Q (F0 m (pc + 1) ls (.int (jI (jor u v)) :: rest))) : W p l e R s m args below meth c H locs cells slots Q (F0 m pc ls (.int (jI v) :: .int (jI u) :: rest)) := lv_ior hx hb hdg (by rw [jor, jI_of] at k; exact k)
theorem jx_iand (hx : p.tables.exec = Jvm.exec) (hb : c.code = cc) {u v : Int} (hdg : decode cc pc = .ok (.iand, 1)) (k : W p l e R s m args below meth c H locs cells slots Q (F0 m (pc + 1) ls (.int (jI (jand u v)) :: rest))) : W p l e R s m args below meth c H locs cells slots Q (F0 m pc ls (.int (jI v) :: .int (jI u) :: rest)) := lv_iand hx hb hdg (by rw [jand, jI_of] at k; exact k)
theorem jx_ixor (hx : p.tables.exec = Jvm.exec) (hb : c.code = cc) {u v : Int} (hdg : decode cc pc = .ok (.ixor, 1)) (k : W p l e R s m args below meth c H locs cells slots Q (F0 m (pc + 1) ls (.int (jI (jxor u v)) :: rest))) : W p l e R s m args below meth c H locs cells slots Q (F0 m pc ls (.int (jI v) :: .int (jI u) :: rest)) := lv_ixor hx hb hdg (by rw [jxor, jI_of] at k; exact k)
theorem jx_ishl (hx : p.tables.exec = Jvm.exec) (hb : c.code = cc) {u v : Int} (hdg : decode cc pc = .ok (.ishl, 1)) (k : W p l e R s m args below meth c H locs cells slots Q (F0 m (pc + 1) ls (.int (jI (jshl u v)) :: rest))) : W p l e R s m args below meth c H locs cells slots Q (F0 m pc ls (.int (jI v) :: .int (jI u) :: rest)) := lv_ishl hx hb hdg (by rw [jshl, jI_of] at k; exact k)
theorem jx_ishr (hx : p.tables.exec = Jvm.exec) (hb : c.code = cc) {u v : Int} (hdg : decode cc pc = .ok (.ishr, 1)) (k : W p l e R s m args below meth c H locs cells slots Q (F0 m (pc + 1) ls (.int (jI (jshr u v)) :: rest))) : W p l e R s m args below meth c H locs cells slots Q (F0 m pc ls (.int (jI v) :: .int (jI u) :: rest)) := lv_ishr hx hb hdg (by rw [jshr, jI_of] at k; exact k)
theorem jx_iushr (hx : p.tables.exec = Jvm.exec) (hb : c.code = cc) {u v : Int} (hdg : decode cc pc = .ok (.iushr, 1)) (k : W p l e R s m args below meth c H locs cells slots Q (F0 m (pc + 1) ls (.int (jI (jushr u v)) :: rest))) : W p l e R s m args below meth c H locs cells slots Q (F0 m pc ls (.int (jI v) :: .int (jI u) :: rest)) := lv_iushr hx hb hdg (v := jI (jushr u v)) (by rw [jushr, jI_of]) k
theorem jx_irem (hx : p.tables.exec = Jvm.exec) (hb : c.code = cc) {α : Type} {u v : Int} {X : Option α} {r : α} (h : jre u v X = some r) (hdg : decode cc pc = .ok (.irem, 1)) (k : X = some r → W p l e R s m args below meth c H locs cells slots Q (F0 m (pc + 1) ls (.int (jI (u % v)) :: rest))) : W p l e R s m args below meth c H locs cells slots Q (F0 m pc ls (.int (jI v) :: .int (jI u) :: rest)) := by
  obtain ⟨⟨h1, h2, h3, h4⟩, hX⟩ := jre_i h
  have eu : jI u = nI u.toNat := by show Int32.ofInt u = Int32.ofInt (u.toNat : Int); rw [Int.toNat_of_nonneg h1]
  have ev : jI v = nI v.toNat := by show Int32.ofInt v = Int32.ofInt (v.toNat : Int); rw [Int.toNat_of_nonneg (by omega)]
  have er : jI (u % v) = nI (u.toNat % v.toNat) := by
    show Int32.ofInt (u % v) = Int32.ofInt ((u.toNat % v.toNat : Nat) : Int)
    rw [Int.natCast_emod, Int.toNat_of_nonneg h1, Int.toNat_of_nonneg (by omega)]
  refine lv_irem hx hb hdg ?_ ?_
  · rw [ev]; exact nI_ne0 (by omega) (by omega)
  · rw [eu, ev, pk_rem (by omega) (by omega) (by omega), ← er]
    exact k hX
end JX
end
section
section JY
variable {p : Program} {l : Launch} {e : Env} {R : Room} {s : State} {m : MethodId} {args : Array Value} {below : List Frame} {meth : Method} {c : Code} {H : Heap} {locs : List Loc} {cells slots : Nat} {Q : State → Prop}
variable {cc : ByteArray} {pc : Nat} {ls : Array Slot} {rest : List Value} {D : va_G} {y : Nat → ClassId} {z : Nat → Nat} {A : Nat → Prop} {a : Nat} {ws : va_W}
theorem jx_icmp_eq (hx : p.tables.exec = Jvm.exec) (hb : c.code = cc) {off : Int} {tgt : Nat} {α : Type} {u v : Int} {X Y : Option α} {r : α} (h : jck u v (if u = v then X else Y) = some r) (hdg : decode cc pc = .ok (.if_icmp .eq off, 3)) (ht : (pc : Int) + off = (tgt : Int)) (kt : X = some r → W p l e R s m args below meth c H locs cells slots Q (F0 m tgt ls rest)) (kf : Y = some r → W p l e R s m args below meth c H locs cells slots Q (F0 m (pc + 3) ls rest)) : W p l e R s m args below meth c H locs cells slots Q (F0 m pc ls (.int (jI v) :: .int (jI u) :: rest)) := by
  obtain ⟨hu, hv, h⟩ := jck_i h
  refine lv_icmp_eq hx hb hdg ht (fun q => kt ?_) (fun q => kf ?_)
  · rwa [if_pos ((jI_inj hu hv).mp q)] at h
  · rwa [if_neg (fun w => q ((jI_inj hu hv).mpr w))] at h
theorem jx_icmp_ne (hx : p.tables.exec = Jvm.exec) (hb : c.code = cc) {off : Int} {tgt : Nat} {α : Type} {u v : Int} {X Y : Option α} {r : α} (h : jck u v (if u ≠ v then X else Y) = some r) (hdg : decode cc pc = .ok (.if_icmp .ne off, 3)) (ht : (pc : Int) + off = (tgt : Int)) (kt : X = some r → W p l e R s m args below meth c H locs cells slots Q (F0 m tgt ls rest)) (kf : Y = some r → W p l e R s m args below meth c H locs cells slots Q (F0 m (pc + 3) ls rest)) : W p l e R s m args below meth c H locs cells slots Q (F0 m pc ls (.int (jI v) :: .int (jI u) :: rest)) := by
  obtain ⟨hu, hv, h⟩ := jck_i h
  refine lv_icmp_ne hx hb hdg ht (fun q => kt ?_) (fun q => kf ?_)
  · rwa [if_pos ((not_congr (jI_inj hu hv)).mp q)] at h
  · rwa [if_neg (fun w => w ((jI_inj hu hv).mp q))] at h
theorem jx_icmp_lt (hx : p.tables.exec = Jvm.exec) (hb : c.code = cc) {off : Int} {tgt : Nat} {α : Type} {u v : Int} {X Y : Option α} {r : α} (h : jck u v (if u < v then X else Y) = some r) (hdg : decode cc pc = .ok (.if_icmp .lt off, 3)) (ht : (pc : Int) + off = (tgt : Int)) (kt : X = some r → W p l e R s m args below meth c H locs cells slots Q (F0 m tgt ls rest)) (kf : Y = some r → W p l e R s m args below meth c H locs cells slots Q (F0 m (pc + 3) ls rest)) : W p l e R s m args below meth c H locs cells slots Q (F0 m pc ls (.int (jI v) :: .int (jI u) :: rest)) := by
  obtain ⟨hu, hv, h⟩ := jck_i h
  refine lv_icmp_lt hx hb hdg ht (fun q => kt ?_) (fun q => kf ?_)
  · rwa [if_pos ((jI_lt hu hv).mp q)] at h
  · rwa [if_neg (fun w => q ((jI_lt hu hv).mpr w))] at h
theorem jx_icmp_ge (hx : p.tables.exec = Jvm.exec) (hb : c.code = cc) {off : Int} {tgt : Nat} {α : Type} {u v : Int} {X Y : Option α} {r : α} (h : jck u v (if v ≤ u then X else Y) = some r) (hdg : decode cc pc = .ok (.if_icmp .ge off, 3)) (ht : (pc : Int) + off = (tgt : Int)) (kt : X = some r → W p l e R s m args below meth c H locs cells slots Q (F0 m tgt ls rest)) (kf : Y = some r → W p l e R s m args below meth c H locs cells slots Q (F0 m (pc + 3) ls rest)) : W p l e R s m args below meth c H locs cells slots Q (F0 m pc ls (.int (jI v) :: .int (jI u) :: rest)) := by
  obtain ⟨hu, hv, h⟩ := jck_i h
  refine lv_icmp_ge hx hb hdg ht (fun q => kt ?_) (fun q => kf ?_)
  · rwa [if_pos ((jI_le hv hu).mp q)] at h
  · rwa [if_neg (fun w => q ((jI_le hv hu).mpr w))] at h
theorem jx_icmp_gt (hx : p.tables.exec = Jvm.exec) (hb : c.code = cc) {off : Int} {tgt : Nat} {α : Type} {u v : Int} {X Y : Option α} {r : α} (h : jck u v (if v < u then X else Y) = some r) (hdg : decode cc pc = .ok (.if_icmp .gt off, 3)) (ht : (pc : Int) + off = (tgt : Int)) (kt : X = some r → W p l e R s m args below meth c H locs cells slots Q (F0 m tgt ls rest)) (kf : Y = some r → W p l e R s m args below meth c H locs cells slots Q (F0 m (pc + 3) ls rest)) : W p l e R s m args below meth c H locs cells slots Q (F0 m pc ls (.int (jI v) :: .int (jI u) :: rest)) := by
  obtain ⟨hu, hv, h⟩ := jck_i h
  refine lv_icmp_gt hx hb hdg ht (fun q => kt ?_) (fun q => kf ?_)
  · rwa [if_pos ((jI_lt hv hu).mp q)] at h
  · rwa [if_neg (fun w => q ((jI_lt hv hu).mpr w))] at h
theorem jx_icmp_le (hx : p.tables.exec = Jvm.exec) (hb : c.code = cc) {off : Int} {tgt : Nat} {α : Type} {u v : Int} {X Y : Option α} {r : α} (h : jck u v (if u ≤ v then X else Y) = some r) (hdg : decode cc pc = .ok (.if_icmp .le off, 3)) (ht : (pc : Int) + off = (tgt : Int)) (kt : X = some r → W p l e R s m args below meth c H locs cells slots Q (F0 m tgt ls rest)) (kf : Y = some r → W p l e R s m args below meth c H locs cells slots Q (F0 m (pc + 3) ls rest)) : W p l e R s m args below meth c H locs cells slots Q (F0 m pc ls (.int (jI v) :: .int (jI u) :: rest)) := by
  obtain ⟨hu, hv, h⟩ := jck_i h
  refine lv_icmp_le hx hb hdg ht (fun q => kt ?_) (fun q => kf ?_)
  · rwa [if_pos ((jI_le hu hv).mp q)] at h
  · rwa [if_neg (fun w => q ((jI_le hu hv).mpr w))] at h
theorem jx_if_eq (hx : p.tables.exec = Jvm.exec) (hb : c.code = cc) {off : Int} {tgt : Nat} {α : Type} {u : Int} {X Y : Option α} {r : α} (h : jck u 0 (if u = 0 then X else Y) = some r) (hdg : decode cc pc = .ok (.ifCond .eq off, 3)) (ht : (pc : Int) + off = (tgt : Int)) (kt : X = some r → W p l e R s m args below meth c H locs cells slots Q (F0 m tgt ls rest)) (kf : Y = some r → W p l e R s m args below meth c H locs cells slots Q (F0 m (pc + 3) ls rest)) : W p l e R s m args below meth c H locs cells slots Q (F0 m pc ls (.int (jI u) :: rest)) := by
  obtain ⟨hu, hv, h⟩ := jck_i h
  refine lv_if_eq hx hb hdg ht (fun q => kt ?_) (fun q => kf ?_)
  · rwa [if_pos ((jI_inj hu hv).mp q)] at h
  · rwa [if_neg (fun w => q ((jI_inj hu hv).mpr w))] at h
theorem jx_if_ne (hx : p.tables.exec = Jvm.exec) (hb : c.code = cc) {off : Int} {tgt : Nat} {α : Type} {u : Int} {X Y : Option α} {r : α} (h : jck u 0 (if u ≠ 0 then X else Y) = some r) (hdg : decode cc pc = .ok (.ifCond .ne off, 3)) (ht : (pc : Int) + off = (tgt : Int)) (kt : X = some r → W p l e R s m args below meth c H locs cells slots Q (F0 m tgt ls rest)) (kf : Y = some r → W p l e R s m args below meth c H locs cells slots Q (F0 m (pc + 3) ls rest)) : W p l e R s m args below meth c H locs cells slots Q (F0 m pc ls (.int (jI u) :: rest)) := by
  obtain ⟨hu, hv, h⟩ := jck_i h
  refine lv_if_ne hx hb hdg ht (fun q => kt ?_) (fun q => kf ?_)
  · rwa [if_pos ((not_congr (jI_inj hu hv)).mp q)] at h
  · rwa [if_neg (fun w => w ((jI_inj hu hv).mp q))] at h
theorem jx_if_lt (hx : p.tables.exec = Jvm.exec) (hb : c.code = cc) {off : Int} {tgt : Nat} {α : Type} {u : Int} {X Y : Option α} {r : α} (h : jck u 0 (if u < 0 then X else Y) = some r) (hdg : decode cc pc = .ok (.ifCond .lt off, 3)) (ht : (pc : Int) + off = (tgt : Int)) (kt : X = some r → W p l e R s m args below meth c H locs cells slots Q (F0 m tgt ls rest)) (kf : Y = some r → W p l e R s m args below meth c H locs cells slots Q (F0 m (pc + 3) ls rest)) : W p l e R s m args below meth c H locs cells slots Q (F0 m pc ls (.int (jI u) :: rest)) := by
  obtain ⟨hu, hv, h⟩ := jck_i h
  refine lv_if_lt hx hb hdg ht (fun q => kt ?_) (fun q => kf ?_)
  · rwa [if_pos ((jI_lt hu hv).mp q)] at h
  · rwa [if_neg (fun w => q ((jI_lt hu hv).mpr w))] at h
theorem jx_if_ge (hx : p.tables.exec = Jvm.exec) (hb : c.code = cc) {off : Int} {tgt : Nat} {α : Type} {u : Int} {X Y : Option α} {r : α} (h : jck u 0 (if 0 ≤ u then X else Y) = some r) (hdg : decode cc pc = .ok (.ifCond .ge off, 3)) (ht : (pc : Int) + off = (tgt : Int)) (kt : X = some r → W p l e R s m args below meth c H locs cells slots Q (F0 m tgt ls rest)) (kf : Y = some r → W p l e R s m args below meth c H locs cells slots Q (F0 m (pc + 3) ls rest)) : W p l e R s m args below meth c H locs cells slots Q (F0 m pc ls (.int (jI u) :: rest)) := by
  obtain ⟨hu, hv, h⟩ := jck_i h
  refine lv_if_ge hx hb hdg ht (fun q => kt ?_) (fun q => kf ?_)
  · rwa [if_pos ((jI_le hv hu).mp q)] at h
  · rwa [if_neg (fun w => q ((jI_le hv hu).mpr w))] at h
theorem jx_if_gt (hx : p.tables.exec = Jvm.exec) (hb : c.code = cc) {off : Int} {tgt : Nat} {α : Type} {u : Int} {X Y : Option α} {r : α} (h : jck u 0 (if 0 < u then X else Y) = some r) (hdg : decode cc pc = .ok (.ifCond .gt off, 3)) (ht : (pc : Int) + off = (tgt : Int)) (kt : X = some r → W p l e R s m args below meth c H locs cells slots Q (F0 m tgt ls rest)) (kf : Y = some r → W p l e R s m args below meth c H locs cells slots Q (F0 m (pc + 3) ls rest)) : W p l e R s m args below meth c H locs cells slots Q (F0 m pc ls (.int (jI u) :: rest)) := by
  obtain ⟨hu, hv, h⟩ := jck_i h
  refine lv_if_gt hx hb hdg ht (fun q => kt ?_) (fun q => kf ?_)
  · rwa [if_pos ((jI_lt hv hu).mp q)] at h
  · rwa [if_neg (fun w => q ((jI_lt hv hu).mpr w))] at h
theorem jx_if_le (hx : p.tables.exec = Jvm.exec) (hb : c.code = cc) {off : Int} {tgt : Nat} {α : Type} {u : Int} {X Y : Option α} {r : α} (h : jck u 0 (if u ≤ 0 then X else Y) = some r) (hdg : decode cc pc = .ok (.ifCond .le off, 3)) (ht : (pc : Int) + off = (tgt : Int)) (kt : X = some r → W p l e R s m args below meth c H locs cells slots Q (F0 m tgt ls rest)) (kf : Y = some r → W p l e R s m args below meth c H locs cells slots Q (F0 m (pc + 3) ls rest)) : W p l e R s m args below meth c H locs cells slots Q (F0 m pc ls (.int (jI u) :: rest)) := by
  obtain ⟨hu, hv, h⟩ := jck_i h
  refine lv_if_le hx hb hdg ht (fun q => kt ?_) (fun q => kf ?_)
  · rwa [if_pos ((jI_le hu hv).mp q)] at h
  · rwa [if_neg (fun w => q ((jI_le hu hv).mpr w))] at h
theorem jx_iald (hx : p.tables.exec = Jvm.exec) (hb : c.code = cc) (hM : jM D y z A s) (hP : va_P D vwCl ws H) (q0 t0 : Nat) {cA : ClassId} {n : Nat} {f : Int → Int} (ha : ws[q0]? = some (a, .inl (cA, n, .inl (jA f)))) (ht : (jT y)[t0]? = some (cA, .int)) {α : Type} {i N : Int} {X : Option α} {r : α} (hN : N = (n : Int)) (hn : n ≤ 2147483648) (h : jix N i X = some r) (hdg : decode cc pc = .ok (.iaload, 1)) (kk : X = some r → W p l e R s m args below meth c H locs cells slots Q (F0 m (pc + 1) ls (.int (jI (f i)) :: rest))) : W p l e R s m args below meth c H locs cells slots Q (F0 m pc ls (.int (jI i) :: .ref a :: rest)) := by
  subst hN
  obtain ⟨h1, h2, h⟩ := jix_i h
  refine va_iald hx hb hM.1 hP q0 t0 ha ht (jI_in h1 h2 (by omega)) hdg ?_
  rw [jA_at f h1 (by omega)]
  exact kk h
theorem jx_zald (hx : p.tables.exec = Jvm.exec) (hb : c.code = cc) (hM : jM D y z A s) (hP : va_P D vwCl ws H) (q0 t0 : Nat) {cA : ClassId} {n : Nat} {f : Int → Int} (ha : ws[q0]? = some (a, .inl (cA, n, .inl (jA f)))) (ht : (jT y)[t0]? = some (cA, .boolean)) {α : Type} {i N : Int} {X : Option α} {r : α} (hN : N = (n : Int)) (hn : n ≤ 2147483648) (h : jix N i X = some r) (hdg : decode cc pc = .ok (.baload, 1)) (kk : X = some r → W p l e R s m args below meth c H locs cells slots Q (F0 m (pc + 1) ls (.int (jI (f i)) :: rest))) : W p l e R s m args below meth c H locs cells slots Q (F0 m pc ls (.int (jI i) :: .ref a :: rest)) := by
  subst hN
  obtain ⟨h1, h2, h⟩ := jix_i h
  refine va_zald hx hb hM.1 hP q0 t0 ha ht (jI_in h1 h2 (by omega)) hdg ?_
  rw [jA_at f h1 (by omega)]
  exact kk h
theorem jx_cald (hx : p.tables.exec = Jvm.exec) (hb : c.code = cc) (hM : jM D y z A s) (hP : va_P D vwCl ws H) (q0 t0 : Nat) {cA : ClassId} {n : Nat} {f : Int → Int} (ha : ws[q0]? = some (a, .inl (cA, n, .inl (jA f)))) (ht : (jT y)[t0]? = some (cA, .char)) {α : Type} {i N : Int} {X : Option α} {r : α} (hN : N = (n : Int)) (hn : n ≤ 2147483648) (h : jix N i X = some r) (hdg : decode cc pc = .ok (.caload, 1)) (kk : X = some r → W p l e R s m args below meth c H locs cells slots Q (F0 m (pc + 1) ls (.int (jI (f i)) :: rest))) : W p l e R s m args below meth c H locs cells slots Q (F0 m pc ls (.int (jI i) :: .ref a :: rest)) := by
  subst hN
  obtain ⟨h1, h2, h⟩ := jix_i h
  refine va_cald hx hb hM.1 hP q0 t0 ha ht (jI_in h1 h2 (by omega)) hdg ?_
  rw [jA_at f h1 (by omega)]
  exact kk h
theorem jx_iast (hx : p.tables.exec = Jvm.exec) (hb : c.code = cc) (hM : jM D y z A s) (hP : va_P D vwCl ws H) (hD : va_D A ws) (hS : va_S A s.heap H locs) (q0 t0 : Nat) {cA : ClassId} {n : Nat} {f : Int → Int} (ha : ws[q0]? = some (a, .inl (cA, n, .inl (jA f)))) (ht : (jT y)[t0]? = some (cA, .int)) {α : Type} {i x N : Int} {X : Option α} {r : α} (hN : N = (n : Int)) (hn : n ≤ 2147483648) (h : jix N i X = some r) (hdg : decode cc pc = .ok (.iastore, 1)) (kk : ∀ (H1 : Heap) (locs1 : List Loc), X = some r → va_P D vwCl (ws.set q0 (a, .inl (cA, n, .inl (jA (uI f i x))))) H1 → va_D A (ws.set q0 (a, .inl (cA, n, .inl (jA (uI f i x))))) → va_S A s.heap H1 locs1 → W p l e R s m args below meth c H1 locs1 cells slots Q (F0 m (pc + 1) ls rest)) : W p l e R s m args below meth c H locs cells slots Q (F0 m pc ls (.int (jI x) :: .int (jI i) :: .ref a :: rest)) := by
  subst hN
  obtain ⟨h1, h2, h⟩ := jix_i h
  refine va_iast hx hb hM.1 hP hD hS q0 t0 ha ht (jI_in h1 h2 (by omega)) hdg (fun H1 locs1 p1 p2 p3 => ?_)
  rw [jA_set f x h1 (by omega)] at p1 p2
  exact kk H1 locs1 h p1 p2 p3
theorem jx_zast (hx : p.tables.exec = Jvm.exec) (hb : c.code = cc) (hM : jM D y z A s) (hP : va_P D vwCl ws H) (hD : va_D A ws) (hS : va_S A s.heap H locs) (q0 t0 : Nat) {cA : ClassId} {n : Nat} {f : Int → Int} (ha : ws[q0]? = some (a, .inl (cA, n, .inl (jA f)))) (ht : (jT y)[t0]? = some (cA, .boolean)) {α : Type} {i x N : Int} {X : Option α} {r : α} (hN : N = (n : Int)) (hn : n ≤ 2147483648) (h : jix N i (jbo x X) = some r) (hdg : decode cc pc = .ok (.bastore, 1)) (kk : ∀ (H1 : Heap) (locs1 : List Loc), X = some r → va_P D vwCl (ws.set q0 (a, .inl (cA, n, .inl (jA (uI f i x))))) H1 → va_D A (ws.set q0 (a, .inl (cA, n, .inl (jA (uI f i x))))) → va_S A s.heap H1 locs1 → W p l e R s m args below meth c H1 locs1 cells slots Q (F0 m (pc + 1) ls rest)) : W p l e R s m args below meth c H locs cells slots Q (F0 m pc ls (.int (jI x) :: .int (jI i) :: .ref a :: rest)) := by
  subst hN
  obtain ⟨h1, h2, h⟩ := jix_i h
  obtain ⟨hz, h⟩ := jbo_i h
  refine va_zast hx hb hM.1 hP hD hS q0 t0 ha ht (jI_in h1 h2 (by omega)) hdg (fun H1 locs1 p1 p2 p3 => ?_)
  have e : vp_nar .boolean (jI x) = jI x := by rcases hz with q | q <;> subst q <;> rfl
  rw [e] at p1 p2
  rw [jA_set f x h1 (by omega)] at p1 p2
  exact kk H1 locs1 h p1 p2 p3
theorem jx_cast (hx : p.tables.exec = Jvm.exec) (hb : c.code = cc) (hM : jM D y z A s) (hP : va_P D vwCl ws H) (hD : va_D A ws) (hS : va_S A s.heap H locs) (q0 t0 : Nat) {cA : ClassId} {n : Nat} {f : Int → Int} (ha : ws[q0]? = some (a, .inl (cA, n, .inl (jA f)))) (ht : (jT y)[t0]? = some (cA, .char)) {α : Type} {i x N : Int} {X : Option α} {r : α} (hN : N = (n : Int)) (hn : n ≤ 2147483648) (h : jix N i (jch x X) = some r) (hdg : decode cc pc = .ok (.castore, 1)) (kk : ∀ (H1 : Heap) (locs1 : List Loc), X = some r → va_P D vwCl (ws.set q0 (a, .inl (cA, n, .inl (jA (uI f i x))))) H1 → va_D A (ws.set q0 (a, .inl (cA, n, .inl (jA (uI f i x))))) → va_S A s.heap H1 locs1 → W p l e R s m args below meth c H1 locs1 cells slots Q (F0 m (pc + 1) ls rest)) : W p l e R s m args below meth c H locs cells slots Q (F0 m pc ls (.int (jI x) :: .int (jI i) :: .ref a :: rest)) := by
  subst hN
  obtain ⟨h1, h2, h⟩ := jix_i h
  obtain ⟨hz, h⟩ := jch_i h
  refine va_cast hx hb hM.1 hP hD hS q0 t0 ha ht (jI_in h1 h2 (by omega)) hdg (fun H1 locs1 p1 p2 p3 => ?_)
  have e : vp_nar .char (jI x) = jI x := by obtain ⟨q, h3, h4⟩ := jchar hz; rw [h4]; unfold vp_nar; rw [(pk_charN h3).1]
  rw [e] at p1 p2
  rw [jA_set f x h1 (by omega)] at p1 p2
  exact kk H1 locs1 h p1 p2 p3
theorem jx_sald (hx : p.tables.exec = Jvm.exec) (hb : c.code = cc) {t : Nat} {g : Nat → Int} (hT : va_T .int t 4 (fun k => .int (jI (g k))) A s s.heap) (hS : va_S A s.heap H locs) {α : Type} {i N : Int} {X : Option α} {r : α} (hN : N = 4) (h : jix N i X = some r) (hdg : decode cc pc = .ok (.iaload, 1)) (kk : X = some r → W p l e R s m args below meth c H locs cells slots Q (F0 m (pc + 1) ls (.int (jI (g i.toNat)) :: rest))) : W p l e R s m args below meth c H locs cells slots Q (F0 m pc ls (.int (jI i) :: .ref t :: rest)) := by
  subst hN
  obtain ⟨h1, h2, h⟩ := jix_i h
  exact va_ti (v := .int (jI (g i.toNat))) hx hb hT hS (jI_in h1 (by omega) (by omega)) (by rw [jI_nat h1 (by omega)]) hdg (kk h)
theorem jx_mmax (hx : p.tables.exec = Jvm.exec) (hb : c.code = cc) (hml : c.maxLocals = ls.size) {own : String} {index : Nat} (hown : s.vm.findClass own = some m.cls) (hlink : (Cond.methodLink own index Lib.Math.max.name).before args s = true) (hstat : (Cond.static Lib.Math.max.name).before args s = true) (hini : (Cond.initialized "java/lang/Math").before args s = true) (hcode : (Cond.code Lib.Math.max.name Lib.Math.max.code 2 (some .int)).before args s = true) (hframes : 1 ≤ R.frames) (hlocals : (rest.map fun v => v.category).sum + 13 ≤ R.locals) (hc : cells ≤ R.cells) (hs : slots ≤ R.slots) {α : Type} {u v : Int} {X : Option α} {r : α} (h : jck u v X = some r) (hdg : decode cc pc = .ok (.invokestatic index, 3)) (kk : X = some r → W p l e R s m args below meth c H locs cells slots Q (F0 m (pc + 3) ls (.int (jI (jmax u v)) :: rest))) : W p l e R s m args below meth c H locs cells slots Q (F0 m pc ls (.int (jI v) :: .int (jI u) :: rest)) := by
  obtain ⟨hu, hv, h⟩ := jck_i h
  refine va_mmax hx hb hml hown hlink hstat hini hcode hframes hlocals hc hs hdg ?_
  have q : (if jI u < jI v then jI v else jI u) = jI (jmax u v) := by
    unfold jmax
    by_cases c9 : u < v
    · rw [if_pos c9, if_pos ((jI_lt hu hv).mpr c9)]
    · rw [if_neg c9, if_neg (fun w => c9 ((jI_lt hu hv).mp w))]
  rw [q]
  exact kk h
theorem jx_mmin (hx : p.tables.exec = Jvm.exec) (hb : c.code = cc) (hml : c.maxLocals = ls.size) {own : String} {index : Nat} (hown : s.vm.findClass own = some m.cls) (hlink : (Cond.methodLink own index Lib.Math.min.name).before args s = true) (hstat : (Cond.static Lib.Math.min.name).before args s = true) (hini : (Cond.initialized "java/lang/Math").before args s = true) (hcode : (Cond.code Lib.Math.min.name Lib.Math.min.code 2 (some .int)).before args s = true) (hframes : 1 ≤ R.frames) (hlocals : (rest.map fun v => v.category).sum + 13 ≤ R.locals) (hc : cells ≤ R.cells) (hs : slots ≤ R.slots) {α : Type} {u v : Int} {X : Option α} {r : α} (h : jck u v X = some r) (hdg : decode cc pc = .ok (.invokestatic index, 3)) (kk : X = some r → W p l e R s m args below meth c H locs cells slots Q (F0 m (pc + 3) ls (.int (jI (jmin u v)) :: rest))) : W p l e R s m args below meth c H locs cells slots Q (F0 m pc ls (.int (jI v) :: .int (jI u) :: rest)) := by
  obtain ⟨hu, hv, h⟩ := jck_i h
  refine va_mmin hx hb hml hown hlink hstat hini hcode hframes hlocals hc hs hdg ?_
  have q : (if jI v < jI u then jI v else jI u) = jI (jmin u v) := by
    unfold jmin
    by_cases c9 : v < u
    · rw [if_pos c9, if_pos ((jI_lt hv hu).mpr c9)]
    · rw [if_neg c9, if_neg (fun w => c9 ((jI_lt hv hu).mp w))]
  rw [q]
  exact kk h
theorem jx_tabO (hx : p.tables.exec = Jvm.exec) (hb : c.code = cc) {dflt lo hi : Int} {offs : Array Int} {len tgt : Nat} {u : Int} (hu : rg u) (hdg : decode cc pc = .ok (.tableswitch dflt lo hi offs, len)) (h : u < lo ∨ hi < u) (ht : (pc : Int) + dflt = (tgt : Int)) (k : W p l e R s m args below meth c H locs cells slots Q (F0 m tgt ls rest)) : W p l e R s m args below meth c H locs cells slots Q (F0 m pc ls (.int (jI u) :: rest)) := lv_tableOut hx hb hdg (by rw [jI_toInt hu]; exact h) ht k
theorem jx_tabI (hx : p.tables.exec = Jvm.exec) (hb : c.code = cc) {dflt lo hi off : Int} {offs : Array Int} {len tgt : Nat} {u : Int} (hu : rg u) (hdg : decode cc pc = .ok (.tableswitch dflt lo hi offs, len)) (v : Int) (hv : u = v) (h1 : ¬ v < lo) (h2 : ¬ hi < v) (ho : offs[(v - lo).toNat]? = some off) (ht : (pc : Int) + off = (tgt : Int)) (k : W p l e R s m args below meth c H locs cells slots Q (F0 m tgt ls rest)) : W p l e R s m args below meth c H locs cells slots Q (F0 m pc ls (.int (jI u) :: rest)) := by
  subst hv
  exact lv_tableIn hx hb hdg (by rw [jI_toInt hu]; exact h1) (by rw [jI_toInt hu]; exact h2) (by rw [jI_toInt hu]; exact ho) ht k
def jlushr (x : Int64) (k : Int) : Int64 := (x.toUInt64 >>> ((jI k).toInt64.toUInt64 &&& Int64.toUInt64 63)).toInt64
def jlshl (x : Int64) (k : Int) : Int64 := x <<< ((jI k).toInt64 &&& 63)
def jl2i (x : Int64) : Int := x.toInt32.toInt
def jlcmp (x w : Int64) : Int := (lg_cmp x w).toInt
def jcpy (f g : Int → Int) (n : Int) : Int → Int := fun q => if 0 ≤ q ∧ q < n then f q else g q
theorem jx_lcmp (hx : p.tables.exec = Jvm.exec) (hb : c.code = cc) {u v : Int64} (hdg : decode cc pc = .ok (.lcmp, 1)) (k : W p l e R s m args below meth c H locs cells slots Q (F0 m (pc + 1) ls (.int (jI (jlcmp u v)) :: rest))) : W p l e R s m args below meth c H locs cells slots Q (F0 m pc ls (.long v :: .long u :: rest)) := W.lcmp hx hb hdg (by rw [jlcmp, jI_of] at k; exact k)
theorem jx_i2c (hx : p.tables.exec = Jvm.exec) (hb : c.code = cc) {α : Type} {u : Int} {X : Option α} {r : α} (h : jch u X = some r) (hdg : decode cc pc = .ok (.i2c, 1)) (k : X = some r → W p l e R s m args below meth c H locs cells slots Q (F0 m (pc + 1) ls (.int (jI u) :: rest))) : W p l e R s m args below meth c H locs cells slots Q (F0 m pc ls (.int (jI u) :: rest)) := by
  obtain ⟨hz, h⟩ := jch_i h
  refine lv_i2c (v := jI u) hx hb hdg ?_ (k h)
  obtain ⟨q, h3, h4⟩ := jchar hz
  rw [h4, pk_char, pk_tn (by omega), Nat.mod_eq_of_lt h3]
theorem jx_aald (hx : p.tables.exec = Jvm.exec) (hb : c.code = cc) (hM : jM D y z A s) (hP : va_P D vwCl ws H) (q0 t0 : Nat) {cA : ClassId} {n : Nat} {f : Nat → Option Nat} {a2 : Nat} (k : Nat) (ha : ws[q0]? = some (a, .inl (cA, n, .inr (.inr (.inr (.inr f)))))) (ht : (jT y)[t0]? = some (cA, .object RX3)) (hf : f k = some a2) (hk : k < n) (hn : n ≤ 2147483648) {i : Int} (hi : i = (k : Int)) (hdg : decode cc pc = .ok (.aaload, 1)) (kk : W p l e R s m args below meth c H locs cells slots Q (F0 m (pc + 1) ls (.ref a2 :: rest))) : W p l e R s m args below meth c H locs cells slots Q (F0 m pc ls (.int (jI i) :: .ref a :: rest)) := by
  subst hi
  refine va_aldq hx hb hM.1 hP q0 t0 ha ht (jI_in (by omega) (by omega) (by omega)) hdg ?_
  rw [jI_nat (by omega) (by omega), Int.toNat_natCast, hf]
  exact kk
theorem jx_copy4 (hx : p.tables.exec = Jvm.exec) (hb : c.code = cc) (hml : c.maxLocals = ls.size) {own : String} {index : Nat} (hown : s.vm.findClass own = some m.cls) (hlink : (Cond.methodLink own index arraycopyName).before args s = true) (hnat : (Cond.native arraycopyName).before args s = true) (hstat : (Cond.static arraycopyName).before args s = true) (hini : (Cond.initialized "java/lang/System").before args s = true) (hM : jM D y z A s) (hP : va_P D vwCl ws H) (hD : va_D A ws) (hS : va_S A s.heap H locs) (q0 q1 : Nat) {a0 : Nat} {f g : Int → Int} (ha0 : ws[q0]? = some (a0, .inl (y 0, 4, .inl (jA f)))) (ha1 : ws[q1]? = some (a, .inl (y 0, 4, .inl (jA g)))) (hframes : 1 ≤ R.frames) (hlocals : (rest.map fun v => v.category).sum + (nativeFrameWords "java/lang/System" "arraycopy" 5 + 11) ≤ R.locals) (hdg : decode cc pc = .ok (.invokestatic index, 3)) (kk : ∀ (H1 : Heap) (locs1 : List Loc), va_P D vwCl (ws.set q1 (a, .inl (y 0, 4, .inl (jA (jcpy f g 4))))) H1 → va_D A (ws.set q1 (a, .inl (y 0, 4, .inl (jA (jcpy f g 4))))) → va_S A s.heap H1 locs1 → W p l e R s m args below meth c H1 locs1 cells slots Q (F0 m (pc + 3) ls rest)) : W p l e R s m args below meth c H locs cells slots Q (F0 m pc ls (.int (jI 4) :: .int (jI 0) :: .ref a :: .int (jI 0) :: .ref a0 :: rest)) := by
  refine va_copyi hx hb hml hown hlink hnat hstat hini hM.1 hP hD hS q0 q1 0 0 (ty := .int) ha0 ha1 rfl rfl rfl (by decide +kernel) (by decide +kernel) (by decide +kernel) (by decide +kernel) (by decide +kernel) (fun _ _ => rfl) hframes hlocals hdg (fun H1 locs1 p1 p2 p3 => ?_)
  have e : va_cpy (jA f) (jA g) (jI 0).toNatClampNeg (jI 0).toNatClampNeg (jI 4).toNatClampNeg = jA (jcpy f g 4) := by
    funext k
    rw [show (jI 0).toNatClampNeg = 0 from by decide +kernel, show (jI 4).toNatClampNeg = 4 from by decide +kernel]
    by_cases hk : k < 4
    · rw [pk_cpy_in (Nat.zero_le _) (by omega)]
      show jI (f ((0 + (k - 0) : Nat) : Int)) = jI (if 0 ≤ (k : Int) ∧ (k : Int) < 4 then f k else g k)
      rw [if_pos (by omega), show 0 + (k - 0) = k by omega]
    · rw [pk_cpy_out (Or.inr (by omega))]
      show jI (g (k : Int)) = jI (if 0 ≤ (k : Int) ∧ (k : Int) < 4 then f k else g k)
      rw [if_neg (by omega)]
  rw [e] at p1 p2
  exact kk H1 locs1 p1 p2 p3
theorem jx_cvi {cd : ByteArray} {nL index maxL : Nat} {Ts wsc ws1 : List Cond} {own C : String} {ym : MethodName} {bytes : ByteArray} {ret : Option FieldType} {rm : Room} {b : Addr} {As st0 : List Value} {cs wr cw cw1 cs1 : List va_W} {rv : Int}
    (S : CallFix p m c cd nL s args Ts own) (hM : jM D y z A s) (hP : va_P D vwCl cs.flatten H) (hD : va_D A cs.flatten) (hS : va_S A s.heap H locs) (hA : ∀ q, s.heap.size ≤ q → A q)
    (hp : cs.Perm (wr ++ cw)) (hp1 : (wr ++ cw1).Perm cs1) (hc : jCI l D y z ym wsc rm (.ref b :: As) cw cw1 rv)
    (n : Nat) (hT : GoodIn Ts (wsV own index C ym wsc)) (hw : wsc = Cond.code ym bytes maxL ret :: ws1) (hr : rm.cells = 0 ∧ rm.slots = 0) (hd : ym.cls = C ∧ ym.cls ≠ "java/lang/invoke/MethodHandle" ∧ ym.cls ≠ "java/lang/invoke/VarHandle" ∧ (parseMethodDescriptor ym.desc).map (fun d => d.parameters.length) = some n) (hR : rm.frames + 1 ≤ R.frames ∧ 8 + (maxL + 11) + rm.locals ≤ R.locals)
    (q0 ci : Nat) {fs : List Value} (he : cw.flatten[q0]? = some (b, .inr (ci, fs))) {q : vw_C} (hci : vwCl[ci]? = some q) (hC : q.1 = C) (hst : st0 = As.reverse ++ .ref b :: rest) (hn : As.length = n) (hz : ls.size = nL) (hrm : (rest.map fun v => v.category).sum ≤ 8) (hdg : decode cd pc = .ok (.invokevirtual index, 3)) (hf : cells ≤ R.cells ∧ slots ≤ R.slots)
    (k : ∀ (H1 : Heap) (locs1 : List Loc), va_P D vwCl cs1.flatten H1 → va_D A cs1.flatten → va_S A s.heap H1 locs1 → W p l e R s m args below meth c H1 locs1 cells slots Q (F0 m (pc + 3) ls (.int (jI rv) :: rest))) : W p l e R s m args below meth c H locs cells slots Q (F0 m pc ls st0) := by
  subst hst
  have hP2 := jP_perm hp hP
  have hD2 := jD_perm hp.flatten hD
  rw [List.flatten_append] at hP2 hD2
  have hPc : va_P D vwCl cw.flatten H := fun k9 q9 h9 => by
    obtain ⟨j, hj⟩ := List.getElem?_of_mem (List.mem_append_right wr.flatten (List.mem_of_getElem? h9))
    exact hP2 j q9 hj
  have hDc : va_D A cw.flatten := by
    rw [jD_iff] at hD2 ⊢
    rw [List.map_append, List.nodup_append] at hD2
    exact ⟨hD2.1.2.1, fun q9 h9 => hD2.2 q9 (List.mem_append_right _ h9)⟩
  have hFc : ∀ q9, va_A cw.flatten H.size q9 → A q9 := fun q9 h9 => by
    rcases h9 with ⟨k9, e9, h9⟩ | h9
    · exact hDc.2 k9 _ h9
    · exact hA q9 (Nat.le_trans hS.1 h9)
  refine va_calli (va_runV (As := As) (rest := rest) S (hc H.size) (cwV n S.2.2.2.2 hT hw hr.1 hr.2 hd hR) ⟨jblind _ D y z H.size cw, by subst hC; exact va_recv hM.1 hPc hci he, fun U hU hW => ⟨rfl, by rw [hU], by rw [hU]; exact hPc, hDc.weaken (fun _ _ _ _ => trivial), hM.there hS hFc hU hW⟩⟩ rfl hn hz rfl (lv_room hrm) hdg hf) hS (fun q9 _ h9 => hFc q9 h9) hFc (fun r9 u9 t9 H9 locs9 ht9 _ hw9 hB9 hz9 hk9 hS9 => ?_)
  subst hw9
  have hP9 : va_P D vwCl cw1.flatten H9 := by rw [← ht9]; exact hB9.1
  have hJ := jch_join hP2 hD2 hk9 hFc hP9 hB9.2
  rw [← List.flatten_append] at hJ
  exact k H9 locs9 (jP_perm hp1 hJ.1) (jD_perm hp1.flatten hJ.2) hS9
theorem jx_cvv {cd : ByteArray} {nL index maxL : Nat} {Ts wsc ws1 : List Cond} {own C : String} {ym : MethodName} {bytes : ByteArray} {ret : Option FieldType} {rm : Room} {b : Addr} {As st0 : List Value} {cs wr cw cw1 cs1 : List va_W} {rv : Int}
    (S : CallFix p m c cd nL s args Ts own) (hM : jM D y z A s) (hP : va_P D vwCl cs.flatten H) (hD : va_D A cs.flatten) (hS : va_S A s.heap H locs) (hA : ∀ q, s.heap.size ≤ q → A q)
    (hp : cs.Perm (wr ++ cw)) (hp1 : (wr ++ cw1).Perm cs1) (hc : jCV l D y z ym wsc rm (.ref b :: As) cw cw1)
    (n : Nat) (hT : GoodIn Ts (wsV own index C ym wsc)) (hw : wsc = Cond.code ym bytes maxL ret :: ws1) (hr : rm.cells = 0 ∧ rm.slots = 0) (hd : ym.cls = C ∧ ym.cls ≠ "java/lang/invoke/MethodHandle" ∧ ym.cls ≠ "java/lang/invoke/VarHandle" ∧ (parseMethodDescriptor ym.desc).map (fun d => d.parameters.length) = some n) (hR : rm.frames + 1 ≤ R.frames ∧ 8 + (maxL + 11) + rm.locals ≤ R.locals)
    (q0 ci : Nat) {fs : List Value} (he : cw.flatten[q0]? = some (b, .inr (ci, fs))) {q : vw_C} (hci : vwCl[ci]? = some q) (hC : q.1 = C) (hst : st0 = As.reverse ++ .ref b :: rest) (hn : As.length = n) (hz : ls.size = nL) (hrm : (rest.map fun v => v.category).sum ≤ 8) (hdg : decode cd pc = .ok (.invokevirtual index, 3)) (hf : cells ≤ R.cells ∧ slots ≤ R.slots)
    (k : ∀ (H1 : Heap) (locs1 : List Loc), va_P D vwCl cs1.flatten H1 → va_D A cs1.flatten → va_S A s.heap H1 locs1 → W p l e R s m args below meth c H1 locs1 cells slots Q (F0 m (pc + 3) ls rest)) : W p l e R s m args below meth c H locs cells slots Q (F0 m pc ls st0) := by
  subst hst
  have hP2 := jP_perm hp hP
  have hD2 := jD_perm hp.flatten hD
  rw [List.flatten_append] at hP2 hD2
  have hPc : va_P D vwCl cw.flatten H := fun k9 q9 h9 => by
    obtain ⟨j, hj⟩ := List.getElem?_of_mem (List.mem_append_right wr.flatten (List.mem_of_getElem? h9))
    exact hP2 j q9 hj
  have hDc : va_D A cw.flatten := by
    rw [jD_iff] at hD2 ⊢
    rw [List.map_append, List.nodup_append] at hD2
    exact ⟨hD2.1.2.1, fun q9 h9 => hD2.2 q9 (List.mem_append_right _ h9)⟩
  have hFc : ∀ q9, va_A cw.flatten H.size q9 → A q9 := fun q9 h9 => by
    rcases h9 with ⟨k9, e9, h9⟩ | h9
    · exact hDc.2 k9 _ h9
    · exact hA q9 (Nat.le_trans hS.1 h9)
  refine va_callv (va_runV (As := As) (rest := rest) S (hc H.size) (cwV n S.2.2.2.2 hT hw hr.1 hr.2 hd hR) ⟨jblind _ D y z H.size cw, by subst hC; exact va_recv hM.1 hPc hci he, fun U hU hW => ⟨rfl, by rw [hU], by rw [hU]; exact hPc, hDc.weaken (fun _ _ _ _ => trivial), hM.there hS hFc hU hW⟩⟩ rfl hn hz rfl (lv_room hrm) hdg hf) hS (fun q9 _ h9 => hFc q9 h9) hFc (fun u9 t9 H9 locs9 ht9 _ _ hB9 hz9 hk9 hS9 => ?_)
  have hP9 : va_P D vwCl cw1.flatten H9 := by rw [← ht9]; exact hB9.1
  have hJ := jch_join hP2 hD2 hk9 hFc hP9 hB9.2
  rw [← List.flatten_append] at hJ
  exact k H9 locs9 (jP_perm hp1 hJ.1) (jD_perm hp1.flatten hJ.2) hS9
theorem jx_csi {cd : ByteArray} {nL index maxL : Nat} {Ts wsc ws1 : List Cond} {own C : String} {ym : MethodName} {bytes : ByteArray} {ret : Option FieldType} {rm : Room} {b : Addr} {As st0 : List Value} {cs wr cw cw1 cs1 : List va_W} {rv : Int}
    (S : CallFix p m c cd nL s args Ts own) (hM : jM D y z A s) (hP : va_P D vwCl cs.flatten H) (hD : va_D A cs.flatten) (hS : va_S A s.heap H locs) (hA : ∀ q, s.heap.size ≤ q → A q)
    (hp : cs.Perm (wr ++ cw)) (hp1 : (wr ++ cw1).Perm cs1) (hc : jCI l D y z ym wsc rm As cw cw1 rv)
    (n : Nat) (hcw : CallB R s args own index ym bytes maxL ret wsc rm 0 0 n ∧ (Cond.static ym).before args s = true) (hw : wsc = Cond.code ym bytes maxL ret :: ws1) (hr : rm.cells = 0 ∧ rm.slots = 0)  (hR : rm.frames + 1 ≤ R.frames ∧ 8 + (maxL + 11) + rm.locals ≤ R.locals)
     (hst : st0 = As.reverse ++ rest) (hn : As.length = n) (hz : ls.size = nL) (hrm : (rest.map fun v => v.category).sum ≤ 8) (hdg : decode cd pc = .ok (.invokestatic index, 3)) (hf : cells ≤ R.cells ∧ slots ≤ R.slots)
    (k : ∀ (H1 : Heap) (locs1 : List Loc), va_P D vwCl cs1.flatten H1 → va_D A cs1.flatten → va_S A s.heap H1 locs1 → W p l e R s m args below meth c H1 locs1 cells slots Q (F0 m (pc + 3) ls (.int (jI rv) :: rest))) : W p l e R s m args below meth c H locs cells slots Q (F0 m pc ls st0) := by
  subst hst
  have hP2 := jP_perm hp hP
  have hD2 := jD_perm hp.flatten hD
  rw [List.flatten_append] at hP2 hD2
  have hPc : va_P D vwCl cw.flatten H := fun k9 q9 h9 => by
    obtain ⟨j, hj⟩ := List.getElem?_of_mem (List.mem_append_right wr.flatten (List.mem_of_getElem? h9))
    exact hP2 j q9 hj
  have hDc : va_D A cw.flatten := by
    rw [jD_iff] at hD2 ⊢
    rw [List.map_append, List.nodup_append] at hD2
    exact ⟨hD2.1.2.1, fun q9 h9 => hD2.2 q9 (List.mem_append_right _ h9)⟩
  have hFc : ∀ q9, va_A cw.flatten H.size q9 → A q9 := fun q9 h9 => by
    rcases h9 with ⟨k9, e9, h9⟩ | h9
    · exact hDc.2 k9 _ h9
    · exact hA q9 (Nat.le_trans hS.1 h9)
  refine va_calli (va_runS (As := As) (rest := rest) S (hc H.size) hcw ⟨jblind _ D y z H.size cw, fun U hU hW => ⟨rfl, by rw [hU], by rw [hU]; exact hPc, hDc.weaken (fun _ _ _ _ => trivial), hM.there hS hFc hU hW⟩⟩ rfl hn hz rfl (lv_room hrm) hdg hf) hS (fun q9 _ h9 => hFc q9 h9) hFc (fun r9 u9 t9 H9 locs9 ht9 _ hw9 hB9 hz9 hk9 hS9 => ?_)
  subst hw9
  have hP9 : va_P D vwCl cw1.flatten H9 := by rw [← ht9]; exact hB9.1
  have hJ := jch_join hP2 hD2 hk9 hFc hP9 hB9.2
  rw [← List.flatten_append] at hJ
  exact k H9 locs9 (jP_perm hp1 hJ.1) (jD_perm hp1.flatten hJ.2) hS9
theorem jx_csv {cd : ByteArray} {nL index maxL : Nat} {Ts wsc ws1 : List Cond} {own C : String} {ym : MethodName} {bytes : ByteArray} {ret : Option FieldType} {rm : Room} {b : Addr} {As st0 : List Value} {cs wr cw cw1 cs1 : List va_W} {rv : Int}
    (S : CallFix p m c cd nL s args Ts own) (hM : jM D y z A s) (hP : va_P D vwCl cs.flatten H) (hD : va_D A cs.flatten) (hS : va_S A s.heap H locs) (hA : ∀ q, s.heap.size ≤ q → A q)
    (hp : cs.Perm (wr ++ cw)) (hp1 : (wr ++ cw1).Perm cs1) (hc : jCV l D y z ym wsc rm As cw cw1)
    (n : Nat) (hcw : CallB R s args own index ym bytes maxL ret wsc rm 0 0 n ∧ (Cond.static ym).before args s = true) (hw : wsc = Cond.code ym bytes maxL ret :: ws1) (hr : rm.cells = 0 ∧ rm.slots = 0)  (hR : rm.frames + 1 ≤ R.frames ∧ 8 + (maxL + 11) + rm.locals ≤ R.locals)
     (hst : st0 = As.reverse ++ rest) (hn : As.length = n) (hz : ls.size = nL) (hrm : (rest.map fun v => v.category).sum ≤ 8) (hdg : decode cd pc = .ok (.invokestatic index, 3)) (hf : cells ≤ R.cells ∧ slots ≤ R.slots)
    (k : ∀ (H1 : Heap) (locs1 : List Loc), va_P D vwCl cs1.flatten H1 → va_D A cs1.flatten → va_S A s.heap H1 locs1 → W p l e R s m args below meth c H1 locs1 cells slots Q (F0 m (pc + 3) ls rest)) : W p l e R s m args below meth c H locs cells slots Q (F0 m pc ls st0) := by
  subst hst
  have hP2 := jP_perm hp hP
  have hD2 := jD_perm hp.flatten hD
  rw [List.flatten_append] at hP2 hD2
  have hPc : va_P D vwCl cw.flatten H := fun k9 q9 h9 => by
    obtain ⟨j, hj⟩ := List.getElem?_of_mem (List.mem_append_right wr.flatten (List.mem_of_getElem? h9))
    exact hP2 j q9 hj
  have hDc : va_D A cw.flatten := by
    rw [jD_iff] at hD2 ⊢
    rw [List.map_append, List.nodup_append] at hD2
    exact ⟨hD2.1.2.1, fun q9 h9 => hD2.2 q9 (List.mem_append_right _ h9)⟩
  have hFc : ∀ q9, va_A cw.flatten H.size q9 → A q9 := fun q9 h9 => by
    rcases h9 with ⟨k9, e9, h9⟩ | h9
    · exact hDc.2 k9 _ h9
    · exact hA q9 (Nat.le_trans hS.1 h9)
  refine va_callv (va_runS (As := As) (rest := rest) S (hc H.size) hcw ⟨jblind _ D y z H.size cw, fun U hU hW => ⟨rfl, by rw [hU], by rw [hU]; exact hPc, hDc.weaken (fun _ _ _ _ => trivial), hM.there hS hFc hU hW⟩⟩ rfl hn hz rfl (lv_room hrm) hdg hf) hS (fun q9 _ h9 => hFc q9 h9) hFc (fun u9 t9 H9 locs9 ht9 _ _ hB9 hz9 hk9 hS9 => ?_)
  have hP9 : va_P D vwCl cw1.flatten H9 := by rw [← ht9]; exact hB9.1
  have hJ := jch_join hP2 hD2 hk9 hFc hP9 hB9.2
  rw [← List.flatten_append] at hJ
  exact k H9 locs9 (jP_perm hp1 hJ.1) (jD_perm hp1.flatten hJ.2) hS9
theorem jx_cni {cd : ByteArray} {nL index maxL : Nat} {Ts wsc ws1 : List Cond} {own host : String} {ym : MethodName} {bytes : ByteArray} {ret : Option FieldType} {rm : Room} {As st0 : List Value} {cs : List va_W} {rv : Int}
    (S : CallFix p m c cd nL s args Ts own) (hM : jM D y z A s) (hP : va_P D vwCl cs.flatten H) (hD : va_D A cs.flatten) (hS : va_S A s.heap H locs) (hA : ∀ q, s.heap.size ≤ q → A q)
    (hc : jCI l D y z ym wsc rm As [] [] rv)
    (n : Nat) (hcw : va_CN R s args own index ym host bytes maxL ret wsc rm 0 0 n ∧ (Cond.static ym).before args s = true ∧ True)
    (hst : st0 = As.reverse ++ rest) (hn : As.length = n) (hz : ls.size = nL) (hrm : (rest.map fun v => v.category).sum ≤ 8) (hdg : decode cd pc = .ok (.invokestatic index, 3)) (hf : cells ≤ R.cells ∧ slots ≤ R.slots)
    (k : ∀ (H1 : Heap) (locs1 : List Loc), va_P D vwCl cs.flatten H1 → va_D A cs.flatten → va_S A s.heap H1 locs1 → W p l e R s m args below meth c H1 locs1 cells slots Q (F0 m (pc + 3) ls (.int (jI rv) :: rest))) : W p l e R s m args below meth c H locs cells slots Q (F0 m pc ls st0) := by
  subst hst
  have hFc : ∀ q9, va_A [] H.size q9 → A q9 := fun q9 h9 => by
    rcases h9 with ⟨k9, e9, h9⟩ | h9
    · simp at h9
    · exact hA q9 (Nat.le_trans hS.1 h9)
  refine va_calli (va_runSN (As := As) (rest := rest) S (hc H.size) hcw ⟨jblind _ D y z H.size [], fun U hU hW => ⟨rfl, by rw [hU], fun k9 q9 h9 => by simp at h9, ⟨fun i j p q h9 => by simp at h9, fun k9 q9 h9 => by simp at h9⟩, hM.there hS hFc hU hW⟩⟩ rfl hn hz rfl (lv_room hrm) hdg hf) hS (fun q9 _ h9 => hFc q9 h9) hFc (fun r9 u9 t9 H9 locs9 ht9 _ hw9 hB9 hz9 hk9 hS9 => ?_)
  subst hw9
  refine k H9 locs9 (hP.kept (fun k8 q8 h8 => hk9 q8.1 (hP k8 q8 h8).lt (fun h => ?_))) hD hS9
  rcases h with ⟨k9, e9, h9⟩ | h9
  · simp at h9
  · exact absurd (hP k8 q8 h8).lt (by omega)
end JY
end
section
set_option maxRecDepth 20000 in
theorem ggX0_init_X3_init : GoodIn wsX0_init wsX3_init := goodIn_r _ [10, 11, 2, 3, 12, 13, 14, 15, 16, 17, 18, 19, 20, 21, 22, 23, 27, 28, 29, 30, 31, 32, 33] (by decide +kernel) (by decide +kernel)
set_option maxRecDepth 20000 in
theorem gX0_init_X3_init : GoodIn wsX0_init (wsX3_init) := ggX0_init_X3_init
theorem dX0_init_0 : decode cX0_init 0 = .ok (.aload_n 0, 1) := by decide +kernel
theorem dX0_init_1 : decode cX0_init 1 = .ok (.invokespecial 3, 3) := by decide +kernel
theorem dX0_init_4 : decode cX0_init 4 = .ok (.aload_n 0, 1) := by decide +kernel
theorem dX0_init_5 : decode cX0_init 5 = .ok (.bipush 6, 2) := by decide +kernel
theorem dX0_init_7 : decode cX0_init 7 = .ok (.anewarray 9, 3) := by decide +kernel
theorem dX0_init_10 : decode cX0_init 10 = .ok (.putfield 11, 3) := by decide +kernel
theorem dX0_init_13 : decode cX0_init 13 = .ok (.iconst 0, 1) := by decide +kernel
theorem dX0_init_14 : decode cX0_init 14 = .ok (.istore_n 1, 1) := by decide +kernel
theorem dX0_init_15 : decode cX0_init 15 = .ok (.iload_n 1, 1) := by decide +kernel
theorem dX0_init_16 : decode cX0_init 16 = .ok (.bipush 6, 2) := by decide +kernel
theorem dX0_init_18 : decode cX0_init 18 = .ok (.if_icmp .ge 22, 3) := by decide +kernel
theorem dX0_init_21 : decode cX0_init 21 = .ok (.aload_n 0, 1) := by decide +kernel
theorem dX0_init_22 : decode cX0_init 22 = .ok (.getfield 11, 3) := by decide +kernel
theorem dX0_init_25 : decode cX0_init 25 = .ok (.iload_n 1, 1) := by decide +kernel
theorem dX0_init_26 : decode cX0_init 26 = .ok (.new 9, 3) := by decide +kernel
theorem dX0_init_29 : decode cX0_init 29 = .ok (.dup, 1) := by decide +kernel
theorem dX0_init_30 : decode cX0_init 30 = .ok (.invokespecial 17, 3) := by decide +kernel
theorem dX0_init_33 : decode cX0_init 33 = .ok (.aastore, 1) := by decide +kernel
theorem dX0_init_34 : decode cX0_init 34 = .ok (.iinc 1 1, 3) := by decide +kernel
theorem dX0_init_37 : decode cX0_init 37 = .ok (.goto (-22), 3) := by decide +kernel
theorem dX0_init_40 : decode cX0_init 40 = .ok (.return_, 1) := by decide +kernel
theorem dX0_size_0 : decode cX0_size 0 = .ok (.aload_n 0, 1) := by decide +kernel
theorem dX0_size_1 : decode cX0_size 1 = .ok (.getfield 18, 3) := by decide +kernel
theorem dX0_size_4 : decode cX0_size 4 = .ok (.ireturn, 1) := by decide +kernel
set_option maxRecDepth 20000 in
theorem ggX0_record_X0_placeOf : GoodIn wsX0_record wsX0_placeOf := goodIn_r _ [8, 3, 9, 10, 11, 12, 33, 34, 35] (by decide +kernel) (by decide +kernel)
set_option maxRecDepth 20000 in
theorem gX0_record_X0_placeOf : GoodIn wsX0_record (wsV RX0 22 RX0 yX0_placeOf wsX0_placeOf) := goodIn_app (goodIn_of _ (by decide +kernel)) ggX0_record_X0_placeOf
set_option maxRecDepth 20000 in
theorem ggX0_record_X3_become : GoodIn wsX0_record wsX3_become := goodIn_r _ [17, 18, 19, 20, 21, 22, 23, 24, 25, 26, 16, 27, 28, 29, 30, 31, 32, 36, 37, 38, 39, 40, 41, 42] (by decide +kernel) (by decide +kernel)
set_option maxRecDepth 20000 in
theorem gX0_record_X3_become : GoodIn wsX0_record (wsV RX0 26 RX3 yX3_become wsX3_become) := goodIn_app (goodIn_of _ (by decide +kernel)) ggX0_record_X3_become
theorem dX0_record_0 : decode cX0_record 0 = .ok (.aload_n 0, 1) := by decide +kernel
theorem dX0_record_1 : decode cX0_record 1 = .ok (.getfield 11, 3) := by decide +kernel
theorem dX0_record_4 : decode cX0_record 4 = .ok (.aload_n 0, 1) := by decide +kernel
theorem dX0_record_5 : decode cX0_record 5 = .ok (.aload_n 0, 1) := by decide +kernel
theorem dX0_record_6 : decode cX0_record 6 = .ok (.getfield 18, 3) := by decide +kernel
theorem dX0_record_9 : decode cX0_record 9 = .ok (.invokevirtual 22, 3) := by decide +kernel
theorem dX0_record_12 : decode cX0_record 12 = .ok (.aaload, 1) := by decide +kernel
theorem dX0_record_13 : decode cX0_record 13 = .ok (.aload_n 1, 1) := by decide +kernel
theorem dX0_record_14 : decode cX0_record 14 = .ok (.invokevirtual 26, 3) := by decide +kernel
theorem dX0_record_17 : decode cX0_record 17 = .ok (.aload_n 0, 1) := by decide +kernel
theorem dX0_record_18 : decode cX0_record 18 = .ok (.getfield 18, 3) := by decide +kernel
theorem dX0_record_21 : decode cX0_record 21 = .ok (.bipush 6, 2) := by decide +kernel
theorem dX0_record_23 : decode cX0_record 23 = .ok (.if_icmp .ge 16, 3) := by decide +kernel
theorem dX0_record_26 : decode cX0_record 26 = .ok (.aload_n 0, 1) := by decide +kernel
theorem dX0_record_27 : decode cX0_record 27 = .ok (.dup, 1) := by decide +kernel
theorem dX0_record_28 : decode cX0_record 28 = .ok (.getfield 18, 3) := by decide +kernel
theorem dX0_record_31 : decode cX0_record 31 = .ok (.iconst 1, 1) := by decide +kernel
theorem dX0_record_32 : decode cX0_record 32 = .ok (.iadd, 1) := by decide +kernel
theorem dX0_record_33 : decode cX0_record 33 = .ok (.putfield 18, 3) := by decide +kernel
theorem dX0_record_36 : decode cX0_record 36 = .ok (.goto 12, 3) := by decide +kernel
theorem dX0_record_39 : decode cX0_record 39 = .ok (.aload_n 0, 1) := by decide +kernel
theorem dX0_record_40 : decode cX0_record 40 = .ok (.aload_n 0, 1) := by decide +kernel
theorem dX0_record_41 : decode cX0_record 41 = .ok (.iconst 1, 1) := by decide +kernel
theorem dX0_record_42 : decode cX0_record 42 = .ok (.invokevirtual 22, 3) := by decide +kernel
theorem dX0_record_45 : decode cX0_record 45 = .ok (.putfield 30, 3) := by decide +kernel
theorem dX0_record_48 : decode cX0_record 48 = .ok (.return_, 1) := by decide +kernel
set_option maxRecDepth 20000 in
theorem ggX0_placeOf_J9_floorMod_7cf53 : GoodIn wsX0_placeOf wsJ9_floorMod_7cf53 := goodIn_r _ [5] (by decide +kernel) (by decide +kernel)
set_option maxRecDepth 20000 in
theorem gX0_placeOf_J9_floorMod_7cf53 : GoodIn wsX0_placeOf (va_wsS RX0 33 yJ9_floorMod_7cf53 wsJ9_floorMod_7cf53) := goodIn_app (goodIn_of _ (by decide +kernel)) ggX0_placeOf_J9_floorMod_7cf53
theorem dX0_placeOf_0 : decode cX0_placeOf 0 = .ok (.aload_n 0, 1) := by decide +kernel
theorem dX0_placeOf_1 : decode cX0_placeOf 1 = .ok (.getfield 30, 3) := by decide +kernel
theorem dX0_placeOf_4 : decode cX0_placeOf 4 = .ok (.iload_n 1, 1) := by decide +kernel
theorem dX0_placeOf_5 : decode cX0_placeOf 5 = .ok (.iadd, 1) := by decide +kernel
theorem dX0_placeOf_6 : decode cX0_placeOf 6 = .ok (.bipush 6, 2) := by decide +kernel
theorem dX0_placeOf_8 : decode cX0_placeOf 8 = .ok (.invokestatic 33, 3) := by decide +kernel
theorem dX0_placeOf_11 : decode cX0_placeOf 11 = .ok (.ireturn, 1) := by decide +kernel
theorem dX1_init_0 : decode cX1_init 0 = .ok (.aload_n 0, 1) := by decide +kernel
theorem dX1_init_1 : decode cX1_init 1 = .ok (.invokespecial 5, 3) := by decide +kernel
theorem dX1_init_4 : decode cX1_init 4 = .ok (.aload_n 0, 1) := by decide +kernel
theorem dX1_init_5 : decode cX1_init 5 = .ok (.bipush 60, 2) := by decide +kernel
theorem dX1_init_7 : decode cX1_init 7 = .ok (.newarray .char, 2) := by decide +kernel
theorem dX1_init_9 : decode cX1_init 9 = .ok (.putfield 11, 3) := by decide +kernel
theorem dX1_init_12 : decode cX1_init 12 = .ok (.aload_n 0, 1) := by decide +kernel
theorem dX1_init_13 : decode cX1_init 13 = .ok (.bipush 10, 2) := by decide +kernel
theorem dX1_init_15 : decode cX1_init 15 = .ok (.newarray .int, 2) := by decide +kernel
theorem dX1_init_17 : decode cX1_init 17 = .ok (.putfield 15, 3) := by decide +kernel
theorem dX1_init_20 : decode cX1_init 20 = .ok (.aload_n 0, 1) := by decide +kernel
theorem dX1_init_21 : decode cX1_init 21 = .ok (.bipush 10, 2) := by decide +kernel
theorem dX1_init_23 : decode cX1_init 23 = .ok (.newarray .int, 2) := by decide +kernel
theorem dX1_init_25 : decode cX1_init 25 = .ok (.putfield 19, 3) := by decide +kernel
theorem dX1_init_28 : decode cX1_init 28 = .ok (.aload_n 0, 1) := by decide +kernel
theorem dX1_init_29 : decode cX1_init 29 = .ok (.bipush 10, 2) := by decide +kernel
theorem dX1_init_31 : decode cX1_init 31 = .ok (.newarray .int, 2) := by decide +kernel
theorem dX1_init_33 : decode cX1_init 33 = .ok (.putfield 22, 3) := by decide +kernel
theorem dX1_init_36 : decode cX1_init 36 = .ok (.aload_n 0, 1) := by decide +kernel
theorem dX1_init_37 : decode cX1_init 37 = .ok (.bipush 10, 2) := by decide +kernel
theorem dX1_init_39 : decode cX1_init 39 = .ok (.newarray .boolean, 2) := by decide +kernel
theorem dX1_init_41 : decode cX1_init 41 = .ok (.putfield 25, 3) := by decide +kernel
theorem dX1_init_44 : decode cX1_init 44 = .ok (.return_, 1) := by decide +kernel
theorem dX1_length_0 : decode cX1_length 0 = .ok (.aload_n 0, 1) := by decide +kernel
theorem dX1_length_1 : decode cX1_length 1 = .ok (.getfield 29, 3) := by decide +kernel
theorem dX1_length_4 : decode cX1_length 4 = .ok (.ireturn, 1) := by decide +kernel
theorem dX2_init_0 : decode cX2_init 0 = .ok (.aload_n 0, 1) := by decide +kernel
theorem dX2_init_1 : decode cX2_init 1 = .ok (.invokespecial 3, 3) := by decide +kernel
theorem dX2_init_4 : decode cX2_init 4 = .ok (.aload_n 0, 1) := by decide +kernel
theorem dX2_init_5 : decode cX2_init 5 = .ok (.bipush 100, 2) := by decide +kernel
theorem dX2_init_7 : decode cX2_init 7 = .ok (.newarray .int, 2) := by decide +kernel
theorem dX2_init_9 : decode cX2_init 9 = .ok (.putfield 9, 3) := by decide +kernel
theorem dX2_init_12 : decode cX2_init 12 = .ok (.aload_n 0, 1) := by decide +kernel
theorem dX2_init_13 : decode cX2_init 13 = .ok (.bipush 100, 2) := by decide +kernel
theorem dX2_init_15 : decode cX2_init 15 = .ok (.newarray .int, 2) := by decide +kernel
theorem dX2_init_17 : decode cX2_init 17 = .ok (.putfield 15, 3) := by decide +kernel
theorem dX2_init_20 : decode cX2_init 20 = .ok (.return_, 1) := by decide +kernel
set_option maxRecDepth 20000 in
theorem ggX2_perforate_X3_settingOf : GoodIn wsX2_perforate wsX3_settingOf := goodIn_r _ [7, 8, 9, 10, 11, 82, 83, 84, 85, 86, 87, 88] (by decide +kernel) (by decide +kernel)
set_option maxRecDepth 20000 in
theorem gX2_perforate_X3_settingOf : GoodIn wsX2_perforate (wsV RX2 18 RX3 yX3_settingOf wsX3_settingOf) := goodIn_app (goodIn_of _ (by decide +kernel)) ggX2_perforate_X3_settingOf
set_option maxRecDepth 20000 in
theorem ggX2_perforate_J7_fill_53178 : GoodIn wsX2_perforate wsJ7_fill_53178 := goodIn_r _ [15] (by decide +kernel) (by decide +kernel)
set_option maxRecDepth 20000 in
theorem gX2_perforate_J7_fill_53178 : GoodIn wsX2_perforate (va_wsS RX2 28 yJ7_fill_53178 wsJ7_fill_53178) := goodIn_app (goodIn_of _ (by decide +kernel)) ggX2_perforate_J7_fill_53178
set_option maxRecDepth 20000 in
theorem ggX2_perforate_X3_size : GoodIn wsX2_perforate wsX3_size := goodIn_r _ [19, 20, 82, 83, 84, 85, 86, 87, 88] (by decide +kernel) (by decide +kernel)
set_option maxRecDepth 20000 in
theorem gX2_perforate_X3_size : GoodIn wsX2_perforate (wsV RX2 34 RX3 yX3_size wsX3_size) := goodIn_app (goodIn_of _ (by decide +kernel)) ggX2_perforate_X3_size
set_option maxRecDepth 20000 in
theorem ggX2_perforate_X3_trackOf : GoodIn wsX2_perforate wsX3_trackOf := goodIn_r _ [24, 25, 26, 27, 28, 6, 29, 20, 82, 83, 84, 85, 86, 87, 88] (by decide +kernel) (by decide +kernel)
set_option maxRecDepth 20000 in
theorem gX2_perforate_X3_trackOf : GoodIn wsX2_perforate (wsV RX2 38 RX3 yX3_trackOf wsX3_trackOf) := goodIn_app (goodIn_of _ (by decide +kernel)) ggX2_perforate_X3_trackOf
set_option maxRecDepth 20000 in
theorem ggX2_perforate_X3_firstOf : GoodIn wsX2_perforate wsX3_firstOf := goodIn_r _ [33, 34, 26, 27, 28, 6, 29, 20, 82, 83, 84, 85, 86, 87, 88] (by decide +kernel) (by decide +kernel)
set_option maxRecDepth 20000 in
theorem gX2_perforate_X3_firstOf : GoodIn wsX2_perforate (wsV RX2 41 RX3 yX3_firstOf wsX3_firstOf) := goodIn_app (goodIn_of _ (by decide +kernel)) ggX2_perforate_X3_firstOf
set_option maxRecDepth 20000 in
theorem ggX2_perforate_X3_lastOf : GoodIn wsX2_perforate wsX3_lastOf := goodIn_r _ [38, 39, 26, 27, 28, 6, 29, 20, 82, 83, 84, 85, 86, 87, 88] (by decide +kernel) (by decide +kernel)
set_option maxRecDepth 20000 in
theorem gX2_perforate_X3_lastOf : GoodIn wsX2_perforate (wsV RX2 44 RX3 yX3_lastOf wsX3_lastOf) := goodIn_app (goodIn_of _ (by decide +kernel)) ggX2_perforate_X3_lastOf
set_option maxRecDepth 20000 in
theorem ggX2_perforate_X3_isHole : GoodIn wsX2_perforate wsX3_isHole := goodIn_r _ [43, 8, 44, 31, 32, 6, 33, 34, 26, 27, 28, 29, 20, 45, 36, 37, 38, 39, 46, 47, 48, 49, 50, 82, 83, 84, 85, 86, 87, 88] (by decide +kernel) (by decide +kernel)
set_option maxRecDepth 20000 in
theorem gX2_perforate_X3_isHole : GoodIn wsX2_perforate (wsV RX2 47 RX3 yX3_isHole wsX3_isHole) := goodIn_app (goodIn_of _ (by decide +kernel)) ggX2_perforate_X3_isHole
set_option maxRecDepth 20000 in
theorem ggX2_perforate_X2_punch : GoodIn wsX2_perforate wsX2_punch := goodIn_r _ [55, 2, 56, 10, 57, 58, 9, 11, 59, 60, 79, 80, 81] (by decide +kernel) (by decide +kernel)
set_option maxRecDepth 20000 in
theorem gX2_perforate_X2_punch : GoodIn wsX2_perforate (wsV RX2 51 RX2 yX2_punch wsX2_punch) := goodIn_app (goodIn_of _ (by decide +kernel)) ggX2_perforate_X2_punch
set_option maxRecDepth 20000 in
theorem ggX2_perforate_X3_hasAccent : GoodIn wsX2_perforate wsX3_hasAccent := goodIn_r _ [64, 65, 26, 27, 28, 6, 29, 20, 82, 83, 84, 85, 86, 87, 88] (by decide +kernel) (by decide +kernel)
set_option maxRecDepth 20000 in
theorem gX2_perforate_X3_hasAccent : GoodIn wsX2_perforate (wsV RX2 55 RX3 yX3_hasAccent wsX3_hasAccent) := goodIn_app (goodIn_of _ (by decide +kernel)) ggX2_perforate_X3_hasAccent
set_option maxRecDepth 20000 in
theorem ggX2_perforate_X2_listen : GoodIn wsX2_perforate wsX2_listen := goodIn_r _ [69, 70, 71, 72, 73, 74, 75, 76, 77, 54, 78, 2, 59, 10, 60, 58, 9, 11, 79, 80, 81] (by decide +kernel) (by decide +kernel)
set_option maxRecDepth 20000 in
theorem gX2_perforate_X2_listen : GoodIn wsX2_perforate (wsV RX2 59 RX2 yX2_listen wsX2_listen) := goodIn_app (goodIn_of _ (by decide +kernel)) ggX2_perforate_X2_listen
theorem dX2_perforate_0 : decode cX2_perforate 0 = .ok (.aload_n 0, 1) := by decide +kernel
theorem dX2_perforate_1 : decode cX2_perforate 1 = .ok (.aload_n 1, 1) := by decide +kernel
theorem dX2_perforate_2 : decode cX2_perforate 2 = .ok (.iconst 3, 1) := by decide +kernel
theorem dX2_perforate_3 : decode cX2_perforate 3 = .ok (.invokevirtual 18, 3) := by decide +kernel
theorem dX2_perforate_6 : decode cX2_perforate 6 = .ok (.putfield 24, 3) := by decide +kernel
theorem dX2_perforate_9 : decode cX2_perforate 9 = .ok (.aload_n 0, 1) := by decide +kernel
theorem dX2_perforate_10 : decode cX2_perforate 10 = .ok (.getfield 9, 3) := by decide +kernel
theorem dX2_perforate_13 : decode cX2_perforate 13 = .ok (.iconst 0, 1) := by decide +kernel
theorem dX2_perforate_14 : decode cX2_perforate 14 = .ok (.invokestatic 28, 3) := by decide +kernel
theorem dX2_perforate_17 : decode cX2_perforate 17 = .ok (.iconst 0, 1) := by decide +kernel
theorem dX2_perforate_18 : decode cX2_perforate 18 = .ok (.istore_n 2, 1) := by decide +kernel
theorem dX2_perforate_19 : decode cX2_perforate 19 = .ok (.iload_n 2, 1) := by decide +kernel
theorem dX2_perforate_20 : decode cX2_perforate 20 = .ok (.aload_n 1, 1) := by decide +kernel
theorem dX2_perforate_21 : decode cX2_perforate 21 = .ok (.invokevirtual 34, 3) := by decide +kernel
theorem dX2_perforate_24 : decode cX2_perforate 24 = .ok (.if_icmp .ge 88, 3) := by decide +kernel
theorem dX2_perforate_27 : decode cX2_perforate 27 = .ok (.aload_n 1, 1) := by decide +kernel
theorem dX2_perforate_28 : decode cX2_perforate 28 = .ok (.iload_n 2, 1) := by decide +kernel
theorem dX2_perforate_29 : decode cX2_perforate 29 = .ok (.invokevirtual 38, 3) := by decide +kernel
theorem dX2_perforate_32 : decode cX2_perforate 32 = .ok (.istore_n 3, 1) := by decide +kernel
theorem dX2_perforate_33 : decode cX2_perforate 33 = .ok (.aload_n 1, 1) := by decide +kernel
theorem dX2_perforate_34 : decode cX2_perforate 34 = .ok (.iload_n 2, 1) := by decide +kernel
theorem dX2_perforate_35 : decode cX2_perforate 35 = .ok (.invokevirtual 41, 3) := by decide +kernel
theorem dX2_perforate_38 : decode cX2_perforate 38 = .ok (.istore 4, 2) := by decide +kernel
theorem dX2_perforate_40 : decode cX2_perforate 40 = .ok (.iload 4, 2) := by decide +kernel
theorem dX2_perforate_42 : decode cX2_perforate 42 = .ok (.istore 5, 2) := by decide +kernel
theorem dX2_perforate_44 : decode cX2_perforate 44 = .ok (.iload 5, 2) := by decide +kernel
theorem dX2_perforate_46 : decode cX2_perforate 46 = .ok (.aload_n 1, 1) := by decide +kernel
theorem dX2_perforate_47 : decode cX2_perforate 47 = .ok (.iload_n 2, 1) := by decide +kernel
theorem dX2_perforate_48 : decode cX2_perforate 48 = .ok (.invokevirtual 44, 3) := by decide +kernel
theorem dX2_perforate_51 : decode cX2_perforate 51 = .ok (.if_icmp .gt 26, 3) := by decide +kernel
theorem dX2_perforate_54 : decode cX2_perforate 54 = .ok (.aload_n 1, 1) := by decide +kernel
theorem dX2_perforate_55 : decode cX2_perforate 55 = .ok (.iload_n 2, 1) := by decide +kernel
theorem dX2_perforate_56 : decode cX2_perforate 56 = .ok (.iload 5, 2) := by decide +kernel
theorem dX2_perforate_58 : decode cX2_perforate 58 = .ok (.invokevirtual 47, 3) := by decide +kernel
theorem dX2_perforate_61 : decode cX2_perforate 61 = .ok (.ifCond .eq 10, 3) := by decide +kernel
theorem dX2_perforate_64 : decode cX2_perforate 64 = .ok (.aload_n 0, 1) := by decide +kernel
theorem dX2_perforate_65 : decode cX2_perforate 65 = .ok (.iload_n 3, 1) := by decide +kernel
theorem dX2_perforate_66 : decode cX2_perforate 66 = .ok (.iload 5, 2) := by decide +kernel
theorem dX2_perforate_68 : decode cX2_perforate 68 = .ok (.invokevirtual 51, 3) := by decide +kernel
theorem dX2_perforate_71 : decode cX2_perforate 71 = .ok (.iinc 5 1, 3) := by decide +kernel
theorem dX2_perforate_74 : decode cX2_perforate 74 = .ok (.goto (-30), 3) := by decide +kernel
theorem dX2_perforate_77 : decode cX2_perforate 77 = .ok (.aload_n 1, 1) := by decide +kernel
theorem dX2_perforate_78 : decode cX2_perforate 78 = .ok (.iload_n 2, 1) := by decide +kernel
theorem dX2_perforate_79 : decode cX2_perforate 79 = .ok (.invokevirtual 55, 3) := by decide +kernel
theorem dX2_perforate_82 : decode cX2_perforate 82 = .ok (.ifCond .eq 24, 3) := by decide +kernel
theorem dX2_perforate_85 : decode cX2_perforate 85 = .ok (.aload_n 0, 1) := by decide +kernel
theorem dX2_perforate_86 : decode cX2_perforate 86 = .ok (.iload_n 3, 1) := by decide +kernel
theorem dX2_perforate_87 : decode cX2_perforate 87 = .ok (.bipush 11, 2) := by decide +kernel
theorem dX2_perforate_89 : decode cX2_perforate 89 = .ok (.if_icmp .ne 9, 3) := by decide +kernel
theorem dX2_perforate_92 : decode cX2_perforate 92 = .ok (.iload_n 3, 1) := by decide +kernel
theorem dX2_perforate_93 : decode cX2_perforate 93 = .ok (.iconst 1, 1) := by decide +kernel
theorem dX2_perforate_94 : decode cX2_perforate 94 = .ok (.isub, 1) := by decide +kernel
theorem dX2_perforate_95 : decode cX2_perforate 95 = .ok (.goto 6, 3) := by decide +kernel
theorem dX2_perforate_98 : decode cX2_perforate 98 = .ok (.iload_n 3, 1) := by decide +kernel
theorem dX2_perforate_99 : decode cX2_perforate 99 = .ok (.iconst 1, 1) := by decide +kernel
theorem dX2_perforate_100 : decode cX2_perforate 100 = .ok (.iadd, 1) := by decide +kernel
theorem dX2_perforate_101 : decode cX2_perforate 101 = .ok (.iload 4, 2) := by decide +kernel
theorem dX2_perforate_103 : decode cX2_perforate 103 = .ok (.invokevirtual 51, 3) := by decide +kernel
theorem dX2_perforate_106 : decode cX2_perforate 106 = .ok (.iinc 2 1, 3) := by decide +kernel
theorem dX2_perforate_109 : decode cX2_perforate 109 = .ok (.goto (-90), 3) := by decide +kernel
theorem dX2_perforate_112 : decode cX2_perforate 112 = .ok (.aload_n 0, 1) := by decide +kernel
theorem dX2_perforate_113 : decode cX2_perforate 113 = .ok (.aload_n 1, 1) := by decide +kernel
theorem dX2_perforate_114 : decode cX2_perforate 114 = .ok (.iconst 2, 1) := by decide +kernel
theorem dX2_perforate_115 : decode cX2_perforate 115 = .ok (.invokevirtual 18, 3) := by decide +kernel
theorem dX2_perforate_118 : decode cX2_perforate 118 = .ok (.invokevirtual 59, 3) := by decide +kernel
theorem dX2_perforate_121 : decode cX2_perforate 121 = .ok (.return_, 1) := by decide +kernel
set_option maxRecDepth 20000 in
theorem ggX2_punch_X4_isTrack : GoodIn wsX2_punch wsX4_isTrack := goodIn_r _ [4, 5, 6, 3, 7] (by decide +kernel) (by decide +kernel)
set_option maxRecDepth 20000 in
theorem gX2_punch_X4_isTrack_n63 : GoodIn wsX2_punch (wsX4_isTrack) := ggX2_punch_X4_isTrack
set_option maxRecDepth 20000 in
theorem ggX2_punch_X4_isStep : GoodIn wsX2_punch wsX4_isStep := goodIn_r _ [9, 5, 6, 3, 7] (by decide +kernel) (by decide +kernel)
set_option maxRecDepth 20000 in
theorem gX2_punch_X4_isStep_n66 : GoodIn wsX2_punch (wsX4_isStep) := ggX2_punch_X4_isStep
theorem dX2_punch_0 : decode cX2_punch 0 = .ok (.iload_n 1, 1) := by decide +kernel
theorem dX2_punch_1 : decode cX2_punch 1 = .ok (.invokestatic 63, 3) := by decide +kernel
theorem dX2_punch_4 : decode cX2_punch 4 = .ok (.ifCond .eq 22, 3) := by decide +kernel
theorem dX2_punch_7 : decode cX2_punch 7 = .ok (.iload_n 2, 1) := by decide +kernel
theorem dX2_punch_8 : decode cX2_punch 8 = .ok (.invokestatic 66, 3) := by decide +kernel
theorem dX2_punch_11 : decode cX2_punch 11 = .ok (.ifCond .eq 15, 3) := by decide +kernel
theorem dX2_punch_14 : decode cX2_punch 14 = .ok (.aload_n 0, 1) := by decide +kernel
theorem dX2_punch_15 : decode cX2_punch 15 = .ok (.getfield 9, 3) := by decide +kernel
theorem dX2_punch_18 : decode cX2_punch 18 = .ok (.iload_n 2, 1) := by decide +kernel
theorem dX2_punch_19 : decode cX2_punch 19 = .ok (.dup2, 1) := by decide +kernel
theorem dX2_punch_20 : decode cX2_punch 20 = .ok (.iaload, 1) := by decide +kernel
theorem dX2_punch_21 : decode cX2_punch 21 = .ok (.iconst 1, 1) := by decide +kernel
theorem dX2_punch_22 : decode cX2_punch 22 = .ok (.iload_n 1, 1) := by decide +kernel
theorem dX2_punch_23 : decode cX2_punch 23 = .ok (.ishl, 1) := by decide +kernel
theorem dX2_punch_24 : decode cX2_punch 24 = .ok (.ior, 1) := by decide +kernel
theorem dX2_punch_25 : decode cX2_punch 25 = .ok (.iastore, 1) := by decide +kernel
theorem dX2_punch_26 : decode cX2_punch 26 = .ok (.return_, 1) := by decide +kernel
set_option maxRecDepth 20000 in
theorem ggX2_listen_X2_holesAt : GoodIn wsX2_listen wsX2_holesAt := goodIn_r _ [10, 11, 12, 13, 14, 15, 16, 17, 18, 19, 20] (by decide +kernel) (by decide +kernel)
set_option maxRecDepth 20000 in
theorem gX2_listen_X2_holesAt : GoodIn wsX2_listen (wsV RX2 75 RX2 yX2_holesAt wsX2_holesAt) := goodIn_app (goodIn_of _ (by decide +kernel)) ggX2_listen_X2_holesAt
theorem dX2_listen_0 : decode cX2_listen 0 = .ok (.iconst 0, 1) := by decide +kernel
theorem dX2_listen_1 : decode cX2_listen 1 = .ok (.istore_n 2, 1) := by decide +kernel
theorem dX2_listen_2 : decode cX2_listen 2 = .ok (.iload_n 2, 1) := by decide +kernel
theorem dX2_listen_3 : decode cX2_listen 3 = .ok (.bipush 100, 2) := by decide +kernel
theorem dX2_listen_5 : decode cX2_listen 5 = .ok (.if_icmp .ge 48, 3) := by decide +kernel
theorem dX2_listen_8 : decode cX2_listen 8 = .ok (.iconst 0, 1) := by decide +kernel
theorem dX2_listen_9 : decode cX2_listen 9 = .ok (.istore_n 3, 1) := by decide +kernel
theorem dX2_listen_10 : decode cX2_listen 10 = .ok (.iconst 0, 1) := by decide +kernel
theorem dX2_listen_11 : decode cX2_listen 11 = .ok (.iload_n 2, 1) := by decide +kernel
theorem dX2_listen_12 : decode cX2_listen 12 = .ok (.iload_n 1, 1) := by decide +kernel
theorem dX2_listen_13 : decode cX2_listen 13 = .ok (.isub, 1) := by decide +kernel
theorem dX2_listen_14 : decode cX2_listen 14 = .ok (.invokestatic 69, 3) := by decide +kernel
theorem dX2_listen_17 : decode cX2_listen 17 = .ok (.istore 4, 2) := by decide +kernel
theorem dX2_listen_19 : decode cX2_listen 19 = .ok (.iload 4, 2) := by decide +kernel
theorem dX2_listen_21 : decode cX2_listen 21 = .ok (.iload_n 2, 1) := by decide +kernel
theorem dX2_listen_22 : decode cX2_listen 22 = .ok (.if_icmp .gt 18, 3) := by decide +kernel
theorem dX2_listen_25 : decode cX2_listen 25 = .ok (.iload_n 3, 1) := by decide +kernel
theorem dX2_listen_26 : decode cX2_listen 26 = .ok (.aload_n 0, 1) := by decide +kernel
theorem dX2_listen_27 : decode cX2_listen 27 = .ok (.iload 4, 2) := by decide +kernel
theorem dX2_listen_29 : decode cX2_listen 29 = .ok (.invokevirtual 75, 3) := by decide +kernel
theorem dX2_listen_32 : decode cX2_listen 32 = .ok (.ior, 1) := by decide +kernel
theorem dX2_listen_33 : decode cX2_listen 33 = .ok (.istore_n 3, 1) := by decide +kernel
theorem dX2_listen_34 : decode cX2_listen 34 = .ok (.iinc 4 1, 3) := by decide +kernel
theorem dX2_listen_37 : decode cX2_listen 37 = .ok (.goto (-18), 3) := by decide +kernel
theorem dX2_listen_40 : decode cX2_listen 40 = .ok (.aload_n 0, 1) := by decide +kernel
theorem dX2_listen_41 : decode cX2_listen 41 = .ok (.getfield 15, 3) := by decide +kernel
theorem dX2_listen_44 : decode cX2_listen 44 = .ok (.iload_n 2, 1) := by decide +kernel
theorem dX2_listen_45 : decode cX2_listen 45 = .ok (.iload_n 3, 1) := by decide +kernel
theorem dX2_listen_46 : decode cX2_listen 46 = .ok (.iastore, 1) := by decide +kernel
theorem dX2_listen_47 : decode cX2_listen 47 = .ok (.iinc 2 1, 3) := by decide +kernel
theorem dX2_listen_50 : decode cX2_listen 50 = .ok (.goto (-48), 3) := by decide +kernel
theorem dX2_listen_53 : decode cX2_listen 53 = .ok (.return_, 1) := by decide +kernel
set_option maxRecDepth 20000 in
theorem ggX2_holesAt_X4_isStep : GoodIn wsX2_holesAt wsX4_isStep := goodIn_r _ [4, 5, 6, 3, 7] (by decide +kernel) (by decide +kernel)
set_option maxRecDepth 20000 in
theorem gX2_holesAt_X4_isStep_n66 : GoodIn wsX2_holesAt (wsX4_isStep) := ggX2_holesAt_X4_isStep
theorem dX2_holesAt_0 : decode cX2_holesAt 0 = .ok (.iload_n 1, 1) := by decide +kernel
theorem dX2_holesAt_1 : decode cX2_holesAt 1 = .ok (.invokestatic 66, 3) := by decide +kernel
theorem dX2_holesAt_4 : decode cX2_holesAt 4 = .ok (.ifCond .eq 12, 3) := by decide +kernel
theorem dX2_holesAt_7 : decode cX2_holesAt 7 = .ok (.aload_n 0, 1) := by decide +kernel
theorem dX2_holesAt_8 : decode cX2_holesAt 8 = .ok (.getfield 9, 3) := by decide +kernel
theorem dX2_holesAt_11 : decode cX2_holesAt 11 = .ok (.iload_n 1, 1) := by decide +kernel
theorem dX2_holesAt_12 : decode cX2_holesAt 12 = .ok (.iaload, 1) := by decide +kernel
theorem dX2_holesAt_13 : decode cX2_holesAt 13 = .ok (.goto 4, 3) := by decide +kernel
theorem dX2_holesAt_16 : decode cX2_holesAt 16 = .ok (.iconst 0, 1) := by decide +kernel
theorem dX2_holesAt_17 : decode cX2_holesAt 17 = .ok (.ireturn, 1) := by decide +kernel
set_option maxRecDepth 20000 in
theorem ggX2_heardAt_X4_isStep : GoodIn wsX2_heardAt wsX4_isStep := goodIn_r _ [4, 5, 6, 3, 7] (by decide +kernel) (by decide +kernel)
set_option maxRecDepth 20000 in
theorem gX2_heardAt_X4_isStep_n66 : GoodIn wsX2_heardAt (wsX4_isStep) := ggX2_heardAt_X4_isStep
theorem dX2_heardAt_0 : decode cX2_heardAt 0 = .ok (.iload_n 1, 1) := by decide +kernel
theorem dX2_heardAt_1 : decode cX2_heardAt 1 = .ok (.invokestatic 66, 3) := by decide +kernel
theorem dX2_heardAt_4 : decode cX2_heardAt 4 = .ok (.ifCond .eq 12, 3) := by decide +kernel
theorem dX2_heardAt_7 : decode cX2_heardAt 7 = .ok (.aload_n 0, 1) := by decide +kernel
theorem dX2_heardAt_8 : decode cX2_heardAt 8 = .ok (.getfield 15, 3) := by decide +kernel
theorem dX2_heardAt_11 : decode cX2_heardAt 11 = .ok (.iload_n 1, 1) := by decide +kernel
theorem dX2_heardAt_12 : decode cX2_heardAt 12 = .ok (.iaload, 1) := by decide +kernel
theorem dX2_heardAt_13 : decode cX2_heardAt 13 = .ok (.goto 4, 3) := by decide +kernel
theorem dX2_heardAt_16 : decode cX2_heardAt 16 = .ok (.iconst 0, 1) := by decide +kernel
theorem dX2_heardAt_17 : decode cX2_heardAt 17 = .ok (.ireturn, 1) := by decide +kernel
set_option maxRecDepth 20000 in
theorem ggX2_isHeard_X4_isTrack : GoodIn wsX2_isHeard wsX4_isTrack := goodIn_r _ [3, 4, 5, 2, 6] (by decide +kernel) (by decide +kernel)
set_option maxRecDepth 20000 in
theorem gX2_isHeard_X4_isTrack_n63 : GoodIn wsX2_isHeard (wsX4_isTrack) := ggX2_isHeard_X4_isTrack
set_option maxRecDepth 20000 in
theorem ggX2_isHeard_X2_heardAt : GoodIn wsX2_isHeard wsX2_heardAt := goodIn_r _ [11, 12, 13, 2, 14, 4, 5, 6, 15, 16, 17] (by decide +kernel) (by decide +kernel)
set_option maxRecDepth 20000 in
theorem gX2_isHeard_X2_heardAt : GoodIn wsX2_isHeard (wsV RX2 78 RX2 yX2_heardAt wsX2_heardAt) := goodIn_app (goodIn_of _ (by decide +kernel)) ggX2_isHeard_X2_heardAt
theorem dX2_isHeard_0 : decode cX2_isHeard 0 = .ok (.iload_n 1, 1) := by decide +kernel
theorem dX2_isHeard_1 : decode cX2_isHeard 1 = .ok (.invokestatic 63, 3) := by decide +kernel
theorem dX2_isHeard_4 : decode cX2_isHeard 4 = .ok (.ifCond .eq 20, 3) := by decide +kernel
theorem dX2_isHeard_7 : decode cX2_isHeard 7 = .ok (.aload_n 0, 1) := by decide +kernel
theorem dX2_isHeard_8 : decode cX2_isHeard 8 = .ok (.iload_n 2, 1) := by decide +kernel
theorem dX2_isHeard_9 : decode cX2_isHeard 9 = .ok (.invokevirtual 78, 3) := by decide +kernel
theorem dX2_isHeard_12 : decode cX2_isHeard 12 = .ok (.iload_n 1, 1) := by decide +kernel
theorem dX2_isHeard_13 : decode cX2_isHeard 13 = .ok (.ishr, 1) := by decide +kernel
theorem dX2_isHeard_14 : decode cX2_isHeard 14 = .ok (.iconst 1, 1) := by decide +kernel
theorem dX2_isHeard_15 : decode cX2_isHeard 15 = .ok (.iand, 1) := by decide +kernel
theorem dX2_isHeard_16 : decode cX2_isHeard 16 = .ok (.iconst 1, 1) := by decide +kernel
theorem dX2_isHeard_17 : decode cX2_isHeard 17 = .ok (.if_icmp .ne 7, 3) := by decide +kernel
theorem dX2_isHeard_20 : decode cX2_isHeard 20 = .ok (.iconst 1, 1) := by decide +kernel
theorem dX2_isHeard_21 : decode cX2_isHeard 21 = .ok (.goto 4, 3) := by decide +kernel
theorem dX2_isHeard_24 : decode cX2_isHeard 24 = .ok (.iconst 0, 1) := by decide +kernel
theorem dX2_isHeard_25 : decode cX2_isHeard 25 = .ok (.ireturn, 1) := by decide +kernel
set_option maxRecDepth 20000 in
theorem ggX2_sideBySide_X2_holesAt : GoodIn wsX2_sideBySide wsX2_holesAt := goodIn_r _ [9, 10, 11, 12, 13, 14, 15, 16, 17, 18, 19] (by decide +kernel) (by decide +kernel)
set_option maxRecDepth 20000 in
theorem gX2_sideBySide_X2_holesAt : GoodIn wsX2_sideBySide (wsV RX2 75 RX2 yX2_holesAt wsX2_holesAt) := goodIn_app (goodIn_of _ (by decide +kernel)) ggX2_sideBySide_X2_holesAt
theorem dX2_sideBySide_0 : decode cX2_sideBySide 0 = .ok (.aload_n 0, 1) := by decide +kernel
theorem dX2_sideBySide_1 : decode cX2_sideBySide 1 = .ok (.iload_n 1, 1) := by decide +kernel
theorem dX2_sideBySide_2 : decode cX2_sideBySide 2 = .ok (.invokevirtual 75, 3) := by decide +kernel
theorem dX2_sideBySide_5 : decode cX2_sideBySide 5 = .ok (.istore_n 2, 1) := by decide +kernel
theorem dX2_sideBySide_6 : decode cX2_sideBySide 6 = .ok (.iconst 0, 1) := by decide +kernel
theorem dX2_sideBySide_7 : decode cX2_sideBySide 7 = .ok (.istore_n 3, 1) := by decide +kernel
theorem dX2_sideBySide_8 : decode cX2_sideBySide 8 = .ok (.iconst 0, 1) := by decide +kernel
theorem dX2_sideBySide_9 : decode cX2_sideBySide 9 = .ok (.istore 4, 2) := by decide +kernel
theorem dX2_sideBySide_11 : decode cX2_sideBySide 11 = .ok (.iconst 0, 1) := by decide +kernel
theorem dX2_sideBySide_12 : decode cX2_sideBySide 12 = .ok (.istore 5, 2) := by decide +kernel
theorem dX2_sideBySide_14 : decode cX2_sideBySide 14 = .ok (.iload 5, 2) := by decide +kernel
theorem dX2_sideBySide_16 : decode cX2_sideBySide 16 = .ok (.bipush 12, 2) := by decide +kernel
theorem dX2_sideBySide_18 : decode cX2_sideBySide 18 = .ok (.if_icmp .ge 36, 3) := by decide +kernel
theorem dX2_sideBySide_21 : decode cX2_sideBySide 21 = .ok (.iload_n 2, 1) := by decide +kernel
theorem dX2_sideBySide_22 : decode cX2_sideBySide 22 = .ok (.iload 5, 2) := by decide +kernel
theorem dX2_sideBySide_24 : decode cX2_sideBySide 24 = .ok (.ishr, 1) := by decide +kernel
theorem dX2_sideBySide_25 : decode cX2_sideBySide 25 = .ok (.iconst 1, 1) := by decide +kernel
theorem dX2_sideBySide_26 : decode cX2_sideBySide 26 = .ok (.iand, 1) := by decide +kernel
theorem dX2_sideBySide_27 : decode cX2_sideBySide 27 = .ok (.iconst 1, 1) := by decide +kernel
theorem dX2_sideBySide_28 : decode cX2_sideBySide 28 = .ok (.if_icmp .ne 10, 3) := by decide +kernel
theorem dX2_sideBySide_31 : decode cX2_sideBySide 31 = .ok (.iload 4, 2) := by decide +kernel
theorem dX2_sideBySide_33 : decode cX2_sideBySide 33 = .ok (.iconst 1, 1) := by decide +kernel
theorem dX2_sideBySide_34 : decode cX2_sideBySide 34 = .ok (.iadd, 1) := by decide +kernel
theorem dX2_sideBySide_35 : decode cX2_sideBySide 35 = .ok (.goto 4, 3) := by decide +kernel
theorem dX2_sideBySide_38 : decode cX2_sideBySide 38 = .ok (.iconst 0, 1) := by decide +kernel
theorem dX2_sideBySide_39 : decode cX2_sideBySide 39 = .ok (.istore 4, 2) := by decide +kernel
theorem dX2_sideBySide_41 : decode cX2_sideBySide 41 = .ok (.iload_n 3, 1) := by decide +kernel
theorem dX2_sideBySide_42 : decode cX2_sideBySide 42 = .ok (.iload 4, 2) := by decide +kernel
theorem dX2_sideBySide_44 : decode cX2_sideBySide 44 = .ok (.invokestatic 69, 3) := by decide +kernel
theorem dX2_sideBySide_47 : decode cX2_sideBySide 47 = .ok (.istore_n 3, 1) := by decide +kernel
theorem dX2_sideBySide_48 : decode cX2_sideBySide 48 = .ok (.iinc 5 1, 3) := by decide +kernel
theorem dX2_sideBySide_51 : decode cX2_sideBySide 51 = .ok (.goto (-37), 3) := by decide +kernel
theorem dX2_sideBySide_54 : decode cX2_sideBySide 54 = .ok (.iload_n 3, 1) := by decide +kernel
theorem dX2_sideBySide_55 : decode cX2_sideBySide 55 = .ok (.ireturn, 1) := by decide +kernel
set_option maxRecDepth 20000 in
theorem ggX2_isWeak_X2_sideBySide : GoodIn wsX2_isWeak wsX2_sideBySide := goodIn_r _ [6, 7, 8, 9, 10, 11, 12, 13, 5, 14, 15, 16, 17, 18, 19, 20, 21, 22, 23, 24] (by decide +kernel) (by decide +kernel)
set_option maxRecDepth 20000 in
theorem gX2_isWeak_X2_sideBySide : GoodIn wsX2_isWeak (wsV RX2 81 RX2 yX2_sideBySide wsX2_sideBySide) := goodIn_app (goodIn_of _ (by decide +kernel)) ggX2_isWeak_X2_sideBySide
theorem dX2_isWeak_0 : decode cX2_isWeak 0 = .ok (.aload_n 0, 1) := by decide +kernel
theorem dX2_isWeak_1 : decode cX2_isWeak 1 = .ok (.iload_n 1, 1) := by decide +kernel
theorem dX2_isWeak_2 : decode cX2_isWeak 2 = .ok (.invokevirtual 81, 3) := by decide +kernel
theorem dX2_isWeak_5 : decode cX2_isWeak 5 = .ok (.aload_n 0, 1) := by decide +kernel
theorem dX2_isWeak_6 : decode cX2_isWeak 6 = .ok (.getfield 24, 3) := by decide +kernel
theorem dX2_isWeak_9 : decode cX2_isWeak 9 = .ok (.if_icmp .lt 7, 3) := by decide +kernel
theorem dX2_isWeak_12 : decode cX2_isWeak 12 = .ok (.iconst 1, 1) := by decide +kernel
theorem dX2_isWeak_13 : decode cX2_isWeak 13 = .ok (.goto 4, 3) := by decide +kernel
theorem dX2_isWeak_16 : decode cX2_isWeak 16 = .ok (.iconst 0, 1) := by decide +kernel
theorem dX2_isWeak_17 : decode cX2_isWeak 17 = .ok (.ireturn, 1) := by decide +kernel
set_option maxRecDepth 20000 in
theorem ggX2_weakSteps_X2_isWeak : GoodIn wsX2_weakSteps wsX2_isWeak := goodIn_r _ [5, 6, 7, 8, 9, 4, 10, 11, 12, 13, 14, 15, 16, 17, 18, 19, 20, 21, 22, 23, 24, 25, 26, 27, 28] (by decide +kernel) (by decide +kernel)
set_option maxRecDepth 20000 in
theorem gX2_weakSteps_X2_isWeak : GoodIn wsX2_weakSteps (wsV RX2 84 RX2 yX2_isWeak wsX2_isWeak) := goodIn_app (goodIn_of _ (by decide +kernel)) ggX2_weakSteps_X2_isWeak
theorem dX2_weakSteps_0 : decode cX2_weakSteps 0 = .ok (.iconst 0, 1) := by decide +kernel
theorem dX2_weakSteps_1 : decode cX2_weakSteps 1 = .ok (.istore_n 1, 1) := by decide +kernel
theorem dX2_weakSteps_2 : decode cX2_weakSteps 2 = .ok (.iconst 0, 1) := by decide +kernel
theorem dX2_weakSteps_3 : decode cX2_weakSteps 3 = .ok (.istore_n 2, 1) := by decide +kernel
theorem dX2_weakSteps_4 : decode cX2_weakSteps 4 = .ok (.iload_n 2, 1) := by decide +kernel
theorem dX2_weakSteps_5 : decode cX2_weakSteps 5 = .ok (.bipush 100, 2) := by decide +kernel
theorem dX2_weakSteps_7 : decode cX2_weakSteps 7 = .ok (.if_icmp .ge 20, 3) := by decide +kernel
theorem dX2_weakSteps_10 : decode cX2_weakSteps 10 = .ok (.aload_n 0, 1) := by decide +kernel
theorem dX2_weakSteps_11 : decode cX2_weakSteps 11 = .ok (.iload_n 2, 1) := by decide +kernel
theorem dX2_weakSteps_12 : decode cX2_weakSteps 12 = .ok (.invokevirtual 84, 3) := by decide +kernel
theorem dX2_weakSteps_15 : decode cX2_weakSteps 15 = .ok (.ifCond .eq 6, 3) := by decide +kernel
theorem dX2_weakSteps_18 : decode cX2_weakSteps 18 = .ok (.iinc 1 1, 3) := by decide +kernel
theorem dX2_weakSteps_21 : decode cX2_weakSteps 21 = .ok (.iinc 2 1, 3) := by decide +kernel
theorem dX2_weakSteps_24 : decode cX2_weakSteps 24 = .ok (.goto (-20), 3) := by decide +kernel
theorem dX2_weakSteps_27 : decode cX2_weakSteps 27 = .ok (.iload_n 1, 1) := by decide +kernel
theorem dX2_weakSteps_28 : decode cX2_weakSteps 28 = .ok (.ireturn, 1) := by decide +kernel
set_option maxRecDepth 20000 in
theorem ggX2_firstWeakStep_X2_isWeak : GoodIn wsX2_firstWeakStep wsX2_isWeak := goodIn_r _ [5, 6, 7, 8, 9, 4, 10, 11, 12, 13, 14, 15, 16, 17, 18, 19, 20, 21, 22, 23, 24, 25, 26, 27, 28] (by decide +kernel) (by decide +kernel)
set_option maxRecDepth 20000 in
theorem gX2_firstWeakStep_X2_isWeak : GoodIn wsX2_firstWeakStep (wsV RX2 84 RX2 yX2_isWeak wsX2_isWeak) := goodIn_app (goodIn_of _ (by decide +kernel)) ggX2_firstWeakStep_X2_isWeak
theorem dX2_firstWeakStep_0 : decode cX2_firstWeakStep 0 = .ok (.iconst 0, 1) := by decide +kernel
theorem dX2_firstWeakStep_1 : decode cX2_firstWeakStep 1 = .ok (.istore_n 1, 1) := by decide +kernel
theorem dX2_firstWeakStep_2 : decode cX2_firstWeakStep 2 = .ok (.iload_n 1, 1) := by decide +kernel
theorem dX2_firstWeakStep_3 : decode cX2_firstWeakStep 3 = .ok (.bipush 100, 2) := by decide +kernel
theorem dX2_firstWeakStep_5 : decode cX2_firstWeakStep 5 = .ok (.if_icmp .ge 19, 3) := by decide +kernel
theorem dX2_firstWeakStep_8 : decode cX2_firstWeakStep 8 = .ok (.aload_n 0, 1) := by decide +kernel
theorem dX2_firstWeakStep_9 : decode cX2_firstWeakStep 9 = .ok (.iload_n 1, 1) := by decide +kernel
theorem dX2_firstWeakStep_10 : decode cX2_firstWeakStep 10 = .ok (.invokevirtual 84, 3) := by decide +kernel
theorem dX2_firstWeakStep_13 : decode cX2_firstWeakStep 13 = .ok (.ifCond .eq 5, 3) := by decide +kernel
theorem dX2_firstWeakStep_16 : decode cX2_firstWeakStep 16 = .ok (.iload_n 1, 1) := by decide +kernel
theorem dX2_firstWeakStep_17 : decode cX2_firstWeakStep 17 = .ok (.ireturn, 1) := by decide +kernel
theorem dX2_firstWeakStep_18 : decode cX2_firstWeakStep 18 = .ok (.iinc 1 1, 3) := by decide +kernel
theorem dX2_firstWeakStep_21 : decode cX2_firstWeakStep 21 = .ok (.goto (-19), 3) := by decide +kernel
theorem dX2_firstWeakStep_24 : decode cX2_firstWeakStep 24 = .ok (.iconst (-1), 1) := by decide +kernel
theorem dX2_firstWeakStep_25 : decode cX2_firstWeakStep 25 = .ok (.ireturn, 1) := by decide +kernel
set_option maxRecDepth 20000 in
theorem ggX2_allHoles_X2_holesAt : GoodIn wsX2_allHoles wsX2_holesAt := goodIn_r _ [5, 6, 7, 8, 9, 10, 11, 12, 20, 21, 22] (by decide +kernel) (by decide +kernel)
set_option maxRecDepth 20000 in
theorem gX2_allHoles_X2_holesAt : GoodIn wsX2_allHoles (wsV RX2 75 RX2 yX2_holesAt wsX2_holesAt) := goodIn_app (goodIn_of _ (by decide +kernel)) ggX2_allHoles_X2_holesAt
set_option maxRecDepth 20000 in
theorem ggX2_allHoles_J6_bitCount_0f7a4 : GoodIn wsX2_allHoles wsJ6_bitCount_0f7a4 := goodIn_r _ [16, 17, 18, 19] (by decide +kernel) (by decide +kernel)
set_option maxRecDepth 20000 in
theorem gX2_allHoles_J6_bitCount_0f7a4 : GoodIn wsX2_allHoles (va_wsS RX2 87 yJ6_bitCount_0f7a4 wsJ6_bitCount_0f7a4) := goodIn_app (goodIn_of _ (by decide +kernel)) ggX2_allHoles_J6_bitCount_0f7a4
theorem dX2_allHoles_0 : decode cX2_allHoles 0 = .ok (.iconst 0, 1) := by decide +kernel
theorem dX2_allHoles_1 : decode cX2_allHoles 1 = .ok (.istore_n 1, 1) := by decide +kernel
theorem dX2_allHoles_2 : decode cX2_allHoles 2 = .ok (.iconst 0, 1) := by decide +kernel
theorem dX2_allHoles_3 : decode cX2_allHoles 3 = .ok (.istore_n 2, 1) := by decide +kernel
theorem dX2_allHoles_4 : decode cX2_allHoles 4 = .ok (.iload_n 2, 1) := by decide +kernel
theorem dX2_allHoles_5 : decode cX2_allHoles 5 = .ok (.bipush 100, 2) := by decide +kernel
theorem dX2_allHoles_7 : decode cX2_allHoles 7 = .ok (.if_icmp .ge 20, 3) := by decide +kernel
theorem dX2_allHoles_10 : decode cX2_allHoles 10 = .ok (.iload_n 1, 1) := by decide +kernel
theorem dX2_allHoles_11 : decode cX2_allHoles 11 = .ok (.aload_n 0, 1) := by decide +kernel
theorem dX2_allHoles_12 : decode cX2_allHoles 12 = .ok (.iload_n 2, 1) := by decide +kernel
theorem dX2_allHoles_13 : decode cX2_allHoles 13 = .ok (.invokevirtual 75, 3) := by decide +kernel
theorem dX2_allHoles_16 : decode cX2_allHoles 16 = .ok (.invokestatic 87, 3) := by decide +kernel
theorem dX2_allHoles_19 : decode cX2_allHoles 19 = .ok (.iadd, 1) := by decide +kernel
theorem dX2_allHoles_20 : decode cX2_allHoles 20 = .ok (.istore_n 1, 1) := by decide +kernel
theorem dX2_allHoles_21 : decode cX2_allHoles 21 = .ok (.iinc 2 1, 3) := by decide +kernel
theorem dX2_allHoles_24 : decode cX2_allHoles 24 = .ok (.goto (-20), 3) := by decide +kernel
theorem dX2_allHoles_27 : decode cX2_allHoles 27 = .ok (.iload_n 1, 1) := by decide +kernel
theorem dX2_allHoles_28 : decode cX2_allHoles 28 = .ok (.ireturn, 1) := by decide +kernel
set_option maxRecDepth 20000 in
theorem ggX2_startsSound_X2_isHeard : GoodIn wsX2_startsSound wsX2_isHeard := goodIn_r _ [5, 6, 7, 8, 9, 10, 11, 12, 13, 14, 4, 15, 16, 17, 18, 19, 20, 21] (by decide +kernel) (by decide +kernel)
set_option maxRecDepth 20000 in
theorem gX2_startsSound_X2_isHeard : GoodIn wsX2_startsSound (wsV RX2 92 RX2 yX2_isHeard wsX2_isHeard) := goodIn_app (goodIn_of _ (by decide +kernel)) ggX2_startsSound_X2_isHeard
theorem dX2_startsSound_0 : decode cX2_startsSound 0 = .ok (.aload_n 0, 1) := by decide +kernel
theorem dX2_startsSound_1 : decode cX2_startsSound 1 = .ok (.iload_n 1, 1) := by decide +kernel
theorem dX2_startsSound_2 : decode cX2_startsSound 2 = .ok (.iload_n 2, 1) := by decide +kernel
theorem dX2_startsSound_3 : decode cX2_startsSound 3 = .ok (.invokevirtual 92, 3) := by decide +kernel
theorem dX2_startsSound_6 : decode cX2_startsSound 6 = .ok (.ifCond .eq 18, 3) := by decide +kernel
theorem dX2_startsSound_9 : decode cX2_startsSound 9 = .ok (.aload_n 0, 1) := by decide +kernel
theorem dX2_startsSound_10 : decode cX2_startsSound 10 = .ok (.iload_n 1, 1) := by decide +kernel
theorem dX2_startsSound_11 : decode cX2_startsSound 11 = .ok (.iload_n 2, 1) := by decide +kernel
theorem dX2_startsSound_12 : decode cX2_startsSound 12 = .ok (.iconst 1, 1) := by decide +kernel
theorem dX2_startsSound_13 : decode cX2_startsSound 13 = .ok (.isub, 1) := by decide +kernel
theorem dX2_startsSound_14 : decode cX2_startsSound 14 = .ok (.invokevirtual 92, 3) := by decide +kernel
theorem dX2_startsSound_17 : decode cX2_startsSound 17 = .ok (.ifCond .ne 7, 3) := by decide +kernel
theorem dX2_startsSound_20 : decode cX2_startsSound 20 = .ok (.iconst 1, 1) := by decide +kernel
theorem dX2_startsSound_21 : decode cX2_startsSound 21 = .ok (.goto 4, 3) := by decide +kernel
theorem dX2_startsSound_24 : decode cX2_startsSound 24 = .ok (.iconst 0, 1) := by decide +kernel
theorem dX2_startsSound_25 : decode cX2_startsSound 25 = .ok (.ireturn, 1) := by decide +kernel
set_option maxRecDepth 20000 in
theorem ggX2_sounds_X2_startsSound : GoodIn wsX2_sounds wsX2_startsSound := goodIn_r _ [5, 6, 7, 8, 4, 9, 10, 11, 12, 13, 14, 15, 16, 17, 18, 19, 20, 21, 22, 23, 24, 25] (by decide +kernel) (by decide +kernel)
set_option maxRecDepth 20000 in
theorem gX2_sounds_X2_startsSound : GoodIn wsX2_sounds (wsV RX2 95 RX2 yX2_startsSound wsX2_startsSound) := goodIn_app (goodIn_of _ (by decide +kernel)) ggX2_sounds_X2_startsSound
theorem dX2_sounds_0 : decode cX2_sounds 0 = .ok (.iconst 0, 1) := by decide +kernel
theorem dX2_sounds_1 : decode cX2_sounds 1 = .ok (.istore_n 2, 1) := by decide +kernel
theorem dX2_sounds_2 : decode cX2_sounds 2 = .ok (.iconst 0, 1) := by decide +kernel
theorem dX2_sounds_3 : decode cX2_sounds 3 = .ok (.istore_n 3, 1) := by decide +kernel
theorem dX2_sounds_4 : decode cX2_sounds 4 = .ok (.iload_n 3, 1) := by decide +kernel
theorem dX2_sounds_5 : decode cX2_sounds 5 = .ok (.bipush 100, 2) := by decide +kernel
theorem dX2_sounds_7 : decode cX2_sounds 7 = .ok (.if_icmp .ge 21, 3) := by decide +kernel
theorem dX2_sounds_10 : decode cX2_sounds 10 = .ok (.aload_n 0, 1) := by decide +kernel
theorem dX2_sounds_11 : decode cX2_sounds 11 = .ok (.iload_n 1, 1) := by decide +kernel
theorem dX2_sounds_12 : decode cX2_sounds 12 = .ok (.iload_n 3, 1) := by decide +kernel
theorem dX2_sounds_13 : decode cX2_sounds 13 = .ok (.invokevirtual 95, 3) := by decide +kernel
theorem dX2_sounds_16 : decode cX2_sounds 16 = .ok (.ifCond .eq 6, 3) := by decide +kernel
theorem dX2_sounds_19 : decode cX2_sounds 19 = .ok (.iinc 2 1, 3) := by decide +kernel
theorem dX2_sounds_22 : decode cX2_sounds 22 = .ok (.iinc 3 1, 3) := by decide +kernel
theorem dX2_sounds_25 : decode cX2_sounds 25 = .ok (.goto (-21), 3) := by decide +kernel
theorem dX2_sounds_28 : decode cX2_sounds 28 = .ok (.iload_n 2, 1) := by decide +kernel
theorem dX2_sounds_29 : decode cX2_sounds 29 = .ok (.ireturn, 1) := by decide +kernel
set_option maxRecDepth 20000 in
theorem ggX2_soundStart_X2_startsSound : GoodIn wsX2_soundStart wsX2_startsSound := goodIn_r _ [5, 6, 7, 8, 4, 9, 10, 11, 12, 13, 14, 15, 16, 17, 18, 19, 20, 21, 22, 23, 24, 25] (by decide +kernel) (by decide +kernel)
set_option maxRecDepth 20000 in
theorem gX2_soundStart_X2_startsSound : GoodIn wsX2_soundStart (wsV RX2 95 RX2 yX2_startsSound wsX2_startsSound) := goodIn_app (goodIn_of _ (by decide +kernel)) ggX2_soundStart_X2_startsSound
theorem dX2_soundStart_0 : decode cX2_soundStart 0 = .ok (.iconst 0, 1) := by decide +kernel
theorem dX2_soundStart_1 : decode cX2_soundStart 1 = .ok (.istore_n 3, 1) := by decide +kernel
theorem dX2_soundStart_2 : decode cX2_soundStart 2 = .ok (.iconst 0, 1) := by decide +kernel
theorem dX2_soundStart_3 : decode cX2_soundStart 3 = .ok (.istore 4, 2) := by decide +kernel
theorem dX2_soundStart_5 : decode cX2_soundStart 5 = .ok (.iload 4, 2) := by decide +kernel
theorem dX2_soundStart_7 : decode cX2_soundStart 7 = .ok (.bipush 100, 2) := by decide +kernel
theorem dX2_soundStart_9 : decode cX2_soundStart 9 = .ok (.if_icmp .ge 30, 3) := by decide +kernel
theorem dX2_soundStart_12 : decode cX2_soundStart 12 = .ok (.aload_n 0, 1) := by decide +kernel
theorem dX2_soundStart_13 : decode cX2_soundStart 13 = .ok (.iload_n 1, 1) := by decide +kernel
theorem dX2_soundStart_14 : decode cX2_soundStart 14 = .ok (.iload 4, 2) := by decide +kernel
theorem dX2_soundStart_16 : decode cX2_soundStart 16 = .ok (.invokevirtual 95, 3) := by decide +kernel
theorem dX2_soundStart_19 : decode cX2_soundStart 19 = .ok (.ifCond .eq 14, 3) := by decide +kernel
theorem dX2_soundStart_22 : decode cX2_soundStart 22 = .ok (.iload_n 3, 1) := by decide +kernel
theorem dX2_soundStart_23 : decode cX2_soundStart 23 = .ok (.iload_n 2, 1) := by decide +kernel
theorem dX2_soundStart_24 : decode cX2_soundStart 24 = .ok (.if_icmp .ne 6, 3) := by decide +kernel
theorem dX2_soundStart_27 : decode cX2_soundStart 27 = .ok (.iload 4, 2) := by decide +kernel
theorem dX2_soundStart_29 : decode cX2_soundStart 29 = .ok (.ireturn, 1) := by decide +kernel
theorem dX2_soundStart_30 : decode cX2_soundStart 30 = .ok (.iinc 3 1, 3) := by decide +kernel
theorem dX2_soundStart_33 : decode cX2_soundStart 33 = .ok (.iinc 4 1, 3) := by decide +kernel
theorem dX2_soundStart_36 : decode cX2_soundStart 36 = .ok (.goto (-31), 3) := by decide +kernel
theorem dX2_soundStart_39 : decode cX2_soundStart 39 = .ok (.iconst (-1), 1) := by decide +kernel
theorem dX2_soundStart_40 : decode cX2_soundStart 40 = .ok (.ireturn, 1) := by decide +kernel
set_option maxRecDepth 20000 in
theorem ggX2_soundEnd_X2_isHeard : GoodIn wsX2_soundEnd wsX2_isHeard := goodIn_r _ [5, 6, 7, 8, 9, 10, 11, 12, 13, 14, 4, 15, 16, 17, 18, 19, 20, 21] (by decide +kernel) (by decide +kernel)
set_option maxRecDepth 20000 in
theorem gX2_soundEnd_X2_isHeard : GoodIn wsX2_soundEnd (wsV RX2 92 RX2 yX2_isHeard wsX2_isHeard) := goodIn_app (goodIn_of _ (by decide +kernel)) ggX2_soundEnd_X2_isHeard
theorem dX2_soundEnd_0 : decode cX2_soundEnd 0 = .ok (.iload_n 2, 1) := by decide +kernel
theorem dX2_soundEnd_1 : decode cX2_soundEnd 1 = .ok (.istore_n 3, 1) := by decide +kernel
theorem dX2_soundEnd_2 : decode cX2_soundEnd 2 = .ok (.iload_n 2, 1) := by decide +kernel
theorem dX2_soundEnd_3 : decode cX2_soundEnd 3 = .ok (.istore 4, 2) := by decide +kernel
theorem dX2_soundEnd_5 : decode cX2_soundEnd 5 = .ok (.iload 4, 2) := by decide +kernel
theorem dX2_soundEnd_7 : decode cX2_soundEnd 7 = .ok (.bipush 100, 2) := by decide +kernel
theorem dX2_soundEnd_9 : decode cX2_soundEnd 9 = .ok (.if_icmp .ge 22, 3) := by decide +kernel
theorem dX2_soundEnd_12 : decode cX2_soundEnd 12 = .ok (.aload_n 0, 1) := by decide +kernel
theorem dX2_soundEnd_13 : decode cX2_soundEnd 13 = .ok (.iload_n 1, 1) := by decide +kernel
theorem dX2_soundEnd_14 : decode cX2_soundEnd 14 = .ok (.iload 4, 2) := by decide +kernel
theorem dX2_soundEnd_16 : decode cX2_soundEnd 16 = .ok (.invokevirtual 92, 3) := by decide +kernel
theorem dX2_soundEnd_19 : decode cX2_soundEnd 19 = .ok (.ifCond .eq 12, 3) := by decide +kernel
theorem dX2_soundEnd_22 : decode cX2_soundEnd 22 = .ok (.iload 4, 2) := by decide +kernel
theorem dX2_soundEnd_24 : decode cX2_soundEnd 24 = .ok (.istore_n 3, 1) := by decide +kernel
theorem dX2_soundEnd_25 : decode cX2_soundEnd 25 = .ok (.iinc 4 1, 3) := by decide +kernel
theorem dX2_soundEnd_28 : decode cX2_soundEnd 28 = .ok (.goto (-23), 3) := by decide +kernel
theorem dX2_soundEnd_31 : decode cX2_soundEnd 31 = .ok (.iload_n 3, 1) := by decide +kernel
theorem dX2_soundEnd_32 : decode cX2_soundEnd 32 = .ok (.ireturn, 1) := by decide +kernel
theorem dX3_init_0 : decode cX3_init 0 = .ok (.aload_n 0, 1) := by decide +kernel
theorem dX3_init_1 : decode cX3_init 1 = .ok (.invokespecial 3, 3) := by decide +kernel
theorem dX3_init_4 : decode cX3_init 4 = .ok (.aload_n 0, 1) := by decide +kernel
theorem dX3_init_5 : decode cX3_init 5 = .ok (.iconst 4, 1) := by decide +kernel
theorem dX3_init_6 : decode cX3_init 6 = .ok (.newarray .int, 2) := by decide +kernel
theorem dX3_init_8 : decode cX3_init 8 = .ok (.putfield 9, 3) := by decide +kernel
theorem dX3_init_11 : decode cX3_init 11 = .ok (.aload_n 0, 1) := by decide +kernel
theorem dX3_init_12 : decode cX3_init 12 = .ok (.bipush 40, 2) := by decide +kernel
theorem dX3_init_14 : decode cX3_init 14 = .ok (.newarray .int, 2) := by decide +kernel
theorem dX3_init_16 : decode cX3_init 16 = .ok (.putfield 15, 3) := by decide +kernel
theorem dX3_init_19 : decode cX3_init 19 = .ok (.aload_n 0, 1) := by decide +kernel
theorem dX3_init_20 : decode cX3_init 20 = .ok (.bipush 40, 2) := by decide +kernel
theorem dX3_init_22 : decode cX3_init 22 = .ok (.newarray .int, 2) := by decide +kernel
theorem dX3_init_24 : decode cX3_init 24 = .ok (.putfield 18, 3) := by decide +kernel
theorem dX3_init_27 : decode cX3_init 27 = .ok (.aload_n 0, 1) := by decide +kernel
theorem dX3_init_28 : decode cX3_init 28 = .ok (.bipush 40, 2) := by decide +kernel
theorem dX3_init_30 : decode cX3_init 30 = .ok (.newarray .int, 2) := by decide +kernel
theorem dX3_init_32 : decode cX3_init 32 = .ok (.putfield 21, 3) := by decide +kernel
theorem dX3_init_35 : decode cX3_init 35 = .ok (.aload_n 0, 1) := by decide +kernel
theorem dX3_init_36 : decode cX3_init 36 = .ok (.bipush 40, 2) := by decide +kernel
theorem dX3_init_38 : decode cX3_init 38 = .ok (.newarray .int, 2) := by decide +kernel
theorem dX3_init_40 : decode cX3_init 40 = .ok (.putfield 24, 3) := by decide +kernel
theorem dX3_init_43 : decode cX3_init 43 = .ok (.aload_n 0, 1) := by decide +kernel
theorem dX3_init_44 : decode cX3_init 44 = .ok (.bipush 40, 2) := by decide +kernel
theorem dX3_init_46 : decode cX3_init 46 = .ok (.newarray .boolean, 2) := by decide +kernel
theorem dX3_init_48 : decode cX3_init 48 = .ok (.putfield 27, 3) := by decide +kernel
theorem dX3_init_51 : decode cX3_init 51 = .ok (.getstatic 31, 3) := by decide +kernel
theorem dX3_init_54 : decode cX3_init 54 = .ok (.iconst 0, 1) := by decide +kernel
theorem dX3_init_55 : decode cX3_init 55 = .ok (.aload_n 0, 1) := by decide +kernel
theorem dX3_init_56 : decode cX3_init 56 = .ok (.getfield 9, 3) := by decide +kernel
theorem dX3_init_59 : decode cX3_init 59 = .ok (.iconst 0, 1) := by decide +kernel
theorem dX3_init_60 : decode cX3_init 60 = .ok (.iconst 4, 1) := by decide +kernel
theorem dX3_init_61 : decode cX3_init 61 = .ok (.invokestatic 34, 3) := by decide +kernel
theorem dX3_init_64 : decode cX3_init 64 = .ok (.return_, 1) := by decide +kernel
theorem dX3_takeSettings_0 : decode cX3_takeSettings 0 = .ok (.aload_n 1, 1) := by decide +kernel
theorem dX3_takeSettings_1 : decode cX3_takeSettings 1 = .ok (.getfield 9, 3) := by decide +kernel
theorem dX3_takeSettings_4 : decode cX3_takeSettings 4 = .ok (.iconst 0, 1) := by decide +kernel
theorem dX3_takeSettings_5 : decode cX3_takeSettings 5 = .ok (.aload_n 0, 1) := by decide +kernel
theorem dX3_takeSettings_6 : decode cX3_takeSettings 6 = .ok (.getfield 9, 3) := by decide +kernel
theorem dX3_takeSettings_9 : decode cX3_takeSettings 9 = .ok (.iconst 0, 1) := by decide +kernel
theorem dX3_takeSettings_10 : decode cX3_takeSettings 10 = .ok (.iconst 4, 1) := by decide +kernel
theorem dX3_takeSettings_11 : decode cX3_takeSettings 11 = .ok (.invokestatic 34, 3) := by decide +kernel
theorem dX3_takeSettings_14 : decode cX3_takeSettings 14 = .ok (.return_, 1) := by decide +kernel
set_option maxRecDepth 20000 in
theorem ggX3_become_X3_takeSettings : GoodIn wsX3_become wsX3_takeSettings := goodIn_r _ [11, 12, 13, 14, 15, 16, 17, 18, 19, 20, 21, 22, 23] (by decide +kernel) (by decide +kernel)
set_option maxRecDepth 20000 in
theorem gX3_become_X3_takeSettings : GoodIn wsX3_become (wsV RX3 40 RX3 yX3_takeSettings wsX3_takeSettings) := goodIn_app (goodIn_of _ (by decide +kernel)) ggX3_become_X3_takeSettings
theorem dX3_become_0 : decode cX3_become 0 = .ok (.aload_n 0, 1) := by decide +kernel
theorem dX3_become_1 : decode cX3_become 1 = .ok (.aload_n 1, 1) := by decide +kernel
theorem dX3_become_2 : decode cX3_become 2 = .ok (.invokevirtual 40, 3) := by decide +kernel
theorem dX3_become_5 : decode cX3_become 5 = .ok (.aload_n 0, 1) := by decide +kernel
theorem dX3_become_6 : decode cX3_become 6 = .ok (.aload_n 1, 1) := by decide +kernel
theorem dX3_become_7 : decode cX3_become 7 = .ok (.getfield 44, 3) := by decide +kernel
theorem dX3_become_10 : decode cX3_become 10 = .ok (.putfield 44, 3) := by decide +kernel
theorem dX3_become_13 : decode cX3_become 13 = .ok (.iconst 0, 1) := by decide +kernel
theorem dX3_become_14 : decode cX3_become 14 = .ok (.istore_n 2, 1) := by decide +kernel
theorem dX3_become_15 : decode cX3_become 15 = .ok (.iload_n 2, 1) := by decide +kernel
theorem dX3_become_16 : decode cX3_become 16 = .ok (.bipush 40, 2) := by decide +kernel
theorem dX3_become_18 : decode cX3_become 18 = .ok (.if_icmp .ge 69, 3) := by decide +kernel
theorem dX3_become_21 : decode cX3_become 21 = .ok (.aload_n 0, 1) := by decide +kernel
theorem dX3_become_22 : decode cX3_become 22 = .ok (.getfield 15, 3) := by decide +kernel
theorem dX3_become_25 : decode cX3_become 25 = .ok (.iload_n 2, 1) := by decide +kernel
theorem dX3_become_26 : decode cX3_become 26 = .ok (.aload_n 1, 1) := by decide +kernel
theorem dX3_become_27 : decode cX3_become 27 = .ok (.getfield 15, 3) := by decide +kernel
theorem dX3_become_30 : decode cX3_become 30 = .ok (.iload_n 2, 1) := by decide +kernel
theorem dX3_become_31 : decode cX3_become 31 = .ok (.iaload, 1) := by decide +kernel
theorem dX3_become_32 : decode cX3_become 32 = .ok (.iastore, 1) := by decide +kernel
theorem dX3_become_33 : decode cX3_become 33 = .ok (.aload_n 0, 1) := by decide +kernel
theorem dX3_become_34 : decode cX3_become 34 = .ok (.getfield 18, 3) := by decide +kernel
theorem dX3_become_37 : decode cX3_become 37 = .ok (.iload_n 2, 1) := by decide +kernel
theorem dX3_become_38 : decode cX3_become 38 = .ok (.aload_n 1, 1) := by decide +kernel
theorem dX3_become_39 : decode cX3_become 39 = .ok (.getfield 18, 3) := by decide +kernel
theorem dX3_become_42 : decode cX3_become 42 = .ok (.iload_n 2, 1) := by decide +kernel
theorem dX3_become_43 : decode cX3_become 43 = .ok (.iaload, 1) := by decide +kernel
theorem dX3_become_44 : decode cX3_become 44 = .ok (.iastore, 1) := by decide +kernel
theorem dX3_become_45 : decode cX3_become 45 = .ok (.aload_n 0, 1) := by decide +kernel
theorem dX3_become_46 : decode cX3_become 46 = .ok (.getfield 21, 3) := by decide +kernel
theorem dX3_become_49 : decode cX3_become 49 = .ok (.iload_n 2, 1) := by decide +kernel
theorem dX3_become_50 : decode cX3_become 50 = .ok (.aload_n 1, 1) := by decide +kernel
theorem dX3_become_51 : decode cX3_become 51 = .ok (.getfield 21, 3) := by decide +kernel
theorem dX3_become_54 : decode cX3_become 54 = .ok (.iload_n 2, 1) := by decide +kernel
theorem dX3_become_55 : decode cX3_become 55 = .ok (.iaload, 1) := by decide +kernel
theorem dX3_become_56 : decode cX3_become 56 = .ok (.iastore, 1) := by decide +kernel
theorem dX3_become_57 : decode cX3_become 57 = .ok (.aload_n 0, 1) := by decide +kernel
theorem dX3_become_58 : decode cX3_become 58 = .ok (.getfield 24, 3) := by decide +kernel
theorem dX3_become_61 : decode cX3_become 61 = .ok (.iload_n 2, 1) := by decide +kernel
theorem dX3_become_62 : decode cX3_become 62 = .ok (.aload_n 1, 1) := by decide +kernel
theorem dX3_become_63 : decode cX3_become 63 = .ok (.getfield 24, 3) := by decide +kernel
theorem dX3_become_66 : decode cX3_become 66 = .ok (.iload_n 2, 1) := by decide +kernel
theorem dX3_become_67 : decode cX3_become 67 = .ok (.iaload, 1) := by decide +kernel
theorem dX3_become_68 : decode cX3_become 68 = .ok (.iastore, 1) := by decide +kernel
theorem dX3_become_69 : decode cX3_become 69 = .ok (.aload_n 0, 1) := by decide +kernel
theorem dX3_become_70 : decode cX3_become 70 = .ok (.getfield 27, 3) := by decide +kernel
theorem dX3_become_73 : decode cX3_become 73 = .ok (.iload_n 2, 1) := by decide +kernel
theorem dX3_become_74 : decode cX3_become 74 = .ok (.aload_n 1, 1) := by decide +kernel
theorem dX3_become_75 : decode cX3_become 75 = .ok (.getfield 27, 3) := by decide +kernel
theorem dX3_become_78 : decode cX3_become 78 = .ok (.iload_n 2, 1) := by decide +kernel
theorem dX3_become_79 : decode cX3_become 79 = .ok (.baload, 1) := by decide +kernel
theorem dX3_become_80 : decode cX3_become 80 = .ok (.bastore, 1) := by decide +kernel
theorem dX3_become_81 : decode cX3_become 81 = .ok (.iinc 2 1, 3) := by decide +kernel
theorem dX3_become_84 : decode cX3_become 84 = .ok (.goto (-69), 3) := by decide +kernel
theorem dX3_become_87 : decode cX3_become 87 = .ok (.return_, 1) := by decide +kernel
set_option maxRecDepth 20000 in
theorem ggX3_settingOf_X4_isIn : GoodIn wsX3_settingOf wsX4_isIn := goodIn_r _ [4] (by decide +kernel) (by decide +kernel)
set_option maxRecDepth 20000 in
theorem gX3_settingOf_X4_isIn_n48 : GoodIn wsX3_settingOf (wsX4_isIn) := ggX3_settingOf_X4_isIn
theorem dX3_settingOf_0 : decode cX3_settingOf 0 = .ok (.iload_n 1, 1) := by decide +kernel
theorem dX3_settingOf_1 : decode cX3_settingOf 1 = .ok (.iconst 0, 1) := by decide +kernel
theorem dX3_settingOf_2 : decode cX3_settingOf 2 = .ok (.iconst 3, 1) := by decide +kernel
theorem dX3_settingOf_3 : decode cX3_settingOf 3 = .ok (.invokestatic 48, 3) := by decide +kernel
theorem dX3_settingOf_6 : decode cX3_settingOf 6 = .ok (.ifCond .eq 12, 3) := by decide +kernel
theorem dX3_settingOf_9 : decode cX3_settingOf 9 = .ok (.aload_n 0, 1) := by decide +kernel
theorem dX3_settingOf_10 : decode cX3_settingOf 10 = .ok (.getfield 9, 3) := by decide +kernel
theorem dX3_settingOf_13 : decode cX3_settingOf 13 = .ok (.iload_n 1, 1) := by decide +kernel
theorem dX3_settingOf_14 : decode cX3_settingOf 14 = .ok (.iaload, 1) := by decide +kernel
theorem dX3_settingOf_15 : decode cX3_settingOf 15 = .ok (.goto 4, 3) := by decide +kernel
theorem dX3_settingOf_18 : decode cX3_settingOf 18 = .ok (.iconst 0, 1) := by decide +kernel
theorem dX3_settingOf_19 : decode cX3_settingOf 19 = .ok (.ireturn, 1) := by decide +kernel
set_option maxRecDepth 20000 in
theorem ggX3_giveSetting_X4_isIn : GoodIn wsX3_giveSetting wsX4_isIn := goodIn_r _ [4] (by decide +kernel) (by decide +kernel)
set_option maxRecDepth 20000 in
theorem gX3_giveSetting_X4_isIn_n48 : GoodIn wsX3_giveSetting (wsX4_isIn) := ggX3_giveSetting_X4_isIn
theorem dX3_giveSetting_0 : decode cX3_giveSetting 0 = .ok (.iload_n 1, 1) := by decide +kernel
theorem dX3_giveSetting_1 : decode cX3_giveSetting 1 = .ok (.iconst 0, 1) := by decide +kernel
theorem dX3_giveSetting_2 : decode cX3_giveSetting 2 = .ok (.iconst 3, 1) := by decide +kernel
theorem dX3_giveSetting_3 : decode cX3_giveSetting 3 = .ok (.invokestatic 48, 3) := by decide +kernel
theorem dX3_giveSetting_6 : decode cX3_giveSetting 6 = .ok (.ifCond .eq 10, 3) := by decide +kernel
theorem dX3_giveSetting_9 : decode cX3_giveSetting 9 = .ok (.aload_n 0, 1) := by decide +kernel
theorem dX3_giveSetting_10 : decode cX3_giveSetting 10 = .ok (.getfield 9, 3) := by decide +kernel
theorem dX3_giveSetting_13 : decode cX3_giveSetting 13 = .ok (.iload_n 1, 1) := by decide +kernel
theorem dX3_giveSetting_14 : decode cX3_giveSetting 14 = .ok (.iload_n 2, 1) := by decide +kernel
theorem dX3_giveSetting_15 : decode cX3_giveSetting 15 = .ok (.iastore, 1) := by decide +kernel
theorem dX3_giveSetting_16 : decode cX3_giveSetting 16 = .ok (.return_, 1) := by decide +kernel
theorem dX3_size_0 : decode cX3_size 0 = .ok (.aload_n 0, 1) := by decide +kernel
theorem dX3_size_1 : decode cX3_size 1 = .ok (.getfield 44, 3) := by decide +kernel
theorem dX3_size_4 : decode cX3_size 4 = .ok (.ireturn, 1) := by decide +kernel
theorem dX3_has_0 : decode cX3_has 0 = .ok (.iload_n 1, 1) := by decide +kernel
theorem dX3_has_1 : decode cX3_has 1 = .ok (.ifCond .lt 21, 3) := by decide +kernel
theorem dX3_has_4 : decode cX3_has 4 = .ok (.iload_n 1, 1) := by decide +kernel
theorem dX3_has_5 : decode cX3_has 5 = .ok (.aload_n 0, 1) := by decide +kernel
theorem dX3_has_6 : decode cX3_has 6 = .ok (.getfield 44, 3) := by decide +kernel
theorem dX3_has_9 : decode cX3_has 9 = .ok (.if_icmp .ge 13, 3) := by decide +kernel
theorem dX3_has_12 : decode cX3_has 12 = .ok (.iload_n 1, 1) := by decide +kernel
theorem dX3_has_13 : decode cX3_has 13 = .ok (.bipush 40, 2) := by decide +kernel
theorem dX3_has_15 : decode cX3_has 15 = .ok (.if_icmp .ge 7, 3) := by decide +kernel
theorem dX3_has_18 : decode cX3_has 18 = .ok (.iconst 1, 1) := by decide +kernel
theorem dX3_has_19 : decode cX3_has 19 = .ok (.goto 4, 3) := by decide +kernel
theorem dX3_has_22 : decode cX3_has 22 = .ok (.iconst 0, 1) := by decide +kernel
theorem dX3_has_23 : decode cX3_has 23 = .ok (.ireturn, 1) := by decide +kernel
set_option maxRecDepth 20000 in
theorem ggX3_trackOf_X3_has : GoodIn wsX3_trackOf wsX3_has := goodIn_r _ [6, 7, 8, 9, 10, 11, 12, 13, 14] (by decide +kernel) (by decide +kernel)
set_option maxRecDepth 20000 in
theorem gX3_trackOf_X3_has : GoodIn wsX3_trackOf (wsV RX3 52 RX3 yX3_has wsX3_has) := goodIn_app (goodIn_of _ (by decide +kernel)) ggX3_trackOf_X3_has
theorem dX3_trackOf_0 : decode cX3_trackOf 0 = .ok (.aload_n 0, 1) := by decide +kernel
theorem dX3_trackOf_1 : decode cX3_trackOf 1 = .ok (.iload_n 1, 1) := by decide +kernel
theorem dX3_trackOf_2 : decode cX3_trackOf 2 = .ok (.invokevirtual 52, 3) := by decide +kernel
theorem dX3_trackOf_5 : decode cX3_trackOf 5 = .ok (.ifCond .eq 12, 3) := by decide +kernel
theorem dX3_trackOf_8 : decode cX3_trackOf 8 = .ok (.aload_n 0, 1) := by decide +kernel
theorem dX3_trackOf_9 : decode cX3_trackOf 9 = .ok (.getfield 15, 3) := by decide +kernel
theorem dX3_trackOf_12 : decode cX3_trackOf 12 = .ok (.iload_n 1, 1) := by decide +kernel
theorem dX3_trackOf_13 : decode cX3_trackOf 13 = .ok (.iaload, 1) := by decide +kernel
theorem dX3_trackOf_14 : decode cX3_trackOf 14 = .ok (.goto 4, 3) := by decide +kernel
theorem dX3_trackOf_17 : decode cX3_trackOf 17 = .ok (.iconst 0, 1) := by decide +kernel
theorem dX3_trackOf_18 : decode cX3_trackOf 18 = .ok (.ireturn, 1) := by decide +kernel
set_option maxRecDepth 20000 in
theorem ggX3_firstOf_X3_has : GoodIn wsX3_firstOf wsX3_has := goodIn_r _ [6, 7, 8, 9, 10, 11, 12, 13, 14] (by decide +kernel) (by decide +kernel)
set_option maxRecDepth 20000 in
theorem gX3_firstOf_X3_has : GoodIn wsX3_firstOf (wsV RX3 52 RX3 yX3_has wsX3_has) := goodIn_app (goodIn_of _ (by decide +kernel)) ggX3_firstOf_X3_has
theorem dX3_firstOf_0 : decode cX3_firstOf 0 = .ok (.aload_n 0, 1) := by decide +kernel
theorem dX3_firstOf_1 : decode cX3_firstOf 1 = .ok (.iload_n 1, 1) := by decide +kernel
theorem dX3_firstOf_2 : decode cX3_firstOf 2 = .ok (.invokevirtual 52, 3) := by decide +kernel
theorem dX3_firstOf_5 : decode cX3_firstOf 5 = .ok (.ifCond .eq 12, 3) := by decide +kernel
theorem dX3_firstOf_8 : decode cX3_firstOf 8 = .ok (.aload_n 0, 1) := by decide +kernel
theorem dX3_firstOf_9 : decode cX3_firstOf 9 = .ok (.getfield 18, 3) := by decide +kernel
theorem dX3_firstOf_12 : decode cX3_firstOf 12 = .ok (.iload_n 1, 1) := by decide +kernel
theorem dX3_firstOf_13 : decode cX3_firstOf 13 = .ok (.iaload, 1) := by decide +kernel
theorem dX3_firstOf_14 : decode cX3_firstOf 14 = .ok (.goto 4, 3) := by decide +kernel
theorem dX3_firstOf_17 : decode cX3_firstOf 17 = .ok (.iconst 0, 1) := by decide +kernel
theorem dX3_firstOf_18 : decode cX3_firstOf 18 = .ok (.ireturn, 1) := by decide +kernel
set_option maxRecDepth 20000 in
theorem ggX3_lastOf_X3_has : GoodIn wsX3_lastOf wsX3_has := goodIn_r _ [6, 7, 8, 9, 10, 11, 12, 13, 14] (by decide +kernel) (by decide +kernel)
set_option maxRecDepth 20000 in
theorem gX3_lastOf_X3_has : GoodIn wsX3_lastOf (wsV RX3 52 RX3 yX3_has wsX3_has) := goodIn_app (goodIn_of _ (by decide +kernel)) ggX3_lastOf_X3_has
theorem dX3_lastOf_0 : decode cX3_lastOf 0 = .ok (.aload_n 0, 1) := by decide +kernel
theorem dX3_lastOf_1 : decode cX3_lastOf 1 = .ok (.iload_n 1, 1) := by decide +kernel
theorem dX3_lastOf_2 : decode cX3_lastOf 2 = .ok (.invokevirtual 52, 3) := by decide +kernel
theorem dX3_lastOf_5 : decode cX3_lastOf 5 = .ok (.ifCond .eq 12, 3) := by decide +kernel
theorem dX3_lastOf_8 : decode cX3_lastOf 8 = .ok (.aload_n 0, 1) := by decide +kernel
theorem dX3_lastOf_9 : decode cX3_lastOf 9 = .ok (.getfield 21, 3) := by decide +kernel
theorem dX3_lastOf_12 : decode cX3_lastOf 12 = .ok (.iload_n 1, 1) := by decide +kernel
theorem dX3_lastOf_13 : decode cX3_lastOf 13 = .ok (.iaload, 1) := by decide +kernel
theorem dX3_lastOf_14 : decode cX3_lastOf 14 = .ok (.goto 4, 3) := by decide +kernel
theorem dX3_lastOf_17 : decode cX3_lastOf 17 = .ok (.iconst 0, 1) := by decide +kernel
theorem dX3_lastOf_18 : decode cX3_lastOf 18 = .ok (.ireturn, 1) := by decide +kernel
set_option maxRecDepth 20000 in
theorem ggX3_shiftOf_X3_has : GoodIn wsX3_shiftOf wsX3_has := goodIn_r _ [6, 7, 8, 9, 10, 11, 12, 13, 14] (by decide +kernel) (by decide +kernel)
set_option maxRecDepth 20000 in
theorem gX3_shiftOf_X3_has : GoodIn wsX3_shiftOf (wsV RX3 52 RX3 yX3_has wsX3_has) := goodIn_app (goodIn_of _ (by decide +kernel)) ggX3_shiftOf_X3_has
theorem dX3_shiftOf_0 : decode cX3_shiftOf 0 = .ok (.aload_n 0, 1) := by decide +kernel
theorem dX3_shiftOf_1 : decode cX3_shiftOf 1 = .ok (.iload_n 1, 1) := by decide +kernel
theorem dX3_shiftOf_2 : decode cX3_shiftOf 2 = .ok (.invokevirtual 52, 3) := by decide +kernel
theorem dX3_shiftOf_5 : decode cX3_shiftOf 5 = .ok (.ifCond .eq 12, 3) := by decide +kernel
theorem dX3_shiftOf_8 : decode cX3_shiftOf 8 = .ok (.aload_n 0, 1) := by decide +kernel
theorem dX3_shiftOf_9 : decode cX3_shiftOf 9 = .ok (.getfield 24, 3) := by decide +kernel
theorem dX3_shiftOf_12 : decode cX3_shiftOf 12 = .ok (.iload_n 1, 1) := by decide +kernel
theorem dX3_shiftOf_13 : decode cX3_shiftOf 13 = .ok (.iaload, 1) := by decide +kernel
theorem dX3_shiftOf_14 : decode cX3_shiftOf 14 = .ok (.goto 4, 3) := by decide +kernel
theorem dX3_shiftOf_17 : decode cX3_shiftOf 17 = .ok (.iconst 0, 1) := by decide +kernel
theorem dX3_shiftOf_18 : decode cX3_shiftOf 18 = .ok (.ireturn, 1) := by decide +kernel
set_option maxRecDepth 20000 in
theorem ggX3_hasAccent_X3_has : GoodIn wsX3_hasAccent wsX3_has := goodIn_r _ [6, 7, 8, 9, 10, 11, 12, 13, 14] (by decide +kernel) (by decide +kernel)
set_option maxRecDepth 20000 in
theorem gX3_hasAccent_X3_has : GoodIn wsX3_hasAccent (wsV RX3 52 RX3 yX3_has wsX3_has) := goodIn_app (goodIn_of _ (by decide +kernel)) ggX3_hasAccent_X3_has
theorem dX3_hasAccent_0 : decode cX3_hasAccent 0 = .ok (.aload_n 0, 1) := by decide +kernel
theorem dX3_hasAccent_1 : decode cX3_hasAccent 1 = .ok (.iload_n 1, 1) := by decide +kernel
theorem dX3_hasAccent_2 : decode cX3_hasAccent 2 = .ok (.invokevirtual 52, 3) := by decide +kernel
theorem dX3_hasAccent_5 : decode cX3_hasAccent 5 = .ok (.ifCond .eq 16, 3) := by decide +kernel
theorem dX3_hasAccent_8 : decode cX3_hasAccent 8 = .ok (.aload_n 0, 1) := by decide +kernel
theorem dX3_hasAccent_9 : decode cX3_hasAccent 9 = .ok (.getfield 27, 3) := by decide +kernel
theorem dX3_hasAccent_12 : decode cX3_hasAccent 12 = .ok (.iload_n 1, 1) := by decide +kernel
theorem dX3_hasAccent_13 : decode cX3_hasAccent 13 = .ok (.baload, 1) := by decide +kernel
theorem dX3_hasAccent_14 : decode cX3_hasAccent 14 = .ok (.ifCond .eq 7, 3) := by decide +kernel
theorem dX3_hasAccent_17 : decode cX3_hasAccent 17 = .ok (.iconst 1, 1) := by decide +kernel
theorem dX3_hasAccent_18 : decode cX3_hasAccent 18 = .ok (.goto 4, 3) := by decide +kernel
theorem dX3_hasAccent_21 : decode cX3_hasAccent 21 = .ok (.iconst 0, 1) := by decide +kernel
theorem dX3_hasAccent_22 : decode cX3_hasAccent 22 = .ok (.ireturn, 1) := by decide +kernel
set_option maxRecDepth 20000 in
theorem ggX3_giveShift_X3_has : GoodIn wsX3_giveShift wsX3_has := goodIn_r _ [6, 7, 8, 9, 10, 11, 12, 13, 14] (by decide +kernel) (by decide +kernel)
set_option maxRecDepth 20000 in
theorem gX3_giveShift_X3_has : GoodIn wsX3_giveShift (wsV RX3 52 RX3 yX3_has wsX3_has) := goodIn_app (goodIn_of _ (by decide +kernel)) ggX3_giveShift_X3_has
theorem dX3_giveShift_0 : decode cX3_giveShift 0 = .ok (.aload_n 0, 1) := by decide +kernel
theorem dX3_giveShift_1 : decode cX3_giveShift 1 = .ok (.iload_n 1, 1) := by decide +kernel
theorem dX3_giveShift_2 : decode cX3_giveShift 2 = .ok (.invokevirtual 52, 3) := by decide +kernel
theorem dX3_giveShift_5 : decode cX3_giveShift 5 = .ok (.ifCond .eq 10, 3) := by decide +kernel
theorem dX3_giveShift_8 : decode cX3_giveShift 8 = .ok (.aload_n 0, 1) := by decide +kernel
theorem dX3_giveShift_9 : decode cX3_giveShift 9 = .ok (.getfield 24, 3) := by decide +kernel
theorem dX3_giveShift_12 : decode cX3_giveShift 12 = .ok (.iload_n 1, 1) := by decide +kernel
theorem dX3_giveShift_13 : decode cX3_giveShift 13 = .ok (.iload_n 2, 1) := by decide +kernel
theorem dX3_giveShift_14 : decode cX3_giveShift 14 = .ok (.iastore, 1) := by decide +kernel
theorem dX3_giveShift_15 : decode cX3_giveShift 15 = .ok (.return_, 1) := by decide +kernel
set_option maxRecDepth 20000 in
theorem ggX3_giveAccent_X3_has : GoodIn wsX3_giveAccent wsX3_has := goodIn_r _ [6, 7, 8, 9, 10, 11, 12, 13, 14] (by decide +kernel) (by decide +kernel)
set_option maxRecDepth 20000 in
theorem gX3_giveAccent_X3_has : GoodIn wsX3_giveAccent (wsV RX3 52 RX3 yX3_has wsX3_has) := goodIn_app (goodIn_of _ (by decide +kernel)) ggX3_giveAccent_X3_has
theorem dX3_giveAccent_0 : decode cX3_giveAccent 0 = .ok (.aload_n 0, 1) := by decide +kernel
theorem dX3_giveAccent_1 : decode cX3_giveAccent 1 = .ok (.iload_n 1, 1) := by decide +kernel
theorem dX3_giveAccent_2 : decode cX3_giveAccent 2 = .ok (.invokevirtual 52, 3) := by decide +kernel
theorem dX3_giveAccent_5 : decode cX3_giveAccent 5 = .ok (.ifCond .eq 10, 3) := by decide +kernel
theorem dX3_giveAccent_8 : decode cX3_giveAccent 8 = .ok (.aload_n 0, 1) := by decide +kernel
theorem dX3_giveAccent_9 : decode cX3_giveAccent 9 = .ok (.getfield 27, 3) := by decide +kernel
theorem dX3_giveAccent_12 : decode cX3_giveAccent 12 = .ok (.iload_n 1, 1) := by decide +kernel
theorem dX3_giveAccent_13 : decode cX3_giveAccent 13 = .ok (.iload_n 2, 1) := by decide +kernel
theorem dX3_giveAccent_14 : decode cX3_giveAccent 14 = .ok (.bastore, 1) := by decide +kernel
theorem dX3_giveAccent_15 : decode cX3_giveAccent 15 = .ok (.return_, 1) := by decide +kernel
set_option maxRecDepth 20000 in
theorem ggX3_add_X3_placeFor : GoodIn wsX3_add wsX3_placeFor := goodIn_r _ [11, 1, 12, 13, 14, 10, 15, 3, 16, 17, 18, 19, 20, 21, 22, 23, 2, 31, 32, 33, 34, 35, 36, 37] (by decide +kernel) (by decide +kernel)
set_option maxRecDepth 20000 in
theorem gX3_add_X3_placeFor : GoodIn wsX3_add (wsV RX3 56 RX3 yX3_placeFor wsX3_placeFor) := goodIn_app (goodIn_of _ (by decide +kernel)) ggX3_add_X3_placeFor
set_option maxRecDepth 20000 in
theorem ggX3_add_X3_move : GoodIn wsX3_add wsX3_move := goodIn_r _ [27, 2, 3, 4, 5, 6, 28, 29, 30, 31, 32, 33, 34, 35, 36, 37] (by decide +kernel) (by decide +kernel)
set_option maxRecDepth 20000 in
theorem gX3_add_X3_move : GoodIn wsX3_add (wsV RX3 60 RX3 yX3_move wsX3_move) := goodIn_app (goodIn_of _ (by decide +kernel)) ggX3_add_X3_move
set_option maxRecDepth 20000 in
theorem ggX3_add_X4_isIn : GoodIn wsX3_add wsX4_isIn := goodIn_r _ [30] (by decide +kernel) (by decide +kernel)
set_option maxRecDepth 20000 in
theorem gX3_add_X4_isIn_n48 : GoodIn wsX3_add (wsX4_isIn) := ggX3_add_X4_isIn
theorem dX3_add_0 : decode cX3_add 0 = .ok (.aload_n 0, 1) := by decide +kernel
theorem dX3_add_1 : decode cX3_add 1 = .ok (.getfield 44, 3) := by decide +kernel
theorem dX3_add_4 : decode cX3_add 4 = .ok (.bipush 40, 2) := by decide +kernel
theorem dX3_add_6 : decode cX3_add 6 = .ok (.if_icmp .lt 6, 3) := by decide +kernel
theorem dX3_add_9 : decode cX3_add 9 = .ok (.bipush (-4), 2) := by decide +kernel
theorem dX3_add_11 : decode cX3_add 11 = .ok (.ireturn, 1) := by decide +kernel
theorem dX3_add_12 : decode cX3_add 12 = .ok (.aload_n 0, 1) := by decide +kernel
theorem dX3_add_13 : decode cX3_add 13 = .ok (.iload_n 1, 1) := by decide +kernel
theorem dX3_add_14 : decode cX3_add 14 = .ok (.iload_n 2, 1) := by decide +kernel
theorem dX3_add_15 : decode cX3_add 15 = .ok (.invokevirtual 56, 3) := by decide +kernel
theorem dX3_add_18 : decode cX3_add 18 = .ok (.istore 6, 2) := by decide +kernel
theorem dX3_add_20 : decode cX3_add 20 = .ok (.aload_n 0, 1) := by decide +kernel
theorem dX3_add_21 : decode cX3_add 21 = .ok (.getfield 44, 3) := by decide +kernel
theorem dX3_add_24 : decode cX3_add 24 = .ok (.istore 7, 2) := by decide +kernel
theorem dX3_add_26 : decode cX3_add 26 = .ok (.iload 7, 2) := by decide +kernel
theorem dX3_add_28 : decode cX3_add 28 = .ok (.iload 6, 2) := by decide +kernel
theorem dX3_add_30 : decode cX3_add 30 = .ok (.if_icmp .le 19, 3) := by decide +kernel
theorem dX3_add_33 : decode cX3_add 33 = .ok (.aload_n 0, 1) := by decide +kernel
theorem dX3_add_34 : decode cX3_add 34 = .ok (.iload 7, 2) := by decide +kernel
theorem dX3_add_36 : decode cX3_add 36 = .ok (.iconst 1, 1) := by decide +kernel
theorem dX3_add_37 : decode cX3_add 37 = .ok (.isub, 1) := by decide +kernel
theorem dX3_add_38 : decode cX3_add 38 = .ok (.iload 7, 2) := by decide +kernel
theorem dX3_add_40 : decode cX3_add 40 = .ok (.invokevirtual 60, 3) := by decide +kernel
theorem dX3_add_43 : decode cX3_add 43 = .ok (.iinc 7 (-1), 3) := by decide +kernel
theorem dX3_add_46 : decode cX3_add 46 = .ok (.goto (-20), 3) := by decide +kernel
theorem dX3_add_49 : decode cX3_add 49 = .ok (.iload 6, 2) := by decide +kernel
theorem dX3_add_51 : decode cX3_add 51 = .ok (.iconst 0, 1) := by decide +kernel
theorem dX3_add_52 : decode cX3_add 52 = .ok (.bipush 39, 2) := by decide +kernel
theorem dX3_add_54 : decode cX3_add 54 = .ok (.invokestatic 48, 3) := by decide +kernel
theorem dX3_add_57 : decode cX3_add 57 = .ok (.ifCond .eq 45, 3) := by decide +kernel
theorem dX3_add_60 : decode cX3_add 60 = .ok (.aload_n 0, 1) := by decide +kernel
theorem dX3_add_61 : decode cX3_add 61 = .ok (.getfield 15, 3) := by decide +kernel
theorem dX3_add_64 : decode cX3_add 64 = .ok (.iload 6, 2) := by decide +kernel
theorem dX3_add_66 : decode cX3_add 66 = .ok (.iload_n 1, 1) := by decide +kernel
theorem dX3_add_67 : decode cX3_add 67 = .ok (.iastore, 1) := by decide +kernel
theorem dX3_add_68 : decode cX3_add 68 = .ok (.aload_n 0, 1) := by decide +kernel
theorem dX3_add_69 : decode cX3_add 69 = .ok (.getfield 18, 3) := by decide +kernel
theorem dX3_add_72 : decode cX3_add 72 = .ok (.iload 6, 2) := by decide +kernel
theorem dX3_add_74 : decode cX3_add 74 = .ok (.iload_n 2, 1) := by decide +kernel
theorem dX3_add_75 : decode cX3_add 75 = .ok (.iastore, 1) := by decide +kernel
theorem dX3_add_76 : decode cX3_add 76 = .ok (.aload_n 0, 1) := by decide +kernel
theorem dX3_add_77 : decode cX3_add 77 = .ok (.getfield 21, 3) := by decide +kernel
theorem dX3_add_80 : decode cX3_add 80 = .ok (.iload 6, 2) := by decide +kernel
theorem dX3_add_82 : decode cX3_add 82 = .ok (.iload_n 3, 1) := by decide +kernel
theorem dX3_add_83 : decode cX3_add 83 = .ok (.iastore, 1) := by decide +kernel
theorem dX3_add_84 : decode cX3_add 84 = .ok (.aload_n 0, 1) := by decide +kernel
theorem dX3_add_85 : decode cX3_add 85 = .ok (.getfield 24, 3) := by decide +kernel
theorem dX3_add_88 : decode cX3_add 88 = .ok (.iload 6, 2) := by decide +kernel
theorem dX3_add_90 : decode cX3_add 90 = .ok (.iload 4, 2) := by decide +kernel
theorem dX3_add_92 : decode cX3_add 92 = .ok (.iastore, 1) := by decide +kernel
theorem dX3_add_93 : decode cX3_add 93 = .ok (.aload_n 0, 1) := by decide +kernel
theorem dX3_add_94 : decode cX3_add 94 = .ok (.getfield 27, 3) := by decide +kernel
theorem dX3_add_97 : decode cX3_add 97 = .ok (.iload 6, 2) := by decide +kernel
theorem dX3_add_99 : decode cX3_add 99 = .ok (.iload 5, 2) := by decide +kernel
theorem dX3_add_101 : decode cX3_add 101 = .ok (.bastore, 1) := by decide +kernel
theorem dX3_add_102 : decode cX3_add 102 = .ok (.aload_n 0, 1) := by decide +kernel
theorem dX3_add_103 : decode cX3_add 103 = .ok (.dup, 1) := by decide +kernel
theorem dX3_add_104 : decode cX3_add 104 = .ok (.getfield 44, 3) := by decide +kernel
theorem dX3_add_107 : decode cX3_add 107 = .ok (.iconst 1, 1) := by decide +kernel
theorem dX3_add_108 : decode cX3_add 108 = .ok (.iadd, 1) := by decide +kernel
theorem dX3_add_109 : decode cX3_add 109 = .ok (.putfield 44, 3) := by decide +kernel
theorem dX3_add_112 : decode cX3_add 112 = .ok (.iload 6, 2) := by decide +kernel
theorem dX3_add_114 : decode cX3_add 114 = .ok (.ireturn, 1) := by decide +kernel
set_option maxRecDepth 20000 in
theorem ggX3_placeFor_X3_firstOf : GoodIn wsX3_placeFor wsX3_firstOf := goodIn_r _ [6, 7, 8, 9, 10, 5, 11, 1, 17, 18, 19, 20, 21, 22, 23] (by decide +kernel) (by decide +kernel)
set_option maxRecDepth 20000 in
theorem gX3_placeFor_X3_firstOf : GoodIn wsX3_placeFor (wsV RX3 64 RX3 yX3_firstOf wsX3_firstOf) := goodIn_app (goodIn_of _ (by decide +kernel)) ggX3_placeFor_X3_firstOf
set_option maxRecDepth 20000 in
theorem ggX3_placeFor_X3_trackOf : GoodIn wsX3_placeFor wsX3_trackOf := goodIn_r _ [15, 16, 8, 9, 10, 5, 11, 1, 17, 18, 19, 20, 21, 22, 23] (by decide +kernel) (by decide +kernel)
set_option maxRecDepth 20000 in
theorem gX3_placeFor_X3_trackOf : GoodIn wsX3_placeFor (wsV RX3 68 RX3 yX3_trackOf wsX3_trackOf) := goodIn_app (goodIn_of _ (by decide +kernel)) ggX3_placeFor_X3_trackOf
theorem dX3_placeFor_0 : decode cX3_placeFor 0 = .ok (.iconst 0, 1) := by decide +kernel
theorem dX3_placeFor_1 : decode cX3_placeFor 1 = .ok (.istore_n 3, 1) := by decide +kernel
theorem dX3_placeFor_2 : decode cX3_placeFor 2 = .ok (.iconst 0, 1) := by decide +kernel
theorem dX3_placeFor_3 : decode cX3_placeFor 3 = .ok (.istore 4, 2) := by decide +kernel
theorem dX3_placeFor_5 : decode cX3_placeFor 5 = .ok (.iload 4, 2) := by decide +kernel
theorem dX3_placeFor_7 : decode cX3_placeFor 7 = .ok (.aload_n 0, 1) := by decide +kernel
theorem dX3_placeFor_8 : decode cX3_placeFor 8 = .ok (.getfield 44, 3) := by decide +kernel
theorem dX3_placeFor_11 : decode cX3_placeFor 11 = .ok (.if_icmp .ge 42, 3) := by decide +kernel
theorem dX3_placeFor_14 : decode cX3_placeFor 14 = .ok (.aload_n 0, 1) := by decide +kernel
theorem dX3_placeFor_15 : decode cX3_placeFor 15 = .ok (.iload 4, 2) := by decide +kernel
theorem dX3_placeFor_17 : decode cX3_placeFor 17 = .ok (.invokevirtual 64, 3) := by decide +kernel
theorem dX3_placeFor_20 : decode cX3_placeFor 20 = .ok (.iload_n 2, 1) := by decide +kernel
theorem dX3_placeFor_21 : decode cX3_placeFor 21 = .ok (.if_icmp .lt 23, 3) := by decide +kernel
theorem dX3_placeFor_24 : decode cX3_placeFor 24 = .ok (.aload_n 0, 1) := by decide +kernel
theorem dX3_placeFor_25 : decode cX3_placeFor 25 = .ok (.iload 4, 2) := by decide +kernel
theorem dX3_placeFor_27 : decode cX3_placeFor 27 = .ok (.invokevirtual 64, 3) := by decide +kernel
theorem dX3_placeFor_30 : decode cX3_placeFor 30 = .ok (.iload_n 2, 1) := by decide +kernel
theorem dX3_placeFor_31 : decode cX3_placeFor 31 = .ok (.if_icmp .ne 16, 3) := by decide +kernel
theorem dX3_placeFor_34 : decode cX3_placeFor 34 = .ok (.aload_n 0, 1) := by decide +kernel
theorem dX3_placeFor_35 : decode cX3_placeFor 35 = .ok (.iload 4, 2) := by decide +kernel
theorem dX3_placeFor_37 : decode cX3_placeFor 37 = .ok (.invokevirtual 68, 3) := by decide +kernel
theorem dX3_placeFor_40 : decode cX3_placeFor 40 = .ok (.iload_n 1, 1) := by decide +kernel
theorem dX3_placeFor_41 : decode cX3_placeFor 41 = .ok (.if_icmp .ge 6, 3) := by decide +kernel
theorem dX3_placeFor_44 : decode cX3_placeFor 44 = .ok (.iinc 3 1, 3) := by decide +kernel
theorem dX3_placeFor_47 : decode cX3_placeFor 47 = .ok (.iinc 4 1, 3) := by decide +kernel
theorem dX3_placeFor_50 : decode cX3_placeFor 50 = .ok (.goto (-45), 3) := by decide +kernel
theorem dX3_placeFor_53 : decode cX3_placeFor 53 = .ok (.iload_n 3, 1) := by decide +kernel
theorem dX3_placeFor_54 : decode cX3_placeFor 54 = .ok (.ireturn, 1) := by decide +kernel
set_option maxRecDepth 20000 in
theorem ggX3_move_X4_isIn : GoodIn wsX3_move wsX4_isIn := goodIn_r _ [8] (by decide +kernel) (by decide +kernel)
set_option maxRecDepth 20000 in
theorem gX3_move_X4_isIn_n48 : GoodIn wsX3_move (wsX4_isIn) := ggX3_move_X4_isIn
theorem dX3_move_0 : decode cX3_move 0 = .ok (.iload_n 1, 1) := by decide +kernel
theorem dX3_move_1 : decode cX3_move 1 = .ok (.iconst 0, 1) := by decide +kernel
theorem dX3_move_2 : decode cX3_move 2 = .ok (.bipush 39, 2) := by decide +kernel
theorem dX3_move_4 : decode cX3_move 4 = .ok (.invokestatic 48, 3) := by decide +kernel
theorem dX3_move_7 : decode cX3_move 7 = .ok (.ifCond .eq 73, 3) := by decide +kernel
theorem dX3_move_10 : decode cX3_move 10 = .ok (.iload_n 2, 1) := by decide +kernel
theorem dX3_move_11 : decode cX3_move 11 = .ok (.iconst 0, 1) := by decide +kernel
theorem dX3_move_12 : decode cX3_move 12 = .ok (.bipush 39, 2) := by decide +kernel
theorem dX3_move_14 : decode cX3_move 14 = .ok (.invokestatic 48, 3) := by decide +kernel
theorem dX3_move_17 : decode cX3_move 17 = .ok (.ifCond .eq 63, 3) := by decide +kernel
theorem dX3_move_20 : decode cX3_move 20 = .ok (.aload_n 0, 1) := by decide +kernel
theorem dX3_move_21 : decode cX3_move 21 = .ok (.getfield 15, 3) := by decide +kernel
theorem dX3_move_24 : decode cX3_move 24 = .ok (.iload_n 2, 1) := by decide +kernel
theorem dX3_move_25 : decode cX3_move 25 = .ok (.aload_n 0, 1) := by decide +kernel
theorem dX3_move_26 : decode cX3_move 26 = .ok (.getfield 15, 3) := by decide +kernel
theorem dX3_move_29 : decode cX3_move 29 = .ok (.iload_n 1, 1) := by decide +kernel
theorem dX3_move_30 : decode cX3_move 30 = .ok (.iaload, 1) := by decide +kernel
theorem dX3_move_31 : decode cX3_move 31 = .ok (.iastore, 1) := by decide +kernel
theorem dX3_move_32 : decode cX3_move 32 = .ok (.aload_n 0, 1) := by decide +kernel
theorem dX3_move_33 : decode cX3_move 33 = .ok (.getfield 18, 3) := by decide +kernel
theorem dX3_move_36 : decode cX3_move 36 = .ok (.iload_n 2, 1) := by decide +kernel
theorem dX3_move_37 : decode cX3_move 37 = .ok (.aload_n 0, 1) := by decide +kernel
theorem dX3_move_38 : decode cX3_move 38 = .ok (.getfield 18, 3) := by decide +kernel
theorem dX3_move_41 : decode cX3_move 41 = .ok (.iload_n 1, 1) := by decide +kernel
theorem dX3_move_42 : decode cX3_move 42 = .ok (.iaload, 1) := by decide +kernel
theorem dX3_move_43 : decode cX3_move 43 = .ok (.iastore, 1) := by decide +kernel
theorem dX3_move_44 : decode cX3_move 44 = .ok (.aload_n 0, 1) := by decide +kernel
theorem dX3_move_45 : decode cX3_move 45 = .ok (.getfield 21, 3) := by decide +kernel
theorem dX3_move_48 : decode cX3_move 48 = .ok (.iload_n 2, 1) := by decide +kernel
theorem dX3_move_49 : decode cX3_move 49 = .ok (.aload_n 0, 1) := by decide +kernel
theorem dX3_move_50 : decode cX3_move 50 = .ok (.getfield 21, 3) := by decide +kernel
theorem dX3_move_53 : decode cX3_move 53 = .ok (.iload_n 1, 1) := by decide +kernel
theorem dX3_move_54 : decode cX3_move 54 = .ok (.iaload, 1) := by decide +kernel
theorem dX3_move_55 : decode cX3_move 55 = .ok (.iastore, 1) := by decide +kernel
theorem dX3_move_56 : decode cX3_move 56 = .ok (.aload_n 0, 1) := by decide +kernel
theorem dX3_move_57 : decode cX3_move 57 = .ok (.getfield 24, 3) := by decide +kernel
theorem dX3_move_60 : decode cX3_move 60 = .ok (.iload_n 2, 1) := by decide +kernel
theorem dX3_move_61 : decode cX3_move 61 = .ok (.aload_n 0, 1) := by decide +kernel
theorem dX3_move_62 : decode cX3_move 62 = .ok (.getfield 24, 3) := by decide +kernel
theorem dX3_move_65 : decode cX3_move 65 = .ok (.iload_n 1, 1) := by decide +kernel
theorem dX3_move_66 : decode cX3_move 66 = .ok (.iaload, 1) := by decide +kernel
theorem dX3_move_67 : decode cX3_move 67 = .ok (.iastore, 1) := by decide +kernel
theorem dX3_move_68 : decode cX3_move 68 = .ok (.aload_n 0, 1) := by decide +kernel
theorem dX3_move_69 : decode cX3_move 69 = .ok (.getfield 27, 3) := by decide +kernel
theorem dX3_move_72 : decode cX3_move 72 = .ok (.iload_n 2, 1) := by decide +kernel
theorem dX3_move_73 : decode cX3_move 73 = .ok (.aload_n 0, 1) := by decide +kernel
theorem dX3_move_74 : decode cX3_move 74 = .ok (.getfield 27, 3) := by decide +kernel
theorem dX3_move_77 : decode cX3_move 77 = .ok (.iload_n 1, 1) := by decide +kernel
theorem dX3_move_78 : decode cX3_move 78 = .ok (.baload, 1) := by decide +kernel
theorem dX3_move_79 : decode cX3_move 79 = .ok (.bastore, 1) := by decide +kernel
theorem dX3_move_80 : decode cX3_move 80 = .ok (.return_, 1) := by decide +kernel
set_option maxRecDepth 20000 in
theorem ggX3_remove_X3_has : GoodIn wsX3_remove wsX3_has := goodIn_r _ [6, 1, 19, 20, 21, 22, 23, 24, 25] (by decide +kernel) (by decide +kernel)
set_option maxRecDepth 20000 in
theorem gX3_remove_X3_has : GoodIn wsX3_remove (wsV RX3 52 RX3 yX3_has wsX3_has) := goodIn_app (goodIn_of _ (by decide +kernel)) ggX3_remove_X3_has
set_option maxRecDepth 20000 in
theorem ggX3_remove_X3_move : GoodIn wsX3_remove wsX3_move := goodIn_r _ [10, 11, 12, 13, 14, 15, 16, 17, 18, 19, 20, 21, 22, 23, 24, 25] (by decide +kernel) (by decide +kernel)
set_option maxRecDepth 20000 in
theorem gX3_remove_X3_move : GoodIn wsX3_remove (wsV RX3 60 RX3 yX3_move wsX3_move) := goodIn_app (goodIn_of _ (by decide +kernel)) ggX3_remove_X3_move
theorem dX3_remove_0 : decode cX3_remove 0 = .ok (.aload_n 0, 1) := by decide +kernel
theorem dX3_remove_1 : decode cX3_remove 1 = .ok (.iload_n 1, 1) := by decide +kernel
theorem dX3_remove_2 : decode cX3_remove 2 = .ok (.invokevirtual 52, 3) := by decide +kernel
theorem dX3_remove_5 : decode cX3_remove 5 = .ok (.ifCond .eq 39, 3) := by decide +kernel
theorem dX3_remove_8 : decode cX3_remove 8 = .ok (.iload_n 1, 1) := by decide +kernel
theorem dX3_remove_9 : decode cX3_remove 9 = .ok (.iconst 1, 1) := by decide +kernel
theorem dX3_remove_10 : decode cX3_remove 10 = .ok (.iadd, 1) := by decide +kernel
theorem dX3_remove_11 : decode cX3_remove 11 = .ok (.istore_n 2, 1) := by decide +kernel
theorem dX3_remove_12 : decode cX3_remove 12 = .ok (.iload_n 2, 1) := by decide +kernel
theorem dX3_remove_13 : decode cX3_remove 13 = .ok (.aload_n 0, 1) := by decide +kernel
theorem dX3_remove_14 : decode cX3_remove 14 = .ok (.getfield 44, 3) := by decide +kernel
theorem dX3_remove_17 : decode cX3_remove 17 = .ok (.if_icmp .ge 17, 3) := by decide +kernel
theorem dX3_remove_20 : decode cX3_remove 20 = .ok (.aload_n 0, 1) := by decide +kernel
theorem dX3_remove_21 : decode cX3_remove 21 = .ok (.iload_n 2, 1) := by decide +kernel
theorem dX3_remove_22 : decode cX3_remove 22 = .ok (.iload_n 2, 1) := by decide +kernel
theorem dX3_remove_23 : decode cX3_remove 23 = .ok (.iconst 1, 1) := by decide +kernel
theorem dX3_remove_24 : decode cX3_remove 24 = .ok (.isub, 1) := by decide +kernel
theorem dX3_remove_25 : decode cX3_remove 25 = .ok (.invokevirtual 60, 3) := by decide +kernel
theorem dX3_remove_28 : decode cX3_remove 28 = .ok (.iinc 2 1, 3) := by decide +kernel
theorem dX3_remove_31 : decode cX3_remove 31 = .ok (.goto (-19), 3) := by decide +kernel
theorem dX3_remove_34 : decode cX3_remove 34 = .ok (.aload_n 0, 1) := by decide +kernel
theorem dX3_remove_35 : decode cX3_remove 35 = .ok (.dup, 1) := by decide +kernel
theorem dX3_remove_36 : decode cX3_remove 36 = .ok (.getfield 44, 3) := by decide +kernel
theorem dX3_remove_39 : decode cX3_remove 39 = .ok (.iconst 1, 1) := by decide +kernel
theorem dX3_remove_40 : decode cX3_remove 40 = .ok (.isub, 1) := by decide +kernel
theorem dX3_remove_41 : decode cX3_remove 41 = .ok (.putfield 44, 3) := by decide +kernel
theorem dX3_remove_44 : decode cX3_remove 44 = .ok (.return_, 1) := by decide +kernel
set_option maxRecDepth 20000 in
theorem ggX3_isTaken_X3_touching : GoodIn wsX3_isTaken wsX3_touching := goodIn_r _ [5, 6, 7, 8, 9, 4, 10, 11, 12, 13, 14, 15, 16, 17, 18, 19, 20, 21, 22, 23, 24, 25, 26, 27, 28, 29, 30, 31, 32] (by decide +kernel) (by decide +kernel)
set_option maxRecDepth 20000 in
theorem gX3_isTaken_X3_touching : GoodIn wsX3_isTaken (wsV RX3 71 RX3 yX3_touching wsX3_touching) := goodIn_app (goodIn_of _ (by decide +kernel)) ggX3_isTaken_X3_touching
theorem dX3_isTaken_0 : decode cX3_isTaken 0 = .ok (.aload_n 0, 1) := by decide +kernel
theorem dX3_isTaken_1 : decode cX3_isTaken 1 = .ok (.iload_n 1, 1) := by decide +kernel
theorem dX3_isTaken_2 : decode cX3_isTaken 2 = .ok (.iload_n 2, 1) := by decide +kernel
theorem dX3_isTaken_3 : decode cX3_isTaken 3 = .ok (.iload_n 3, 1) := by decide +kernel
theorem dX3_isTaken_4 : decode cX3_isTaken 4 = .ok (.invokevirtual 71, 3) := by decide +kernel
theorem dX3_isTaken_7 : decode cX3_isTaken 7 = .ok (.ifCond .le 7, 3) := by decide +kernel
theorem dX3_isTaken_10 : decode cX3_isTaken 10 = .ok (.iconst 1, 1) := by decide +kernel
theorem dX3_isTaken_11 : decode cX3_isTaken 11 = .ok (.goto 4, 3) := by decide +kernel
theorem dX3_isTaken_14 : decode cX3_isTaken 14 = .ok (.iconst 0, 1) := by decide +kernel
theorem dX3_isTaken_15 : decode cX3_isTaken 15 = .ok (.ireturn, 1) := by decide +kernel
set_option maxRecDepth 20000 in
theorem ggX3_touching_X3_trackOf : GoodIn wsX3_touching wsX3_trackOf := goodIn_r _ [6, 7, 8, 9, 10, 5, 11, 1, 22, 23, 24, 25, 26, 27, 28] (by decide +kernel) (by decide +kernel)
set_option maxRecDepth 20000 in
theorem gX3_touching_X3_trackOf : GoodIn wsX3_touching (wsV RX3 68 RX3 yX3_trackOf wsX3_trackOf) := goodIn_app (goodIn_of _ (by decide +kernel)) ggX3_touching_X3_trackOf
set_option maxRecDepth 20000 in
theorem ggX3_touching_X3_firstOf : GoodIn wsX3_touching wsX3_firstOf := goodIn_r _ [15, 16, 8, 9, 10, 5, 11, 1, 22, 23, 24, 25, 26, 27, 28] (by decide +kernel) (by decide +kernel)
set_option maxRecDepth 20000 in
theorem gX3_touching_X3_firstOf : GoodIn wsX3_touching (wsV RX3 64 RX3 yX3_firstOf wsX3_firstOf) := goodIn_app (goodIn_of _ (by decide +kernel)) ggX3_touching_X3_firstOf
set_option maxRecDepth 20000 in
theorem ggX3_touching_X3_lastOf : GoodIn wsX3_touching wsX3_lastOf := goodIn_r _ [20, 21, 8, 9, 10, 5, 11, 1, 22, 23, 24, 25, 26, 27, 28] (by decide +kernel) (by decide +kernel)
set_option maxRecDepth 20000 in
theorem gX3_touching_X3_lastOf : GoodIn wsX3_touching (wsV RX3 75 RX3 yX3_lastOf wsX3_lastOf) := goodIn_app (goodIn_of _ (by decide +kernel)) ggX3_touching_X3_lastOf
theorem dX3_touching_0 : decode cX3_touching 0 = .ok (.iconst 0, 1) := by decide +kernel
theorem dX3_touching_1 : decode cX3_touching 1 = .ok (.istore 4, 2) := by decide +kernel
theorem dX3_touching_3 : decode cX3_touching 3 = .ok (.iconst 0, 1) := by decide +kernel
theorem dX3_touching_4 : decode cX3_touching 4 = .ok (.istore 5, 2) := by decide +kernel
theorem dX3_touching_6 : decode cX3_touching 6 = .ok (.iload 5, 2) := by decide +kernel
theorem dX3_touching_8 : decode cX3_touching 8 = .ok (.aload_n 0, 1) := by decide +kernel
theorem dX3_touching_9 : decode cX3_touching 9 = .ok (.getfield 44, 3) := by decide +kernel
theorem dX3_touching_12 : decode cX3_touching 12 = .ok (.if_icmp .ge 42, 3) := by decide +kernel
theorem dX3_touching_15 : decode cX3_touching 15 = .ok (.aload_n 0, 1) := by decide +kernel
theorem dX3_touching_16 : decode cX3_touching 16 = .ok (.iload 5, 2) := by decide +kernel
theorem dX3_touching_18 : decode cX3_touching 18 = .ok (.invokevirtual 68, 3) := by decide +kernel
theorem dX3_touching_21 : decode cX3_touching 21 = .ok (.iload_n 1, 1) := by decide +kernel
theorem dX3_touching_22 : decode cX3_touching 22 = .ok (.if_icmp .ne 26, 3) := by decide +kernel
theorem dX3_touching_25 : decode cX3_touching 25 = .ok (.aload_n 0, 1) := by decide +kernel
theorem dX3_touching_26 : decode cX3_touching 26 = .ok (.iload 5, 2) := by decide +kernel
theorem dX3_touching_28 : decode cX3_touching 28 = .ok (.invokevirtual 64, 3) := by decide +kernel
theorem dX3_touching_31 : decode cX3_touching 31 = .ok (.iload_n 3, 1) := by decide +kernel
theorem dX3_touching_32 : decode cX3_touching 32 = .ok (.if_icmp .gt 16, 3) := by decide +kernel
theorem dX3_touching_35 : decode cX3_touching 35 = .ok (.aload_n 0, 1) := by decide +kernel
theorem dX3_touching_36 : decode cX3_touching 36 = .ok (.iload 5, 2) := by decide +kernel
theorem dX3_touching_38 : decode cX3_touching 38 = .ok (.invokevirtual 75, 3) := by decide +kernel
theorem dX3_touching_41 : decode cX3_touching 41 = .ok (.iload_n 2, 1) := by decide +kernel
theorem dX3_touching_42 : decode cX3_touching 42 = .ok (.if_icmp .lt 6, 3) := by decide +kernel
theorem dX3_touching_45 : decode cX3_touching 45 = .ok (.iinc 4 1, 3) := by decide +kernel
theorem dX3_touching_48 : decode cX3_touching 48 = .ok (.iinc 5 1, 3) := by decide +kernel
theorem dX3_touching_51 : decode cX3_touching 51 = .ok (.goto (-45), 3) := by decide +kernel
theorem dX3_touching_54 : decode cX3_touching 54 = .ok (.iload 4, 2) := by decide +kernel
theorem dX3_touching_56 : decode cX3_touching 56 = .ok (.ireturn, 1) := by decide +kernel
set_option maxRecDepth 20000 in
theorem ggX3_tracksAt_X3_firstOf : GoodIn wsX3_tracksAt wsX3_firstOf := goodIn_r _ [6, 7, 8, 9, 10, 5, 11, 1, 22, 23, 24, 25, 26, 27, 28] (by decide +kernel) (by decide +kernel)
set_option maxRecDepth 20000 in
theorem gX3_tracksAt_X3_firstOf : GoodIn wsX3_tracksAt (wsV RX3 64 RX3 yX3_firstOf wsX3_firstOf) := goodIn_app (goodIn_of _ (by decide +kernel)) ggX3_tracksAt_X3_firstOf
set_option maxRecDepth 20000 in
theorem ggX3_tracksAt_X3_lastOf : GoodIn wsX3_tracksAt wsX3_lastOf := goodIn_r _ [15, 16, 8, 9, 10, 5, 11, 1, 22, 23, 24, 25, 26, 27, 28] (by decide +kernel) (by decide +kernel)
set_option maxRecDepth 20000 in
theorem gX3_tracksAt_X3_lastOf : GoodIn wsX3_tracksAt (wsV RX3 75 RX3 yX3_lastOf wsX3_lastOf) := goodIn_app (goodIn_of _ (by decide +kernel)) ggX3_tracksAt_X3_lastOf
set_option maxRecDepth 20000 in
theorem ggX3_tracksAt_X3_trackOf : GoodIn wsX3_tracksAt wsX3_trackOf := goodIn_r _ [20, 21, 8, 9, 10, 5, 11, 1, 22, 23, 24, 25, 26, 27, 28] (by decide +kernel) (by decide +kernel)
set_option maxRecDepth 20000 in
theorem gX3_tracksAt_X3_trackOf : GoodIn wsX3_tracksAt (wsV RX3 68 RX3 yX3_trackOf wsX3_trackOf) := goodIn_app (goodIn_of _ (by decide +kernel)) ggX3_tracksAt_X3_trackOf
theorem dX3_tracksAt_0 : decode cX3_tracksAt 0 = .ok (.iconst 0, 1) := by decide +kernel
theorem dX3_tracksAt_1 : decode cX3_tracksAt 1 = .ok (.istore_n 2, 1) := by decide +kernel
theorem dX3_tracksAt_2 : decode cX3_tracksAt 2 = .ok (.iconst 0, 1) := by decide +kernel
theorem dX3_tracksAt_3 : decode cX3_tracksAt 3 = .ok (.istore_n 3, 1) := by decide +kernel
theorem dX3_tracksAt_4 : decode cX3_tracksAt 4 = .ok (.iload_n 3, 1) := by decide +kernel
theorem dX3_tracksAt_5 : decode cX3_tracksAt 5 = .ok (.aload_n 0, 1) := by decide +kernel
theorem dX3_tracksAt_6 : decode cX3_tracksAt 6 = .ok (.getfield 44, 3) := by decide +kernel
theorem dX3_tracksAt_9 : decode cX3_tracksAt 9 = .ok (.if_icmp .ge 37, 3) := by decide +kernel
theorem dX3_tracksAt_12 : decode cX3_tracksAt 12 = .ok (.aload_n 0, 1) := by decide +kernel
theorem dX3_tracksAt_13 : decode cX3_tracksAt 13 = .ok (.iload_n 3, 1) := by decide +kernel
theorem dX3_tracksAt_14 : decode cX3_tracksAt 14 = .ok (.invokevirtual 64, 3) := by decide +kernel
theorem dX3_tracksAt_17 : decode cX3_tracksAt 17 = .ok (.iload_n 1, 1) := by decide +kernel
theorem dX3_tracksAt_18 : decode cX3_tracksAt 18 = .ok (.if_icmp .gt 22, 3) := by decide +kernel
theorem dX3_tracksAt_21 : decode cX3_tracksAt 21 = .ok (.aload_n 0, 1) := by decide +kernel
theorem dX3_tracksAt_22 : decode cX3_tracksAt 22 = .ok (.iload_n 3, 1) := by decide +kernel
theorem dX3_tracksAt_23 : decode cX3_tracksAt 23 = .ok (.invokevirtual 75, 3) := by decide +kernel
theorem dX3_tracksAt_26 : decode cX3_tracksAt 26 = .ok (.iload_n 1, 1) := by decide +kernel
theorem dX3_tracksAt_27 : decode cX3_tracksAt 27 = .ok (.if_icmp .lt 13, 3) := by decide +kernel
theorem dX3_tracksAt_30 : decode cX3_tracksAt 30 = .ok (.iload_n 2, 1) := by decide +kernel
theorem dX3_tracksAt_31 : decode cX3_tracksAt 31 = .ok (.iconst 1, 1) := by decide +kernel
theorem dX3_tracksAt_32 : decode cX3_tracksAt 32 = .ok (.aload_n 0, 1) := by decide +kernel
theorem dX3_tracksAt_33 : decode cX3_tracksAt 33 = .ok (.iload_n 3, 1) := by decide +kernel
theorem dX3_tracksAt_34 : decode cX3_tracksAt 34 = .ok (.invokevirtual 68, 3) := by decide +kernel
theorem dX3_tracksAt_37 : decode cX3_tracksAt 37 = .ok (.ishl, 1) := by decide +kernel
theorem dX3_tracksAt_38 : decode cX3_tracksAt 38 = .ok (.ior, 1) := by decide +kernel
theorem dX3_tracksAt_39 : decode cX3_tracksAt 39 = .ok (.istore_n 2, 1) := by decide +kernel
theorem dX3_tracksAt_40 : decode cX3_tracksAt 40 = .ok (.iinc 3 1, 3) := by decide +kernel
theorem dX3_tracksAt_43 : decode cX3_tracksAt 43 = .ok (.goto (-39), 3) := by decide +kernel
theorem dX3_tracksAt_46 : decode cX3_tracksAt 46 = .ok (.iload_n 2, 1) := by decide +kernel
theorem dX3_tracksAt_47 : decode cX3_tracksAt 47 = .ok (.ireturn, 1) := by decide +kernel
set_option maxRecDepth 20000 in
theorem ggX3_greatestLast_X3_lastOf : GoodIn wsX3_greatestLast wsX3_lastOf := goodIn_r _ [10, 11, 12, 13, 14, 9, 15, 1, 16, 17, 18, 19, 20, 21, 22] (by decide +kernel) (by decide +kernel)
set_option maxRecDepth 20000 in
theorem gX3_greatestLast_X3_lastOf : GoodIn wsX3_greatestLast (wsV RX3 75 RX3 yX3_lastOf wsX3_lastOf) := goodIn_app (goodIn_of _ (by decide +kernel)) ggX3_greatestLast_X3_lastOf
theorem dX3_greatestLast_0 : decode cX3_greatestLast 0 = .ok (.iconst (-1), 1) := by decide +kernel
theorem dX3_greatestLast_1 : decode cX3_greatestLast 1 = .ok (.istore_n 1, 1) := by decide +kernel
theorem dX3_greatestLast_2 : decode cX3_greatestLast 2 = .ok (.iconst 0, 1) := by decide +kernel
theorem dX3_greatestLast_3 : decode cX3_greatestLast 3 = .ok (.istore_n 2, 1) := by decide +kernel
theorem dX3_greatestLast_4 : decode cX3_greatestLast 4 = .ok (.iload_n 2, 1) := by decide +kernel
theorem dX3_greatestLast_5 : decode cX3_greatestLast 5 = .ok (.aload_n 0, 1) := by decide +kernel
theorem dX3_greatestLast_6 : decode cX3_greatestLast 6 = .ok (.getfield 44, 3) := by decide +kernel
theorem dX3_greatestLast_9 : decode cX3_greatestLast 9 = .ok (.if_icmp .ge 19, 3) := by decide +kernel
theorem dX3_greatestLast_12 : decode cX3_greatestLast 12 = .ok (.iload_n 1, 1) := by decide +kernel
theorem dX3_greatestLast_13 : decode cX3_greatestLast 13 = .ok (.aload_n 0, 1) := by decide +kernel
theorem dX3_greatestLast_14 : decode cX3_greatestLast 14 = .ok (.iload_n 2, 1) := by decide +kernel
theorem dX3_greatestLast_15 : decode cX3_greatestLast 15 = .ok (.invokevirtual 75, 3) := by decide +kernel
theorem dX3_greatestLast_18 : decode cX3_greatestLast 18 = .ok (.invokestatic 78, 3) := by decide +kernel
theorem dX3_greatestLast_21 : decode cX3_greatestLast 21 = .ok (.istore_n 1, 1) := by decide +kernel
theorem dX3_greatestLast_22 : decode cX3_greatestLast 22 = .ok (.iinc 2 1, 3) := by decide +kernel
theorem dX3_greatestLast_25 : decode cX3_greatestLast 25 = .ok (.goto (-21), 3) := by decide +kernel
theorem dX3_greatestLast_28 : decode cX3_greatestLast 28 = .ok (.iload_n 1, 1) := by decide +kernel
theorem dX3_greatestLast_29 : decode cX3_greatestLast 29 = .ok (.ireturn, 1) := by decide +kernel
theorem dX3_lengthen_0 : decode cX3_lengthen 0 = .ok (.iconst 0, 1) := by decide +kernel
theorem dX3_lengthen_1 : decode cX3_lengthen 1 = .ok (.istore_n 3, 1) := by decide +kernel
theorem dX3_lengthen_2 : decode cX3_lengthen 2 = .ok (.iconst 0, 1) := by decide +kernel
theorem dX3_lengthen_3 : decode cX3_lengthen 3 = .ok (.istore 4, 2) := by decide +kernel
theorem dX3_lengthen_5 : decode cX3_lengthen 5 = .ok (.iload 4, 2) := by decide +kernel
theorem dX3_lengthen_7 : decode cX3_lengthen 7 = .ok (.aload_n 0, 1) := by decide +kernel
theorem dX3_lengthen_8 : decode cX3_lengthen 8 = .ok (.getfield 44, 3) := by decide +kernel
theorem dX3_lengthen_11 : decode cX3_lengthen 11 = .ok (.if_icmp .ge 77, 3) := by decide +kernel
theorem dX3_lengthen_14 : decode cX3_lengthen 14 = .ok (.iload 4, 2) := by decide +kernel
theorem dX3_lengthen_16 : decode cX3_lengthen 16 = .ok (.bipush 40, 2) := by decide +kernel
theorem dX3_lengthen_18 : decode cX3_lengthen 18 = .ok (.if_icmp .ge 70, 3) := by decide +kernel
theorem dX3_lengthen_21 : decode cX3_lengthen 21 = .ok (.aload_n 0, 1) := by decide +kernel
theorem dX3_lengthen_22 : decode cX3_lengthen 22 = .ok (.getfield 18, 3) := by decide +kernel
theorem dX3_lengthen_25 : decode cX3_lengthen 25 = .ok (.iload 4, 2) := by decide +kernel
theorem dX3_lengthen_27 : decode cX3_lengthen 27 = .ok (.iaload, 1) := by decide +kernel
theorem dX3_lengthen_28 : decode cX3_lengthen 28 = .ok (.iload_n 1, 1) := by decide +kernel
theorem dX3_lengthen_29 : decode cX3_lengthen 29 = .ok (.if_icmp .lt 28, 3) := by decide +kernel
theorem dX3_lengthen_32 : decode cX3_lengthen 32 = .ok (.aload_n 0, 1) := by decide +kernel
theorem dX3_lengthen_33 : decode cX3_lengthen 33 = .ok (.getfield 18, 3) := by decide +kernel
theorem dX3_lengthen_36 : decode cX3_lengthen 36 = .ok (.iload 4, 2) := by decide +kernel
theorem dX3_lengthen_38 : decode cX3_lengthen 38 = .ok (.dup2, 1) := by decide +kernel
theorem dX3_lengthen_39 : decode cX3_lengthen 39 = .ok (.iaload, 1) := by decide +kernel
theorem dX3_lengthen_40 : decode cX3_lengthen 40 = .ok (.iload_n 2, 1) := by decide +kernel
theorem dX3_lengthen_41 : decode cX3_lengthen 41 = .ok (.iadd, 1) := by decide +kernel
theorem dX3_lengthen_42 : decode cX3_lengthen 42 = .ok (.iastore, 1) := by decide +kernel
theorem dX3_lengthen_43 : decode cX3_lengthen 43 = .ok (.aload_n 0, 1) := by decide +kernel
theorem dX3_lengthen_44 : decode cX3_lengthen 44 = .ok (.getfield 21, 3) := by decide +kernel
theorem dX3_lengthen_47 : decode cX3_lengthen 47 = .ok (.iload 4, 2) := by decide +kernel
theorem dX3_lengthen_49 : decode cX3_lengthen 49 = .ok (.dup2, 1) := by decide +kernel
theorem dX3_lengthen_50 : decode cX3_lengthen 50 = .ok (.iaload, 1) := by decide +kernel
theorem dX3_lengthen_51 : decode cX3_lengthen 51 = .ok (.iload_n 2, 1) := by decide +kernel
theorem dX3_lengthen_52 : decode cX3_lengthen 52 = .ok (.iadd, 1) := by decide +kernel
theorem dX3_lengthen_53 : decode cX3_lengthen 53 = .ok (.iastore, 1) := by decide +kernel
theorem dX3_lengthen_54 : decode cX3_lengthen 54 = .ok (.goto 28, 3) := by decide +kernel
theorem dX3_lengthen_57 : decode cX3_lengthen 57 = .ok (.aload_n 0, 1) := by decide +kernel
theorem dX3_lengthen_58 : decode cX3_lengthen 58 = .ok (.getfield 21, 3) := by decide +kernel
theorem dX3_lengthen_61 : decode cX3_lengthen 61 = .ok (.iload 4, 2) := by decide +kernel
theorem dX3_lengthen_63 : decode cX3_lengthen 63 = .ok (.iaload, 1) := by decide +kernel
theorem dX3_lengthen_64 : decode cX3_lengthen 64 = .ok (.iload_n 1, 1) := by decide +kernel
theorem dX3_lengthen_65 : decode cX3_lengthen 65 = .ok (.if_icmp .lt 17, 3) := by decide +kernel
theorem dX3_lengthen_68 : decode cX3_lengthen 68 = .ok (.aload_n 0, 1) := by decide +kernel
theorem dX3_lengthen_69 : decode cX3_lengthen 69 = .ok (.getfield 21, 3) := by decide +kernel
theorem dX3_lengthen_72 : decode cX3_lengthen 72 = .ok (.iload 4, 2) := by decide +kernel
theorem dX3_lengthen_74 : decode cX3_lengthen 74 = .ok (.dup2, 1) := by decide +kernel
theorem dX3_lengthen_75 : decode cX3_lengthen 75 = .ok (.iaload, 1) := by decide +kernel
theorem dX3_lengthen_76 : decode cX3_lengthen 76 = .ok (.iload_n 2, 1) := by decide +kernel
theorem dX3_lengthen_77 : decode cX3_lengthen 77 = .ok (.iadd, 1) := by decide +kernel
theorem dX3_lengthen_78 : decode cX3_lengthen 78 = .ok (.iastore, 1) := by decide +kernel
theorem dX3_lengthen_79 : decode cX3_lengthen 79 = .ok (.iinc 3 1, 3) := by decide +kernel
theorem dX3_lengthen_82 : decode cX3_lengthen 82 = .ok (.iinc 4 1, 3) := by decide +kernel
theorem dX3_lengthen_85 : decode cX3_lengthen 85 = .ok (.goto (-80), 3) := by decide +kernel
theorem dX3_lengthen_88 : decode cX3_lengthen 88 = .ok (.iload_n 3, 1) := by decide +kernel
theorem dX3_lengthen_89 : decode cX3_lengthen 89 = .ok (.ireturn, 1) := by decide +kernel
set_option maxRecDepth 20000 in
theorem ggX3_takeCut_X3_size : GoodIn wsX3_takeCut wsX3_size := goodIn_r _ [13, 1, 58, 59, 60, 61, 62, 63, 64] (by decide +kernel) (by decide +kernel)
set_option maxRecDepth 20000 in
theorem gX3_takeCut_X3_size : GoodIn wsX3_takeCut (wsV RX3 83 RX3 yX3_size wsX3_size) := goodIn_app (goodIn_of _ (by decide +kernel)) ggX3_takeCut_X3_size
set_option maxRecDepth 20000 in
theorem ggX3_takeCut_X3_firstOf : GoodIn wsX3_takeCut wsX3_firstOf := goodIn_r _ [17, 18, 19, 20, 21, 12, 22, 1, 58, 59, 60, 61, 62, 63, 64] (by decide +kernel) (by decide +kernel)
set_option maxRecDepth 20000 in
theorem gX3_takeCut_X3_firstOf : GoodIn wsX3_takeCut (wsV RX3 64 RX3 yX3_firstOf wsX3_firstOf) := goodIn_app (goodIn_of _ (by decide +kernel)) ggX3_takeCut_X3_firstOf
set_option maxRecDepth 20000 in
theorem ggX3_takeCut_X3_lastOf : GoodIn wsX3_takeCut wsX3_lastOf := goodIn_r _ [26, 27, 19, 20, 21, 12, 22, 1, 58, 59, 60, 61, 62, 63, 64] (by decide +kernel) (by decide +kernel)
set_option maxRecDepth 20000 in
theorem gX3_takeCut_X3_lastOf : GoodIn wsX3_takeCut (wsV RX3 75 RX3 yX3_lastOf wsX3_lastOf) := goodIn_app (goodIn_of _ (by decide +kernel)) ggX3_takeCut_X3_lastOf
set_option maxRecDepth 20000 in
theorem ggX3_takeCut_X3_trackOf : GoodIn wsX3_takeCut wsX3_trackOf := goodIn_r _ [31, 32, 19, 20, 21, 12, 22, 1, 58, 59, 60, 61, 62, 63, 64] (by decide +kernel) (by decide +kernel)
set_option maxRecDepth 20000 in
theorem gX3_takeCut_X3_trackOf : GoodIn wsX3_takeCut (wsV RX3 68 RX3 yX3_trackOf wsX3_trackOf) := goodIn_app (goodIn_of _ (by decide +kernel)) ggX3_takeCut_X3_trackOf
set_option maxRecDepth 20000 in
theorem ggX3_takeCut_X3_shiftOf : GoodIn wsX3_takeCut wsX3_shiftOf := goodIn_r _ [36, 37, 19, 20, 21, 12, 22, 1, 58, 59, 60, 61, 62, 63, 64] (by decide +kernel) (by decide +kernel)
set_option maxRecDepth 20000 in
theorem gX3_takeCut_X3_shiftOf : GoodIn wsX3_takeCut (wsV RX3 90 RX3 yX3_shiftOf wsX3_shiftOf) := goodIn_app (goodIn_of _ (by decide +kernel)) ggX3_takeCut_X3_shiftOf
set_option maxRecDepth 20000 in
theorem ggX3_takeCut_X3_hasAccent : GoodIn wsX3_takeCut wsX3_hasAccent := goodIn_r _ [41, 42, 19, 20, 21, 12, 22, 1, 58, 59, 60, 61, 62, 63, 64] (by decide +kernel) (by decide +kernel)
set_option maxRecDepth 20000 in
theorem gX3_takeCut_X3_hasAccent : GoodIn wsX3_takeCut (wsV RX3 93 RX3 yX3_hasAccent wsX3_hasAccent) := goodIn_app (goodIn_of _ (by decide +kernel)) ggX3_takeCut_X3_hasAccent
set_option maxRecDepth 20000 in
theorem ggX3_takeCut_X3_add : GoodIn wsX3_takeCut wsX3_add := goodIn_r _ [46, 1, 32, 18, 27, 37, 42, 47, 48, 49, 12, 50, 14, 15, 16, 17, 19, 20, 21, 22, 28, 29, 30, 31, 51, 52, 53, 54, 55, 56, 57, 58, 59, 60, 61, 62, 63, 64] (by decide +kernel) (by decide +kernel)
set_option maxRecDepth 20000 in
theorem gX3_takeCut_X3_add : GoodIn wsX3_takeCut (wsV RX3 96 RX3 yX3_add wsX3_add) := goodIn_app (goodIn_of _ (by decide +kernel)) ggX3_takeCut_X3_add
theorem dX3_takeCut_0 : decode cX3_takeCut 0 = .ok (.iload_n 2, 1) := by decide +kernel
theorem dX3_takeCut_1 : decode cX3_takeCut 1 = .ok (.iload_n 3, 1) := by decide +kernel
theorem dX3_takeCut_2 : decode cX3_takeCut 2 = .ok (.iadd, 1) := by decide +kernel
theorem dX3_takeCut_3 : decode cX3_takeCut 3 = .ok (.istore 4, 2) := by decide +kernel
theorem dX3_takeCut_5 : decode cX3_takeCut 5 = .ok (.aload_n 0, 1) := by decide +kernel
theorem dX3_takeCut_6 : decode cX3_takeCut 6 = .ok (.iconst 0, 1) := by decide +kernel
theorem dX3_takeCut_7 : decode cX3_takeCut 7 = .ok (.putfield 44, 3) := by decide +kernel
theorem dX3_takeCut_10 : decode cX3_takeCut 10 = .ok (.iconst 0, 1) := by decide +kernel
theorem dX3_takeCut_11 : decode cX3_takeCut 11 = .ok (.istore 5, 2) := by decide +kernel
theorem dX3_takeCut_13 : decode cX3_takeCut 13 = .ok (.iload 5, 2) := by decide +kernel
theorem dX3_takeCut_15 : decode cX3_takeCut 15 = .ok (.aload_n 1, 1) := by decide +kernel
theorem dX3_takeCut_16 : decode cX3_takeCut 16 = .ok (.invokevirtual 83, 3) := by decide +kernel
theorem dX3_takeCut_19 : decode cX3_takeCut 19 = .ok (.if_icmp .ge 111, 3) := by decide +kernel
theorem dX3_takeCut_22 : decode cX3_takeCut 22 = .ok (.aload_n 1, 1) := by decide +kernel
theorem dX3_takeCut_23 : decode cX3_takeCut 23 = .ok (.iload 5, 2) := by decide +kernel
theorem dX3_takeCut_25 : decode cX3_takeCut 25 = .ok (.invokevirtual 64, 3) := by decide +kernel
theorem dX3_takeCut_28 : decode cX3_takeCut 28 = .ok (.istore 6, 2) := by decide +kernel
theorem dX3_takeCut_30 : decode cX3_takeCut 30 = .ok (.aload_n 1, 1) := by decide +kernel
theorem dX3_takeCut_31 : decode cX3_takeCut 31 = .ok (.iload 5, 2) := by decide +kernel
theorem dX3_takeCut_33 : decode cX3_takeCut 33 = .ok (.invokevirtual 75, 3) := by decide +kernel
theorem dX3_takeCut_36 : decode cX3_takeCut 36 = .ok (.istore 7, 2) := by decide +kernel
theorem dX3_takeCut_38 : decode cX3_takeCut 38 = .ok (.iload 6, 2) := by decide +kernel
theorem dX3_takeCut_40 : decode cX3_takeCut 40 = .ok (.iload_n 2, 1) := by decide +kernel
theorem dX3_takeCut_41 : decode cX3_takeCut 41 = .ok (.if_icmp .lt 10, 3) := by decide +kernel
theorem dX3_takeCut_44 : decode cX3_takeCut 44 = .ok (.iload 7, 2) := by decide +kernel
theorem dX3_takeCut_46 : decode cX3_takeCut 46 = .ok (.iload 4, 2) := by decide +kernel
theorem dX3_takeCut_48 : decode cX3_takeCut 48 = .ok (.if_icmp .lt 76, 3) := by decide +kernel
theorem dX3_takeCut_51 : decode cX3_takeCut 51 = .ok (.iload 6, 2) := by decide +kernel
theorem dX3_takeCut_53 : decode cX3_takeCut 53 = .ok (.iload_n 2, 1) := by decide +kernel
theorem dX3_takeCut_54 : decode cX3_takeCut 54 = .ok (.if_icmp .ge 8, 3) := by decide +kernel
theorem dX3_takeCut_57 : decode cX3_takeCut 57 = .ok (.iload 6, 2) := by decide +kernel
theorem dX3_takeCut_59 : decode cX3_takeCut 59 = .ok (.goto 12, 3) := by decide +kernel
theorem dX3_takeCut_62 : decode cX3_takeCut 62 = .ok (.iload 6, 2) := by decide +kernel
theorem dX3_takeCut_64 : decode cX3_takeCut 64 = .ok (.iload 4, 2) := by decide +kernel
theorem dX3_takeCut_66 : decode cX3_takeCut 66 = .ok (.invokestatic 78, 3) := by decide +kernel
theorem dX3_takeCut_69 : decode cX3_takeCut 69 = .ok (.iload_n 3, 1) := by decide +kernel
theorem dX3_takeCut_70 : decode cX3_takeCut 70 = .ok (.isub, 1) := by decide +kernel
theorem dX3_takeCut_71 : decode cX3_takeCut 71 = .ok (.istore 8, 2) := by decide +kernel
theorem dX3_takeCut_73 : decode cX3_takeCut 73 = .ok (.iload 7, 2) := by decide +kernel
theorem dX3_takeCut_75 : decode cX3_takeCut 75 = .ok (.iload 4, 2) := by decide +kernel
theorem dX3_takeCut_77 : decode cX3_takeCut 77 = .ok (.if_icmp .ge 14, 3) := by decide +kernel
theorem dX3_takeCut_80 : decode cX3_takeCut 80 = .ok (.iload 7, 2) := by decide +kernel
theorem dX3_takeCut_82 : decode cX3_takeCut 82 = .ok (.iload_n 2, 1) := by decide +kernel
theorem dX3_takeCut_83 : decode cX3_takeCut 83 = .ok (.iconst 1, 1) := by decide +kernel
theorem dX3_takeCut_84 : decode cX3_takeCut 84 = .ok (.isub, 1) := by decide +kernel
theorem dX3_takeCut_85 : decode cX3_takeCut 85 = .ok (.invokestatic 87, 3) := by decide +kernel
theorem dX3_takeCut_88 : decode cX3_takeCut 88 = .ok (.goto 7, 3) := by decide +kernel
theorem dX3_takeCut_91 : decode cX3_takeCut 91 = .ok (.iload 7, 2) := by decide +kernel
theorem dX3_takeCut_93 : decode cX3_takeCut 93 = .ok (.iload_n 3, 1) := by decide +kernel
theorem dX3_takeCut_94 : decode cX3_takeCut 94 = .ok (.isub, 1) := by decide +kernel
theorem dX3_takeCut_95 : decode cX3_takeCut 95 = .ok (.istore 9, 2) := by decide +kernel
theorem dX3_takeCut_97 : decode cX3_takeCut 97 = .ok (.aload_n 0, 1) := by decide +kernel
theorem dX3_takeCut_98 : decode cX3_takeCut 98 = .ok (.aload_n 1, 1) := by decide +kernel
theorem dX3_takeCut_99 : decode cX3_takeCut 99 = .ok (.iload 5, 2) := by decide +kernel
theorem dX3_takeCut_101 : decode cX3_takeCut 101 = .ok (.invokevirtual 68, 3) := by decide +kernel
theorem dX3_takeCut_104 : decode cX3_takeCut 104 = .ok (.iload 8, 2) := by decide +kernel
theorem dX3_takeCut_106 : decode cX3_takeCut 106 = .ok (.iload 9, 2) := by decide +kernel
theorem dX3_takeCut_108 : decode cX3_takeCut 108 = .ok (.aload_n 1, 1) := by decide +kernel
theorem dX3_takeCut_109 : decode cX3_takeCut 109 = .ok (.iload 5, 2) := by decide +kernel
theorem dX3_takeCut_111 : decode cX3_takeCut 111 = .ok (.invokevirtual 90, 3) := by decide +kernel
theorem dX3_takeCut_114 : decode cX3_takeCut 114 = .ok (.aload_n 1, 1) := by decide +kernel
theorem dX3_takeCut_115 : decode cX3_takeCut 115 = .ok (.iload 5, 2) := by decide +kernel
theorem dX3_takeCut_117 : decode cX3_takeCut 117 = .ok (.invokevirtual 93, 3) := by decide +kernel
theorem dX3_takeCut_120 : decode cX3_takeCut 120 = .ok (.invokevirtual 96, 3) := by decide +kernel
theorem dX3_takeCut_123 : decode cX3_takeCut 123 = .ok (.pop, 1) := by decide +kernel
theorem dX3_takeCut_124 : decode cX3_takeCut 124 = .ok (.iinc 5 1, 3) := by decide +kernel
theorem dX3_takeCut_127 : decode cX3_takeCut 127 = .ok (.goto (-114), 3) := by decide +kernel
theorem dX3_takeCut_130 : decode cX3_takeCut 130 = .ok (.return_, 1) := by decide +kernel
set_option maxRecDepth 20000 in
theorem ggX3_liesWithin_X3_has : GoodIn wsX3_liesWithin wsX3_has := goodIn_r _ [5, 6, 17, 18, 19, 20, 21, 22, 23] (by decide +kernel) (by decide +kernel)
set_option maxRecDepth 20000 in
theorem gX3_liesWithin_X3_has : GoodIn wsX3_liesWithin (wsV RX3 52 RX3 yX3_has wsX3_has) := goodIn_app (goodIn_of _ (by decide +kernel)) ggX3_liesWithin_X3_has
set_option maxRecDepth 20000 in
theorem ggX3_liesWithin_X3_firstOf : GoodIn wsX3_liesWithin wsX3_firstOf := goodIn_r _ [10, 11, 1, 2, 3, 4, 5, 6, 17, 18, 19, 20, 21, 22, 23] (by decide +kernel) (by decide +kernel)
set_option maxRecDepth 20000 in
theorem gX3_liesWithin_X3_firstOf : GoodIn wsX3_liesWithin (wsV RX3 64 RX3 yX3_firstOf wsX3_firstOf) := goodIn_app (goodIn_of _ (by decide +kernel)) ggX3_liesWithin_X3_firstOf
set_option maxRecDepth 20000 in
theorem ggX3_liesWithin_X3_lastOf : GoodIn wsX3_liesWithin wsX3_lastOf := goodIn_r _ [15, 16, 1, 2, 3, 4, 5, 6, 17, 18, 19, 20, 21, 22, 23] (by decide +kernel) (by decide +kernel)
set_option maxRecDepth 20000 in
theorem gX3_liesWithin_X3_lastOf : GoodIn wsX3_liesWithin (wsV RX3 75 RX3 yX3_lastOf wsX3_lastOf) := goodIn_app (goodIn_of _ (by decide +kernel)) ggX3_liesWithin_X3_lastOf
theorem dX3_liesWithin_0 : decode cX3_liesWithin 0 = .ok (.aload_n 0, 1) := by decide +kernel
theorem dX3_liesWithin_1 : decode cX3_liesWithin 1 = .ok (.iload_n 1, 1) := by decide +kernel
theorem dX3_liesWithin_2 : decode cX3_liesWithin 2 = .ok (.invokevirtual 52, 3) := by decide +kernel
theorem dX3_liesWithin_5 : decode cX3_liesWithin 5 = .ok (.ifCond .eq 25, 3) := by decide +kernel
theorem dX3_liesWithin_8 : decode cX3_liesWithin 8 = .ok (.aload_n 0, 1) := by decide +kernel
theorem dX3_liesWithin_9 : decode cX3_liesWithin 9 = .ok (.iload_n 1, 1) := by decide +kernel
theorem dX3_liesWithin_10 : decode cX3_liesWithin 10 = .ok (.invokevirtual 64, 3) := by decide +kernel
theorem dX3_liesWithin_13 : decode cX3_liesWithin 13 = .ok (.iload_n 2, 1) := by decide +kernel
theorem dX3_liesWithin_14 : decode cX3_liesWithin 14 = .ok (.if_icmp .lt 16, 3) := by decide +kernel
theorem dX3_liesWithin_17 : decode cX3_liesWithin 17 = .ok (.aload_n 0, 1) := by decide +kernel
theorem dX3_liesWithin_18 : decode cX3_liesWithin 18 = .ok (.iload_n 1, 1) := by decide +kernel
theorem dX3_liesWithin_19 : decode cX3_liesWithin 19 = .ok (.invokevirtual 75, 3) := by decide +kernel
theorem dX3_liesWithin_22 : decode cX3_liesWithin 22 = .ok (.iload_n 3, 1) := by decide +kernel
theorem dX3_liesWithin_23 : decode cX3_liesWithin 23 = .ok (.if_icmp .gt 7, 3) := by decide +kernel
theorem dX3_liesWithin_26 : decode cX3_liesWithin 26 = .ok (.iconst 1, 1) := by decide +kernel
theorem dX3_liesWithin_27 : decode cX3_liesWithin 27 = .ok (.goto 4, 3) := by decide +kernel
theorem dX3_liesWithin_30 : decode cX3_liesWithin 30 = .ok (.iconst 0, 1) := by decide +kernel
theorem dX3_liesWithin_31 : decode cX3_liesWithin 31 = .ok (.ireturn, 1) := by decide +kernel
set_option maxRecDepth 20000 in
theorem ggX3_within_X3_liesWithin : GoodIn wsX3_within wsX3_liesWithin := goodIn_r _ [6, 7, 8, 9, 5, 10, 1, 11, 12, 13, 14, 15, 16, 17, 18, 19, 20, 21, 22, 23, 24, 25, 26, 27] (by decide +kernel) (by decide +kernel)
set_option maxRecDepth 20000 in
theorem gX3_within_X3_liesWithin : GoodIn wsX3_within (wsV RX3 100 RX3 yX3_liesWithin wsX3_liesWithin) := goodIn_app (goodIn_of _ (by decide +kernel)) ggX3_within_X3_liesWithin
theorem dX3_within_0 : decode cX3_within 0 = .ok (.iconst 0, 1) := by decide +kernel
theorem dX3_within_1 : decode cX3_within 1 = .ok (.istore_n 3, 1) := by decide +kernel
theorem dX3_within_2 : decode cX3_within 2 = .ok (.iconst 0, 1) := by decide +kernel
theorem dX3_within_3 : decode cX3_within 3 = .ok (.istore 4, 2) := by decide +kernel
theorem dX3_within_5 : decode cX3_within 5 = .ok (.iload 4, 2) := by decide +kernel
theorem dX3_within_7 : decode cX3_within 7 = .ok (.aload_n 0, 1) := by decide +kernel
theorem dX3_within_8 : decode cX3_within 8 = .ok (.getfield 44, 3) := by decide +kernel
theorem dX3_within_11 : decode cX3_within 11 = .ok (.if_icmp .ge 23, 3) := by decide +kernel
theorem dX3_within_14 : decode cX3_within 14 = .ok (.aload_n 0, 1) := by decide +kernel
theorem dX3_within_15 : decode cX3_within 15 = .ok (.iload 4, 2) := by decide +kernel
theorem dX3_within_17 : decode cX3_within 17 = .ok (.iload_n 1, 1) := by decide +kernel
theorem dX3_within_18 : decode cX3_within 18 = .ok (.iload_n 2, 1) := by decide +kernel
theorem dX3_within_19 : decode cX3_within 19 = .ok (.invokevirtual 100, 3) := by decide +kernel
theorem dX3_within_22 : decode cX3_within 22 = .ok (.ifCond .eq 6, 3) := by decide +kernel
theorem dX3_within_25 : decode cX3_within 25 = .ok (.iinc 3 1, 3) := by decide +kernel
theorem dX3_within_28 : decode cX3_within 28 = .ok (.iinc 4 1, 3) := by decide +kernel
theorem dX3_within_31 : decode cX3_within 31 = .ok (.goto (-26), 3) := by decide +kernel
theorem dX3_within_34 : decode cX3_within 34 = .ok (.iload_n 3, 1) := by decide +kernel
theorem dX3_within_35 : decode cX3_within 35 = .ok (.ireturn, 1) := by decide +kernel
set_option maxRecDepth 20000 in
theorem ggX3_addPassage_X3_size : GoodIn wsX3_addPassage wsX3_size := goodIn_r _ [5, 6, 55, 56, 57, 58, 59, 60, 61] (by decide +kernel) (by decide +kernel)
set_option maxRecDepth 20000 in
theorem gX3_addPassage_X3_size : GoodIn wsX3_addPassage (wsV RX3 83 RX3 yX3_size wsX3_size) := goodIn_app (goodIn_of _ (by decide +kernel)) ggX3_addPassage_X3_size
set_option maxRecDepth 20000 in
theorem ggX3_addPassage_X3_liesWithin : GoodIn wsX3_addPassage wsX3_liesWithin := goodIn_r _ [10, 11, 12, 13, 4, 14, 6, 15, 16, 17, 18, 19, 20, 21, 22, 23, 24, 55, 56, 57, 58, 59, 60, 61] (by decide +kernel) (by decide +kernel)
set_option maxRecDepth 20000 in
theorem gX3_addPassage_X3_liesWithin : GoodIn wsX3_addPassage (wsV RX3 100 RX3 yX3_liesWithin wsX3_liesWithin) := goodIn_app (goodIn_of _ (by decide +kernel)) ggX3_addPassage_X3_liesWithin
set_option maxRecDepth 20000 in
theorem ggX3_addPassage_X3_firstOf : GoodIn wsX3_addPassage wsX3_firstOf := goodIn_r _ [18, 19, 11, 12, 13, 4, 14, 6, 55, 56, 57, 58, 59, 60, 61] (by decide +kernel) (by decide +kernel)
set_option maxRecDepth 20000 in
theorem gX3_addPassage_X3_firstOf : GoodIn wsX3_addPassage (wsV RX3 64 RX3 yX3_firstOf wsX3_firstOf) := goodIn_app (goodIn_of _ (by decide +kernel)) ggX3_addPassage_X3_firstOf
set_option maxRecDepth 20000 in
theorem ggX3_addPassage_X3_lastOf : GoodIn wsX3_addPassage wsX3_lastOf := goodIn_r _ [23, 24, 11, 12, 13, 4, 14, 6, 55, 56, 57, 58, 59, 60, 61] (by decide +kernel) (by decide +kernel)
set_option maxRecDepth 20000 in
theorem gX3_addPassage_X3_lastOf : GoodIn wsX3_addPassage (wsV RX3 75 RX3 yX3_lastOf wsX3_lastOf) := goodIn_app (goodIn_of _ (by decide +kernel)) ggX3_addPassage_X3_lastOf
set_option maxRecDepth 20000 in
theorem ggX3_addPassage_X3_trackOf : GoodIn wsX3_addPassage wsX3_trackOf := goodIn_r _ [28, 29, 11, 12, 13, 4, 14, 6, 55, 56, 57, 58, 59, 60, 61] (by decide +kernel) (by decide +kernel)
set_option maxRecDepth 20000 in
theorem gX3_addPassage_X3_trackOf : GoodIn wsX3_addPassage (wsV RX3 68 RX3 yX3_trackOf wsX3_trackOf) := goodIn_app (goodIn_of _ (by decide +kernel)) ggX3_addPassage_X3_trackOf
set_option maxRecDepth 20000 in
theorem ggX3_addPassage_X3_shiftOf : GoodIn wsX3_addPassage wsX3_shiftOf := goodIn_r _ [33, 34, 11, 12, 13, 4, 14, 6, 55, 56, 57, 58, 59, 60, 61] (by decide +kernel) (by decide +kernel)
set_option maxRecDepth 20000 in
theorem gX3_addPassage_X3_shiftOf : GoodIn wsX3_addPassage (wsV RX3 90 RX3 yX3_shiftOf wsX3_shiftOf) := goodIn_app (goodIn_of _ (by decide +kernel)) ggX3_addPassage_X3_shiftOf
set_option maxRecDepth 20000 in
theorem ggX3_addPassage_X3_hasAccent : GoodIn wsX3_addPassage wsX3_hasAccent := goodIn_r _ [38, 39, 11, 12, 13, 4, 14, 6, 55, 56, 57, 58, 59, 60, 61] (by decide +kernel) (by decide +kernel)
set_option maxRecDepth 20000 in
theorem gX3_addPassage_X3_hasAccent : GoodIn wsX3_addPassage (wsV RX3 93 RX3 yX3_hasAccent wsX3_hasAccent) := goodIn_app (goodIn_of _ (by decide +kernel)) ggX3_addPassage_X3_hasAccent
set_option maxRecDepth 20000 in
theorem ggX3_addPassage_X3_add : GoodIn wsX3_addPassage wsX3_add := goodIn_r _ [43, 6, 29, 19, 24, 34, 39, 44, 45, 46, 4, 47, 15, 16, 17, 18, 11, 12, 13, 14, 25, 26, 27, 28, 48, 49, 50, 51, 52, 53, 54, 55, 56, 57, 58, 59, 60, 61] (by decide +kernel) (by decide +kernel)
set_option maxRecDepth 20000 in
theorem gX3_addPassage_X3_add : GoodIn wsX3_addPassage (wsV RX3 96 RX3 yX3_add wsX3_add) := goodIn_app (goodIn_of _ (by decide +kernel)) ggX3_addPassage_X3_add
theorem dX3_addPassage_0 : decode cX3_addPassage 0 = .ok (.iconst 0, 1) := by decide +kernel
theorem dX3_addPassage_1 : decode cX3_addPassage 1 = .ok (.istore 5, 2) := by decide +kernel
theorem dX3_addPassage_3 : decode cX3_addPassage 3 = .ok (.iload 5, 2) := by decide +kernel
theorem dX3_addPassage_5 : decode cX3_addPassage 5 = .ok (.aload_n 1, 1) := by decide +kernel
theorem dX3_addPassage_6 : decode cX3_addPassage 6 = .ok (.invokevirtual 83, 3) := by decide +kernel
theorem dX3_addPassage_9 : decode cX3_addPassage 9 = .ok (.if_icmp .ge 73, 3) := by decide +kernel
theorem dX3_addPassage_12 : decode cX3_addPassage 12 = .ok (.aload_n 1, 1) := by decide +kernel
theorem dX3_addPassage_13 : decode cX3_addPassage 13 = .ok (.iload 5, 2) := by decide +kernel
theorem dX3_addPassage_15 : decode cX3_addPassage 15 = .ok (.iload_n 2, 1) := by decide +kernel
theorem dX3_addPassage_16 : decode cX3_addPassage 16 = .ok (.iload_n 3, 1) := by decide +kernel
theorem dX3_addPassage_17 : decode cX3_addPassage 17 = .ok (.invokevirtual 100, 3) := by decide +kernel
theorem dX3_addPassage_20 : decode cX3_addPassage 20 = .ok (.ifCond .eq 56, 3) := by decide +kernel
theorem dX3_addPassage_23 : decode cX3_addPassage 23 = .ok (.aload_n 1, 1) := by decide +kernel
theorem dX3_addPassage_24 : decode cX3_addPassage 24 = .ok (.iload 5, 2) := by decide +kernel
theorem dX3_addPassage_26 : decode cX3_addPassage 26 = .ok (.invokevirtual 64, 3) := by decide +kernel
theorem dX3_addPassage_29 : decode cX3_addPassage 29 = .ok (.iload_n 2, 1) := by decide +kernel
theorem dX3_addPassage_30 : decode cX3_addPassage 30 = .ok (.isub, 1) := by decide +kernel
theorem dX3_addPassage_31 : decode cX3_addPassage 31 = .ok (.iload 4, 2) := by decide +kernel
theorem dX3_addPassage_33 : decode cX3_addPassage 33 = .ok (.iadd, 1) := by decide +kernel
theorem dX3_addPassage_34 : decode cX3_addPassage 34 = .ok (.istore 6, 2) := by decide +kernel
theorem dX3_addPassage_36 : decode cX3_addPassage 36 = .ok (.aload_n 1, 1) := by decide +kernel
theorem dX3_addPassage_37 : decode cX3_addPassage 37 = .ok (.iload 5, 2) := by decide +kernel
theorem dX3_addPassage_39 : decode cX3_addPassage 39 = .ok (.invokevirtual 75, 3) := by decide +kernel
theorem dX3_addPassage_42 : decode cX3_addPassage 42 = .ok (.iload_n 2, 1) := by decide +kernel
theorem dX3_addPassage_43 : decode cX3_addPassage 43 = .ok (.isub, 1) := by decide +kernel
theorem dX3_addPassage_44 : decode cX3_addPassage 44 = .ok (.iload 4, 2) := by decide +kernel
theorem dX3_addPassage_46 : decode cX3_addPassage 46 = .ok (.iadd, 1) := by decide +kernel
theorem dX3_addPassage_47 : decode cX3_addPassage 47 = .ok (.istore 7, 2) := by decide +kernel
theorem dX3_addPassage_49 : decode cX3_addPassage 49 = .ok (.aload_n 0, 1) := by decide +kernel
theorem dX3_addPassage_50 : decode cX3_addPassage 50 = .ok (.aload_n 1, 1) := by decide +kernel
theorem dX3_addPassage_51 : decode cX3_addPassage 51 = .ok (.iload 5, 2) := by decide +kernel
theorem dX3_addPassage_53 : decode cX3_addPassage 53 = .ok (.invokevirtual 68, 3) := by decide +kernel
theorem dX3_addPassage_56 : decode cX3_addPassage 56 = .ok (.iload 6, 2) := by decide +kernel
theorem dX3_addPassage_58 : decode cX3_addPassage 58 = .ok (.iload 7, 2) := by decide +kernel
theorem dX3_addPassage_60 : decode cX3_addPassage 60 = .ok (.aload_n 1, 1) := by decide +kernel
theorem dX3_addPassage_61 : decode cX3_addPassage 61 = .ok (.iload 5, 2) := by decide +kernel
theorem dX3_addPassage_63 : decode cX3_addPassage 63 = .ok (.invokevirtual 90, 3) := by decide +kernel
theorem dX3_addPassage_66 : decode cX3_addPassage 66 = .ok (.aload_n 1, 1) := by decide +kernel
theorem dX3_addPassage_67 : decode cX3_addPassage 67 = .ok (.iload 5, 2) := by decide +kernel
theorem dX3_addPassage_69 : decode cX3_addPassage 69 = .ok (.invokevirtual 93, 3) := by decide +kernel
theorem dX3_addPassage_72 : decode cX3_addPassage 72 = .ok (.invokevirtual 96, 3) := by decide +kernel
theorem dX3_addPassage_75 : decode cX3_addPassage 75 = .ok (.pop, 1) := by decide +kernel
theorem dX3_addPassage_76 : decode cX3_addPassage 76 = .ok (.iinc 5 1, 3) := by decide +kernel
theorem dX3_addPassage_79 : decode cX3_addPassage 79 = .ok (.goto (-76), 3) := by decide +kernel
theorem dX3_addPassage_82 : decode cX3_addPassage 82 = .ok (.return_, 1) := by decide +kernel
set_option maxRecDepth 20000 in
theorem ggX3_isHole_X3_firstOf : GoodIn wsX3_isHole wsX3_firstOf := goodIn_r _ [6, 7, 8, 9, 10, 5, 11, 12, 23, 24, 25, 26, 27, 28, 29] (by decide +kernel) (by decide +kernel)
set_option maxRecDepth 20000 in
theorem gX3_isHole_X3_firstOf : GoodIn wsX3_isHole (wsV RX3 64 RX3 yX3_firstOf wsX3_firstOf) := goodIn_app (goodIn_of _ (by decide +kernel)) ggX3_isHole_X3_firstOf
set_option maxRecDepth 20000 in
theorem ggX3_isHole_X3_lastOf : GoodIn wsX3_isHole wsX3_lastOf := goodIn_r _ [16, 17, 8, 9, 10, 5, 11, 12, 23, 24, 25, 26, 27, 28, 29] (by decide +kernel) (by decide +kernel)
set_option maxRecDepth 20000 in
theorem gX3_isHole_X3_lastOf : GoodIn wsX3_isHole (wsV RX3 75 RX3 yX3_lastOf wsX3_lastOf) := goodIn_app (goodIn_of _ (by decide +kernel)) ggX3_isHole_X3_lastOf
set_option maxRecDepth 20000 in
theorem ggX3_isHole_X3_shiftOf : GoodIn wsX3_isHole wsX3_shiftOf := goodIn_r _ [21, 22, 8, 9, 10, 5, 11, 12, 23, 24, 25, 26, 27, 28, 29] (by decide +kernel) (by decide +kernel)
set_option maxRecDepth 20000 in
theorem gX3_isHole_X3_shiftOf : GoodIn wsX3_isHole (wsV RX3 90 RX3 yX3_shiftOf wsX3_shiftOf) := goodIn_app (goodIn_of _ (by decide +kernel)) ggX3_isHole_X3_shiftOf
theorem dX3_isHole_0 : decode cX3_isHole 0 = .ok (.iload_n 2, 1) := by decide +kernel
theorem dX3_isHole_1 : decode cX3_isHole 1 = .ok (.aload_n 0, 1) := by decide +kernel
theorem dX3_isHole_2 : decode cX3_isHole 2 = .ok (.iload_n 1, 1) := by decide +kernel
theorem dX3_isHole_3 : decode cX3_isHole 3 = .ok (.invokevirtual 64, 3) := by decide +kernel
theorem dX3_isHole_6 : decode cX3_isHole 6 = .ok (.if_icmp .eq 12, 3) := by decide +kernel
theorem dX3_isHole_9 : decode cX3_isHole 9 = .ok (.iload_n 2, 1) := by decide +kernel
theorem dX3_isHole_10 : decode cX3_isHole 10 = .ok (.aload_n 0, 1) := by decide +kernel
theorem dX3_isHole_11 : decode cX3_isHole 11 = .ok (.iload_n 1, 1) := by decide +kernel
theorem dX3_isHole_12 : decode cX3_isHole 12 = .ok (.invokevirtual 75, 3) := by decide +kernel
theorem dX3_isHole_15 : decode cX3_isHole 15 = .ok (.if_icmp .ne 5, 3) := by decide +kernel
theorem dX3_isHole_18 : decode cX3_isHole 18 = .ok (.iconst 1, 1) := by decide +kernel
theorem dX3_isHole_19 : decode cX3_isHole 19 = .ok (.ireturn, 1) := by decide +kernel
theorem dX3_isHole_20 : decode cX3_isHole 20 = .ok (.aload_n 0, 1) := by decide +kernel
theorem dX3_isHole_21 : decode cX3_isHole 21 = .ok (.getfield 9, 3) := by decide +kernel
theorem dX3_isHole_24 : decode cX3_isHole 24 = .ok (.iconst 0, 1) := by decide +kernel
theorem dX3_isHole_25 : decode cX3_isHole 25 = .ok (.iaload, 1) := by decide +kernel
theorem dX3_isHole_26 : decode cX3_isHole 26 = .ok (.aload_n 0, 1) := by decide +kernel
theorem dX3_isHole_27 : decode cX3_isHole 27 = .ok (.getfield 9, 3) := by decide +kernel
theorem dX3_isHole_30 : decode cX3_isHole 30 = .ok (.iconst 1, 1) := by decide +kernel
theorem dX3_isHole_31 : decode cX3_isHole 31 = .ok (.iaload, 1) := by decide +kernel
theorem dX3_isHole_32 : decode cX3_isHole 32 = .ok (.iadd, 1) := by decide +kernel
theorem dX3_isHole_33 : decode cX3_isHole 33 = .ok (.istore_n 3, 1) := by decide +kernel
theorem dX3_isHole_34 : decode cX3_isHole 34 = .ok (.iload_n 2, 1) := by decide +kernel
theorem dX3_isHole_35 : decode cX3_isHole 35 = .ok (.aload_n 0, 1) := by decide +kernel
theorem dX3_isHole_36 : decode cX3_isHole 36 = .ok (.iload_n 1, 1) := by decide +kernel
theorem dX3_isHole_37 : decode cX3_isHole 37 = .ok (.invokevirtual 64, 3) := by decide +kernel
theorem dX3_isHole_40 : decode cX3_isHole 40 = .ok (.isub, 1) := by decide +kernel
theorem dX3_isHole_41 : decode cX3_isHole 41 = .ok (.aload_n 0, 1) := by decide +kernel
theorem dX3_isHole_42 : decode cX3_isHole 42 = .ok (.iload_n 1, 1) := by decide +kernel
theorem dX3_isHole_43 : decode cX3_isHole 43 = .ok (.invokevirtual 90, 3) := by decide +kernel
theorem dX3_isHole_46 : decode cX3_isHole 46 = .ok (.iadd, 1) := by decide +kernel
theorem dX3_isHole_47 : decode cX3_isHole 47 = .ok (.istore 4, 2) := by decide +kernel
theorem dX3_isHole_49 : decode cX3_isHole 49 = .ok (.iload_n 3, 1) := by decide +kernel
theorem dX3_isHole_50 : decode cX3_isHole 50 = .ok (.ifCond .le 20, 3) := by decide +kernel
theorem dX3_isHole_53 : decode cX3_isHole 53 = .ok (.iload 4, 2) := by decide +kernel
theorem dX3_isHole_55 : decode cX3_isHole 55 = .ok (.iload_n 3, 1) := by decide +kernel
theorem dX3_isHole_56 : decode cX3_isHole 56 = .ok (.irem, 1) := by decide +kernel
theorem dX3_isHole_57 : decode cX3_isHole 57 = .ok (.aload_n 0, 1) := by decide +kernel
theorem dX3_isHole_58 : decode cX3_isHole 58 = .ok (.getfield 9, 3) := by decide +kernel
theorem dX3_isHole_61 : decode cX3_isHole 61 = .ok (.iconst 0, 1) := by decide +kernel
theorem dX3_isHole_62 : decode cX3_isHole 62 = .ok (.iaload, 1) := by decide +kernel
theorem dX3_isHole_63 : decode cX3_isHole 63 = .ok (.if_icmp .ge 7, 3) := by decide +kernel
theorem dX3_isHole_66 : decode cX3_isHole 66 = .ok (.iconst 1, 1) := by decide +kernel
theorem dX3_isHole_67 : decode cX3_isHole 67 = .ok (.goto 4, 3) := by decide +kernel
theorem dX3_isHole_70 : decode cX3_isHole 70 = .ok (.iconst 0, 1) := by decide +kernel
theorem dX3_isHole_71 : decode cX3_isHole 71 = .ok (.ireturn, 1) := by decide +kernel
set_option maxRecDepth 20000 in
theorem ggX3_bridges_X3_firstOf : GoodIn wsX3_bridges wsX3_firstOf := goodIn_r _ [5, 6, 7, 8, 9, 4, 10, 11, 27, 28, 29, 30, 31, 32, 33] (by decide +kernel) (by decide +kernel)
set_option maxRecDepth 20000 in
theorem gX3_bridges_X3_firstOf : GoodIn wsX3_bridges (wsV RX3 64 RX3 yX3_firstOf wsX3_firstOf) := goodIn_app (goodIn_of _ (by decide +kernel)) ggX3_bridges_X3_firstOf
set_option maxRecDepth 20000 in
theorem ggX3_bridges_X3_lastOf : GoodIn wsX3_bridges wsX3_lastOf := goodIn_r _ [15, 16, 7, 8, 9, 4, 10, 11, 27, 28, 29, 30, 31, 32, 33] (by decide +kernel) (by decide +kernel)
set_option maxRecDepth 20000 in
theorem gX3_bridges_X3_lastOf : GoodIn wsX3_bridges (wsV RX3 75 RX3 yX3_lastOf wsX3_lastOf) := goodIn_app (goodIn_of _ (by decide +kernel)) ggX3_bridges_X3_lastOf
set_option maxRecDepth 20000 in
theorem ggX3_bridges_X3_isHole : GoodIn wsX3_bridges wsX3_isHole := goodIn_r _ [20, 21, 1, 2, 3, 4, 5, 6, 7, 8, 9, 10, 11, 12, 13, 14, 15, 16, 22, 23, 24, 25, 26, 27, 28, 29, 30, 31, 32, 33] (by decide +kernel) (by decide +kernel)
set_option maxRecDepth 20000 in
theorem gX3_bridges_X3_isHole : GoodIn wsX3_bridges (wsV RX3 103 RX3 yX3_isHole wsX3_isHole) := goodIn_app (goodIn_of _ (by decide +kernel)) ggX3_bridges_X3_isHole
theorem dX3_bridges_0 : decode cX3_bridges 0 = .ok (.iconst 0, 1) := by decide +kernel
theorem dX3_bridges_1 : decode cX3_bridges 1 = .ok (.istore_n 2, 1) := by decide +kernel
theorem dX3_bridges_2 : decode cX3_bridges 2 = .ok (.aload_n 0, 1) := by decide +kernel
theorem dX3_bridges_3 : decode cX3_bridges 3 = .ok (.iload_n 1, 1) := by decide +kernel
theorem dX3_bridges_4 : decode cX3_bridges 4 = .ok (.invokevirtual 64, 3) := by decide +kernel
theorem dX3_bridges_7 : decode cX3_bridges 7 = .ok (.istore_n 3, 1) := by decide +kernel
theorem dX3_bridges_8 : decode cX3_bridges 8 = .ok (.iload_n 3, 1) := by decide +kernel
theorem dX3_bridges_9 : decode cX3_bridges 9 = .ok (.aload_n 0, 1) := by decide +kernel
theorem dX3_bridges_10 : decode cX3_bridges 10 = .ok (.iload_n 1, 1) := by decide +kernel
theorem dX3_bridges_11 : decode cX3_bridges 11 = .ok (.invokevirtual 75, 3) := by decide +kernel
theorem dX3_bridges_14 : decode cX3_bridges 14 = .ok (.if_icmp .gt 21, 3) := by decide +kernel
theorem dX3_bridges_17 : decode cX3_bridges 17 = .ok (.aload_n 0, 1) := by decide +kernel
theorem dX3_bridges_18 : decode cX3_bridges 18 = .ok (.iload_n 1, 1) := by decide +kernel
theorem dX3_bridges_19 : decode cX3_bridges 19 = .ok (.iload_n 3, 1) := by decide +kernel
theorem dX3_bridges_20 : decode cX3_bridges 20 = .ok (.invokevirtual 103, 3) := by decide +kernel
theorem dX3_bridges_23 : decode cX3_bridges 23 = .ok (.ifCond .ne 6, 3) := by decide +kernel
theorem dX3_bridges_26 : decode cX3_bridges 26 = .ok (.iinc 2 1, 3) := by decide +kernel
theorem dX3_bridges_29 : decode cX3_bridges 29 = .ok (.iinc 3 1, 3) := by decide +kernel
theorem dX3_bridges_32 : decode cX3_bridges 32 = .ok (.goto (-24), 3) := by decide +kernel
theorem dX3_bridges_35 : decode cX3_bridges 35 = .ok (.iload_n 2, 1) := by decide +kernel
theorem dX3_bridges_36 : decode cX3_bridges 36 = .ok (.ireturn, 1) := by decide +kernel
set_option maxRecDepth 20000 in
theorem ggX3_longestBridge_X3_firstOf : GoodIn wsX3_longestBridge wsX3_firstOf := goodIn_r _ [9, 10, 11, 12, 13, 8, 14, 15, 31, 32, 33, 34, 35, 36, 37] (by decide +kernel) (by decide +kernel)
set_option maxRecDepth 20000 in
theorem gX3_longestBridge_X3_firstOf : GoodIn wsX3_longestBridge (wsV RX3 64 RX3 yX3_firstOf wsX3_firstOf) := goodIn_app (goodIn_of _ (by decide +kernel)) ggX3_longestBridge_X3_firstOf
set_option maxRecDepth 20000 in
theorem ggX3_longestBridge_X3_lastOf : GoodIn wsX3_longestBridge wsX3_lastOf := goodIn_r _ [19, 20, 11, 12, 13, 8, 14, 15, 31, 32, 33, 34, 35, 36, 37] (by decide +kernel) (by decide +kernel)
set_option maxRecDepth 20000 in
theorem gX3_longestBridge_X3_lastOf : GoodIn wsX3_longestBridge (wsV RX3 75 RX3 yX3_lastOf wsX3_lastOf) := goodIn_app (goodIn_of _ (by decide +kernel)) ggX3_longestBridge_X3_lastOf
set_option maxRecDepth 20000 in
theorem ggX3_longestBridge_X3_isHole : GoodIn wsX3_longestBridge wsX3_isHole := goodIn_r _ [24, 25, 5, 6, 7, 8, 9, 10, 11, 12, 13, 14, 15, 16, 17, 18, 19, 20, 26, 27, 28, 29, 30, 31, 32, 33, 34, 35, 36, 37] (by decide +kernel) (by decide +kernel)
set_option maxRecDepth 20000 in
theorem gX3_longestBridge_X3_isHole : GoodIn wsX3_longestBridge (wsV RX3 103 RX3 yX3_isHole wsX3_isHole) := goodIn_app (goodIn_of _ (by decide +kernel)) ggX3_longestBridge_X3_isHole
theorem dX3_longestBridge_0 : decode cX3_longestBridge 0 = .ok (.iconst 0, 1) := by decide +kernel
theorem dX3_longestBridge_1 : decode cX3_longestBridge 1 = .ok (.istore_n 2, 1) := by decide +kernel
theorem dX3_longestBridge_2 : decode cX3_longestBridge 2 = .ok (.iconst 0, 1) := by decide +kernel
theorem dX3_longestBridge_3 : decode cX3_longestBridge 3 = .ok (.istore_n 3, 1) := by decide +kernel
theorem dX3_longestBridge_4 : decode cX3_longestBridge 4 = .ok (.aload_n 0, 1) := by decide +kernel
theorem dX3_longestBridge_5 : decode cX3_longestBridge 5 = .ok (.iload_n 1, 1) := by decide +kernel
theorem dX3_longestBridge_6 : decode cX3_longestBridge 6 = .ok (.invokevirtual 64, 3) := by decide +kernel
theorem dX3_longestBridge_9 : decode cX3_longestBridge 9 = .ok (.istore 4, 2) := by decide +kernel
theorem dX3_longestBridge_11 : decode cX3_longestBridge 11 = .ok (.iload 4, 2) := by decide +kernel
theorem dX3_longestBridge_13 : decode cX3_longestBridge 13 = .ok (.aload_n 0, 1) := by decide +kernel
theorem dX3_longestBridge_14 : decode cX3_longestBridge 14 = .ok (.iload_n 1, 1) := by decide +kernel
theorem dX3_longestBridge_15 : decode cX3_longestBridge 15 = .ok (.invokevirtual 75, 3) := by decide +kernel
theorem dX3_longestBridge_18 : decode cX3_longestBridge 18 = .ok (.if_icmp .gt 33, 3) := by decide +kernel
theorem dX3_longestBridge_21 : decode cX3_longestBridge 21 = .ok (.aload_n 0, 1) := by decide +kernel
theorem dX3_longestBridge_22 : decode cX3_longestBridge 22 = .ok (.iload_n 1, 1) := by decide +kernel
theorem dX3_longestBridge_23 : decode cX3_longestBridge 23 = .ok (.iload 4, 2) := by decide +kernel
theorem dX3_longestBridge_25 : decode cX3_longestBridge 25 = .ok (.invokevirtual 103, 3) := by decide +kernel
theorem dX3_longestBridge_28 : decode cX3_longestBridge 28 = .ok (.ifCond .eq 7, 3) := by decide +kernel
theorem dX3_longestBridge_31 : decode cX3_longestBridge 31 = .ok (.iconst 0, 1) := by decide +kernel
theorem dX3_longestBridge_32 : decode cX3_longestBridge 32 = .ok (.goto 6, 3) := by decide +kernel
theorem dX3_longestBridge_35 : decode cX3_longestBridge 35 = .ok (.iload_n 3, 1) := by decide +kernel
theorem dX3_longestBridge_36 : decode cX3_longestBridge 36 = .ok (.iconst 1, 1) := by decide +kernel
theorem dX3_longestBridge_37 : decode cX3_longestBridge 37 = .ok (.iadd, 1) := by decide +kernel
theorem dX3_longestBridge_38 : decode cX3_longestBridge 38 = .ok (.istore_n 3, 1) := by decide +kernel
theorem dX3_longestBridge_39 : decode cX3_longestBridge 39 = .ok (.iload_n 2, 1) := by decide +kernel
theorem dX3_longestBridge_40 : decode cX3_longestBridge 40 = .ok (.iload_n 3, 1) := by decide +kernel
theorem dX3_longestBridge_41 : decode cX3_longestBridge 41 = .ok (.invokestatic 78, 3) := by decide +kernel
theorem dX3_longestBridge_44 : decode cX3_longestBridge 44 = .ok (.istore_n 2, 1) := by decide +kernel
theorem dX3_longestBridge_45 : decode cX3_longestBridge 45 = .ok (.iinc 4 1, 3) := by decide +kernel
theorem dX3_longestBridge_48 : decode cX3_longestBridge 48 = .ok (.goto (-37), 3) := by decide +kernel
theorem dX3_longestBridge_51 : decode cX3_longestBridge 51 = .ok (.iload_n 2, 1) := by decide +kernel
theorem dX3_longestBridge_52 : decode cX3_longestBridge 52 = .ok (.ireturn, 1) := by decide +kernel
set_option maxRecDepth 20000 in
theorem ggX4_init_X3_init : GoodIn wsX4_init wsX3_init := goodIn_r _ [26, 27, 2, 3, 28, 29, 30, 31, 32, 33, 22, 34, 35, 36, 37, 38, 60, 61, 62, 63, 64, 65, 66] (by decide +kernel) (by decide +kernel)
set_option maxRecDepth 20000 in
theorem gX4_init_X3_init : GoodIn wsX4_init (wsX3_init) := ggX4_init_X3_init
set_option maxRecDepth 20000 in
theorem ggX4_init_X2_init : GoodIn wsX4_init wsX2_init := goodIn_r _ [40, 41, 2, 3, 28, 42, 43, 74, 75, 76] (by decide +kernel) (by decide +kernel)
set_option maxRecDepth 20000 in
theorem gX4_init_X2_init_n21 : GoodIn wsX4_init (wsX2_init) := ggX4_init_X2_init
set_option maxRecDepth 20000 in
theorem ggX4_init_X1_init : GoodIn wsX4_init wsX1_init := goodIn_r _ [45, 46, 2, 3, 47, 48, 28, 49, 50, 51, 22, 52, 77, 78, 79, 80, 81, 82, 83, 84] (by decide +kernel) (by decide +kernel)
set_option maxRecDepth 20000 in
theorem gX4_init_X1_init_n28 : GoodIn wsX4_init (wsX1_init) := ggX4_init_X1_init
set_option maxRecDepth 20000 in
theorem ggX4_init_X0_init : GoodIn wsX4_init wsX0_init := goodIn_r _ [55, 56, 2, 3, 57, 58, 5, 6, 59, 25, 26, 27, 28, 29, 30, 31, 32, 33, 22, 34, 35, 36, 37, 38, 85, 86, 87, 60, 61, 62, 63, 64, 65, 66] (by decide +kernel) (by decide +kernel)
set_option maxRecDepth 20000 in
theorem gX4_init_X0_init : GoodIn wsX4_init (wsX0_init) := ggX4_init_X0_init
theorem dX4_init_0 : decode cX4_init 0 = .ok (.aload_n 0, 1) := by decide +kernel
theorem dX4_init_1 : decode cX4_init 1 = .ok (.invokespecial 1, 3) := by decide +kernel
theorem dX4_init_4 : decode cX4_init 4 = .ok (.aload_n 0, 1) := by decide +kernel
theorem dX4_init_5 : decode cX4_init 5 = .ok (.new 7, 3) := by decide +kernel
theorem dX4_init_8 : decode cX4_init 8 = .ok (.dup, 1) := by decide +kernel
theorem dX4_init_9 : decode cX4_init 9 = .ok (.invokespecial 9, 3) := by decide +kernel
theorem dX4_init_12 : decode cX4_init 12 = .ok (.putfield 10, 3) := by decide +kernel
theorem dX4_init_15 : decode cX4_init 15 = .ok (.aload_n 0, 1) := by decide +kernel
theorem dX4_init_16 : decode cX4_init 16 = .ok (.new 7, 3) := by decide +kernel
theorem dX4_init_19 : decode cX4_init 19 = .ok (.dup, 1) := by decide +kernel
theorem dX4_init_20 : decode cX4_init 20 = .ok (.invokespecial 9, 3) := by decide +kernel
theorem dX4_init_23 : decode cX4_init 23 = .ok (.putfield 16, 3) := by decide +kernel
theorem dX4_init_26 : decode cX4_init 26 = .ok (.aload_n 0, 1) := by decide +kernel
theorem dX4_init_27 : decode cX4_init 27 = .ok (.new 19, 3) := by decide +kernel
theorem dX4_init_30 : decode cX4_init 30 = .ok (.dup, 1) := by decide +kernel
theorem dX4_init_31 : decode cX4_init 31 = .ok (.invokespecial 21, 3) := by decide +kernel
theorem dX4_init_34 : decode cX4_init 34 = .ok (.putfield 22, 3) := by decide +kernel
theorem dX4_init_37 : decode cX4_init 37 = .ok (.aload_n 0, 1) := by decide +kernel
theorem dX4_init_38 : decode cX4_init 38 = .ok (.new 26, 3) := by decide +kernel
theorem dX4_init_41 : decode cX4_init 41 = .ok (.dup, 1) := by decide +kernel
theorem dX4_init_42 : decode cX4_init 42 = .ok (.invokespecial 28, 3) := by decide +kernel
theorem dX4_init_45 : decode cX4_init 45 = .ok (.putfield 29, 3) := by decide +kernel
theorem dX4_init_48 : decode cX4_init 48 = .ok (.aload_n 0, 1) := by decide +kernel
theorem dX4_init_49 : decode cX4_init 49 = .ok (.new 33, 3) := by decide +kernel
theorem dX4_init_52 : decode cX4_init 52 = .ok (.dup, 1) := by decide +kernel
theorem dX4_init_53 : decode cX4_init 53 = .ok (.invokespecial 35, 3) := by decide +kernel
theorem dX4_init_56 : decode cX4_init 56 = .ok (.putfield 36, 3) := by decide +kernel
theorem dX4_init_59 : decode cX4_init 59 = .ok (.aload_n 0, 1) := by decide +kernel
theorem dX4_init_60 : decode cX4_init 60 = .ok (.iconst 2, 1) := by decide +kernel
theorem dX4_init_61 : decode cX4_init 61 = .ok (.anewarray 7, 3) := by decide +kernel
theorem dX4_init_64 : decode cX4_init 64 = .ok (.putfield 40, 3) := by decide +kernel
theorem dX4_init_67 : decode cX4_init 67 = .ok (.aload_n 0, 1) := by decide +kernel
theorem dX4_init_68 : decode cX4_init 68 = .ok (.iconst 2, 1) := by decide +kernel
theorem dX4_init_69 : decode cX4_init 69 = .ok (.newarray .boolean, 2) := by decide +kernel
theorem dX4_init_71 : decode cX4_init 71 = .ok (.putfield 44, 3) := by decide +kernel
theorem dX4_init_74 : decode cX4_init 74 = .ok (.iconst 0, 1) := by decide +kernel
theorem dX4_init_75 : decode cX4_init 75 = .ok (.istore_n 1, 1) := by decide +kernel
theorem dX4_init_76 : decode cX4_init 76 = .ok (.iload_n 1, 1) := by decide +kernel
theorem dX4_init_77 : decode cX4_init 77 = .ok (.iconst 2, 1) := by decide +kernel
theorem dX4_init_78 : decode cX4_init 78 = .ok (.if_icmp .ge 22, 3) := by decide +kernel
theorem dX4_init_81 : decode cX4_init 81 = .ok (.aload_n 0, 1) := by decide +kernel
theorem dX4_init_82 : decode cX4_init 82 = .ok (.getfield 40, 3) := by decide +kernel
theorem dX4_init_85 : decode cX4_init 85 = .ok (.iload_n 1, 1) := by decide +kernel
theorem dX4_init_86 : decode cX4_init 86 = .ok (.new 7, 3) := by decide +kernel
theorem dX4_init_89 : decode cX4_init 89 = .ok (.dup, 1) := by decide +kernel
theorem dX4_init_90 : decode cX4_init 90 = .ok (.invokespecial 9, 3) := by decide +kernel
theorem dX4_init_93 : decode cX4_init 93 = .ok (.aastore, 1) := by decide +kernel
theorem dX4_init_94 : decode cX4_init 94 = .ok (.iinc 1 1, 3) := by decide +kernel
theorem dX4_init_97 : decode cX4_init 97 = .ok (.goto (-21), 3) := by decide +kernel
theorem dX4_init_100 : decode cX4_init 100 = .ok (.return_, 1) := by decide +kernel
set_option maxRecDepth 20000 in
theorem ggX4_set_X4_isIn : GoodIn wsX4_set wsX4_isIn := goodIn_r _ [8] (by decide +kernel) (by decide +kernel)
set_option maxRecDepth 20000 in
theorem gX4_set_X4_isIn : GoodIn wsX4_set (va_wsS RX4 48 yX4_isIn wsX4_isIn) := goodIn_app (goodIn_of _ (by decide +kernel)) ggX4_set_X4_isIn
set_option maxRecDepth 20000 in
theorem ggX4_set_X3_settingOf : GoodIn wsX4_set wsX3_settingOf := goodIn_r _ [13, 14, 6, 7, 8, 60, 61, 62, 63, 64, 65, 66] (by decide +kernel) (by decide +kernel)
set_option maxRecDepth 20000 in
theorem gX4_set_X3_settingOf : GoodIn wsX4_set (wsV RX4 59 RX3 yX3_settingOf wsX3_settingOf) := goodIn_app (goodIn_of _ (by decide +kernel)) ggX4_set_X3_settingOf
set_option maxRecDepth 20000 in
theorem ggX4_set_X0_record : GoodIn wsX4_set wsX0_record := goodIn_r _ [19, 20, 21, 22, 23, 24, 25, 18, 26, 27, 28, 29, 30, 31, 32, 33, 12, 34, 35, 36, 37, 38, 39, 40, 41, 42, 43, 44, 14, 45, 46, 47, 48, 67, 68, 69, 60, 61, 62, 63, 64, 65, 66] (by decide +kernel) (by decide +kernel)
set_option maxRecDepth 20000 in
theorem gX4_set_X0_record : GoodIn wsX4_set (wsV RX4 63 RX0 yX0_record wsX0_record) := goodIn_app (goodIn_of _ (by decide +kernel)) ggX4_set_X0_record
set_option maxRecDepth 20000 in
theorem ggX4_set_X3_giveSetting : GoodIn wsX4_set wsX3_giveSetting := goodIn_r _ [52, 14, 6, 7, 8, 60, 61, 62, 63, 64, 65, 66] (by decide +kernel) (by decide +kernel)
set_option maxRecDepth 20000 in
theorem gX4_set_X3_giveSetting : GoodIn wsX4_set (wsV RX4 67 RX3 yX3_giveSetting wsX3_giveSetting) := goodIn_app (goodIn_of _ (by decide +kernel)) ggX4_set_X3_giveSetting
theorem dX4_set_0 : decode cX4_set 0 = .ok (.iload_n 1, 1) := by decide +kernel
theorem dX4_set_1 : decode cX4_set 1 = .ok (.iconst 0, 1) := by decide +kernel
theorem dX4_set_2 : decode cX4_set 2 = .ok (.iconst 3, 1) := by decide +kernel
theorem dX4_set_3 : decode cX4_set 3 = .ok (.invokestatic 48, 3) := by decide +kernel
theorem dX4_set_6 : decode cX4_set 6 = .ok (.ifCond .eq 20, 3) := by decide +kernel
theorem dX4_set_9 : decode cX4_set 9 = .ok (.iload_n 2, 1) := by decide +kernel
theorem dX4_set_10 : decode cX4_set 10 = .ok (.getstatic 52, 3) := by decide +kernel
theorem dX4_set_13 : decode cX4_set 13 = .ok (.iload_n 1, 1) := by decide +kernel
theorem dX4_set_14 : decode cX4_set 14 = .ok (.iaload, 1) := by decide +kernel
theorem dX4_set_15 : decode cX4_set 15 = .ok (.getstatic 56, 3) := by decide +kernel
theorem dX4_set_18 : decode cX4_set 18 = .ok (.iload_n 1, 1) := by decide +kernel
theorem dX4_set_19 : decode cX4_set 19 = .ok (.iaload, 1) := by decide +kernel
theorem dX4_set_20 : decode cX4_set 20 = .ok (.invokestatic 48, 3) := by decide +kernel
theorem dX4_set_23 : decode cX4_set 23 = .ok (.ifCond .ne 6, 3) := by decide +kernel
theorem dX4_set_26 : decode cX4_set 26 = .ok (.bipush (-2), 2) := by decide +kernel
theorem dX4_set_28 : decode cX4_set 28 = .ok (.ireturn, 1) := by decide +kernel
theorem dX4_set_29 : decode cX4_set 29 = .ok (.aload_n 0, 1) := by decide +kernel
theorem dX4_set_30 : decode cX4_set 30 = .ok (.getfield 10, 3) := by decide +kernel
theorem dX4_set_33 : decode cX4_set 33 = .ok (.iload_n 1, 1) := by decide +kernel
theorem dX4_set_34 : decode cX4_set 34 = .ok (.invokevirtual 59, 3) := by decide +kernel
theorem dX4_set_37 : decode cX4_set 37 = .ok (.istore_n 3, 1) := by decide +kernel
theorem dX4_set_38 : decode cX4_set 38 = .ok (.aload_n 0, 1) := by decide +kernel
theorem dX4_set_39 : decode cX4_set 39 = .ok (.getfield 36, 3) := by decide +kernel
theorem dX4_set_42 : decode cX4_set 42 = .ok (.aload_n 0, 1) := by decide +kernel
theorem dX4_set_43 : decode cX4_set 43 = .ok (.getfield 10, 3) := by decide +kernel
theorem dX4_set_46 : decode cX4_set 46 = .ok (.invokevirtual 63, 3) := by decide +kernel
theorem dX4_set_49 : decode cX4_set 49 = .ok (.aload_n 0, 1) := by decide +kernel
theorem dX4_set_50 : decode cX4_set 50 = .ok (.getfield 10, 3) := by decide +kernel
theorem dX4_set_53 : decode cX4_set 53 = .ok (.iload_n 1, 1) := by decide +kernel
theorem dX4_set_54 : decode cX4_set 54 = .ok (.iload_n 2, 1) := by decide +kernel
theorem dX4_set_55 : decode cX4_set 55 = .ok (.invokevirtual 67, 3) := by decide +kernel
theorem dX4_set_58 : decode cX4_set 58 = .ok (.iload_n 3, 1) := by decide +kernel
theorem dX4_set_59 : decode cX4_set 59 = .ok (.ireturn, 1) := by decide +kernel
set_option maxRecDepth 20000 in
theorem ggX4_note_X4_isTrack : GoodIn wsX4_note wsX4_isTrack := goodIn_r _ [6, 7, 8, 5, 9] (by decide +kernel) (by decide +kernel)
set_option maxRecDepth 20000 in
theorem gX4_note_X4_isTrack : GoodIn wsX4_note (va_wsS RX4 71 yX4_isTrack wsX4_isTrack) := goodIn_app (goodIn_of _ (by decide +kernel)) ggX4_note_X4_isTrack
set_option maxRecDepth 20000 in
theorem ggX4_note_X4_isStep : GoodIn wsX4_note wsX4_isStep := goodIn_r _ [12, 7, 8, 5, 9] (by decide +kernel) (by decide +kernel)
set_option maxRecDepth 20000 in
theorem gX4_note_X4_isStep : GoodIn wsX4_note (va_wsS RX4 75 yX4_isStep wsX4_isStep) := goodIn_app (goodIn_of _ (by decide +kernel)) ggX4_note_X4_isStep
set_option maxRecDepth 20000 in
theorem ggX4_note_X3_size : GoodIn wsX4_note wsX3_size := goodIn_r _ [17, 18, 96, 97, 98, 99, 100, 101, 102] (by decide +kernel) (by decide +kernel)
set_option maxRecDepth 20000 in
theorem gX4_note_X3_size : GoodIn wsX4_note (wsV RX4 78 RX3 yX3_size wsX3_size) := goodIn_app (goodIn_of _ (by decide +kernel)) ggX4_note_X3_size
set_option maxRecDepth 20000 in
theorem ggX4_note_X3_isTaken : GoodIn wsX4_note wsX3_isTaken := goodIn_r _ [22, 23, 24, 25, 16, 26, 18, 27, 28, 29, 30, 31, 32, 33, 34, 35, 36, 37, 38, 39, 40, 41, 42, 43, 44, 45, 96, 97, 98, 99, 100, 101, 102] (by decide +kernel) (by decide +kernel)
set_option maxRecDepth 20000 in
theorem gX4_note_X3_isTaken : GoodIn wsX4_note (wsV RX4 82 RX3 yX3_isTaken wsX3_isTaken) := goodIn_app (goodIn_of _ (by decide +kernel)) ggX4_note_X3_isTaken
set_option maxRecDepth 20000 in
theorem ggX4_note_X0_record : GoodIn wsX4_note wsX0_record := goodIn_r _ [50, 51, 52, 53, 54, 55, 56, 49, 57, 58, 59, 60, 61, 62, 63, 64, 16, 65, 18, 31, 40, 45, 66, 67, 68, 69, 70, 71, 72, 73, 74, 75, 76, 103, 104, 105, 96, 97, 98, 99, 100, 101, 102] (by decide +kernel) (by decide +kernel)
set_option maxRecDepth 20000 in
theorem gX4_note_X0_record : GoodIn wsX4_note (wsV RX4 63 RX0 yX0_record wsX0_record) := goodIn_app (goodIn_of _ (by decide +kernel)) ggX4_note_X0_record
set_option maxRecDepth 20000 in
theorem ggX4_note_X3_add : GoodIn wsX4_note wsX3_add := goodIn_r _ [80, 18, 31, 40, 45, 66, 67, 81, 82, 83, 16, 84, 36, 37, 38, 39, 32, 33, 34, 35, 27, 28, 29, 30, 85, 86, 87, 88, 8, 5, 9, 96, 97, 98, 99, 100, 101, 102] (by decide +kernel) (by decide +kernel)
set_option maxRecDepth 20000 in
theorem gX4_note_X3_add : GoodIn wsX4_note (wsV RX4 85 RX3 yX3_add wsX3_add) := goodIn_app (goodIn_of _ (by decide +kernel)) ggX4_note_X3_add
theorem dX4_note_0 : decode cX4_note 0 = .ok (.iload_n 1, 1) := by decide +kernel
theorem dX4_note_1 : decode cX4_note 1 = .ok (.invokestatic 71, 3) := by decide +kernel
theorem dX4_note_4 : decode cX4_note 4 = .ok (.ifCond .ne 5, 3) := by decide +kernel
theorem dX4_note_7 : decode cX4_note 7 = .ok (.iconst (-1), 1) := by decide +kernel
theorem dX4_note_8 : decode cX4_note 8 = .ok (.ireturn, 1) := by decide +kernel
theorem dX4_note_9 : decode cX4_note 9 = .ok (.iload_n 2, 1) := by decide +kernel
theorem dX4_note_10 : decode cX4_note 10 = .ok (.invokestatic 75, 3) := by decide +kernel
theorem dX4_note_13 : decode cX4_note 13 = .ok (.ifCond .eq 15, 3) := by decide +kernel
theorem dX4_note_16 : decode cX4_note 16 = .ok (.iload_n 3, 1) := by decide +kernel
theorem dX4_note_17 : decode cX4_note 17 = .ok (.invokestatic 75, 3) := by decide +kernel
theorem dX4_note_20 : decode cX4_note 20 = .ok (.ifCond .eq 8, 3) := by decide +kernel
theorem dX4_note_23 : decode cX4_note 23 = .ok (.iload_n 3, 1) := by decide +kernel
theorem dX4_note_24 : decode cX4_note 24 = .ok (.iload_n 2, 1) := by decide +kernel
theorem dX4_note_25 : decode cX4_note 25 = .ok (.if_icmp .ge 6, 3) := by decide +kernel
theorem dX4_note_28 : decode cX4_note 28 = .ok (.bipush (-2), 2) := by decide +kernel
theorem dX4_note_30 : decode cX4_note 30 = .ok (.ireturn, 1) := by decide +kernel
theorem dX4_note_31 : decode cX4_note 31 = .ok (.aload_n 0, 1) := by decide +kernel
end
section
theorem dX4_note_32 : decode cX4_note 32 = .ok (.getfield 10, 3) := by decide +kernel
theorem dX4_note_35 : decode cX4_note 35 = .ok (.invokevirtual 78, 3) := by decide +kernel
theorem dX4_note_38 : decode cX4_note 38 = .ok (.bipush 40, 2) := by decide +kernel
theorem dX4_note_40 : decode cX4_note 40 = .ok (.if_icmp .lt 6, 3) := by decide +kernel
theorem dX4_note_43 : decode cX4_note 43 = .ok (.bipush (-4), 2) := by decide +kernel
theorem dX4_note_45 : decode cX4_note 45 = .ok (.ireturn, 1) := by decide +kernel
theorem dX4_note_46 : decode cX4_note 46 = .ok (.aload_n 0, 1) := by decide +kernel
theorem dX4_note_47 : decode cX4_note 47 = .ok (.getfield 10, 3) := by decide +kernel
theorem dX4_note_50 : decode cX4_note 50 = .ok (.iload_n 1, 1) := by decide +kernel
theorem dX4_note_51 : decode cX4_note 51 = .ok (.iload_n 2, 1) := by decide +kernel
theorem dX4_note_52 : decode cX4_note 52 = .ok (.iload_n 3, 1) := by decide +kernel
theorem dX4_note_53 : decode cX4_note 53 = .ok (.invokevirtual 82, 3) := by decide +kernel
theorem dX4_note_56 : decode cX4_note 56 = .ok (.ifCond .eq 6, 3) := by decide +kernel
theorem dX4_note_59 : decode cX4_note 59 = .ok (.bipush (-5), 2) := by decide +kernel
theorem dX4_note_61 : decode cX4_note 61 = .ok (.ireturn, 1) := by decide +kernel
theorem dX4_note_62 : decode cX4_note 62 = .ok (.aload_n 0, 1) := by decide +kernel
theorem dX4_note_63 : decode cX4_note 63 = .ok (.getfield 36, 3) := by decide +kernel
theorem dX4_note_66 : decode cX4_note 66 = .ok (.aload_n 0, 1) := by decide +kernel
theorem dX4_note_67 : decode cX4_note 67 = .ok (.getfield 10, 3) := by decide +kernel
theorem dX4_note_70 : decode cX4_note 70 = .ok (.invokevirtual 63, 3) := by decide +kernel
theorem dX4_note_73 : decode cX4_note 73 = .ok (.aload_n 0, 1) := by decide +kernel
theorem dX4_note_74 : decode cX4_note 74 = .ok (.getfield 10, 3) := by decide +kernel
theorem dX4_note_77 : decode cX4_note 77 = .ok (.iload_n 1, 1) := by decide +kernel
theorem dX4_note_78 : decode cX4_note 78 = .ok (.iload_n 2, 1) := by decide +kernel
theorem dX4_note_79 : decode cX4_note 79 = .ok (.iload_n 3, 1) := by decide +kernel
theorem dX4_note_80 : decode cX4_note 80 = .ok (.iconst 0, 1) := by decide +kernel
theorem dX4_note_81 : decode cX4_note 81 = .ok (.iconst 0, 1) := by decide +kernel
theorem dX4_note_82 : decode cX4_note 82 = .ok (.invokevirtual 85, 3) := by decide +kernel
theorem dX4_note_85 : decode cX4_note 85 = .ok (.ireturn, 1) := by decide +kernel
set_option maxRecDepth 20000 in
theorem ggX4_drop_X3_has : GoodIn wsX4_drop wsX3_has := goodIn_r _ [7, 8, 66, 67, 68, 69, 70, 71, 72] (by decide +kernel) (by decide +kernel)
set_option maxRecDepth 20000 in
theorem gX4_drop_X3_has : GoodIn wsX4_drop (wsV RX4 89 RX3 yX3_has wsX3_has) := goodIn_app (goodIn_of _ (by decide +kernel)) ggX4_drop_X3_has
set_option maxRecDepth 20000 in
theorem ggX4_drop_X0_record : GoodIn wsX4_drop wsX0_record := goodIn_r _ [13, 14, 15, 16, 17, 18, 19, 12, 20, 21, 22, 23, 24, 25, 26, 27, 6, 28, 8, 29, 30, 31, 32, 33, 34, 35, 36, 37, 38, 39, 40, 41, 42, 73, 74, 75, 66, 67, 68, 69, 70, 71, 72] (by decide +kernel) (by decide +kernel)
set_option maxRecDepth 20000 in
theorem gX4_drop_X0_record : GoodIn wsX4_drop (wsV RX4 63 RX0 yX0_record wsX0_record) := goodIn_app (goodIn_of _ (by decide +kernel)) ggX4_drop_X0_record
set_option maxRecDepth 20000 in
theorem ggX4_drop_X3_remove : GoodIn wsX4_drop wsX3_remove := goodIn_r _ [46, 8, 47, 4, 5, 6, 7, 48, 49, 50, 51, 29, 30, 31, 32, 33, 52, 53, 54, 66, 67, 68, 69, 70, 71, 72] (by decide +kernel) (by decide +kernel)
set_option maxRecDepth 20000 in
theorem gX4_drop_X3_remove : GoodIn wsX4_drop (wsV RX4 92 RX3 yX3_remove wsX3_remove) := goodIn_app (goodIn_of _ (by decide +kernel)) ggX4_drop_X3_remove
set_option maxRecDepth 20000 in
theorem ggX4_drop_X3_size : GoodIn wsX4_drop wsX3_size := goodIn_r _ [58, 8, 66, 67, 68, 69, 70, 71, 72] (by decide +kernel) (by decide +kernel)
set_option maxRecDepth 20000 in
theorem gX4_drop_X3_size : GoodIn wsX4_drop (wsV RX4 78 RX3 yX3_size wsX3_size) := goodIn_app (goodIn_of _ (by decide +kernel)) ggX4_drop_X3_size
theorem dX4_drop_0 : decode cX4_drop 0 = .ok (.aload_n 0, 1) := by decide +kernel
theorem dX4_drop_1 : decode cX4_drop 1 = .ok (.getfield 10, 3) := by decide +kernel
theorem dX4_drop_4 : decode cX4_drop 4 = .ok (.iload_n 1, 1) := by decide +kernel
theorem dX4_drop_5 : decode cX4_drop 5 = .ok (.invokevirtual 89, 3) := by decide +kernel
theorem dX4_drop_8 : decode cX4_drop 8 = .ok (.ifCond .ne 5, 3) := by decide +kernel
theorem dX4_drop_11 : decode cX4_drop 11 = .ok (.iconst (-1), 1) := by decide +kernel
theorem dX4_drop_12 : decode cX4_drop 12 = .ok (.ireturn, 1) := by decide +kernel
theorem dX4_drop_13 : decode cX4_drop 13 = .ok (.aload_n 0, 1) := by decide +kernel
theorem dX4_drop_14 : decode cX4_drop 14 = .ok (.getfield 36, 3) := by decide +kernel
theorem dX4_drop_17 : decode cX4_drop 17 = .ok (.aload_n 0, 1) := by decide +kernel
theorem dX4_drop_18 : decode cX4_drop 18 = .ok (.getfield 10, 3) := by decide +kernel
theorem dX4_drop_21 : decode cX4_drop 21 = .ok (.invokevirtual 63, 3) := by decide +kernel
theorem dX4_drop_24 : decode cX4_drop 24 = .ok (.aload_n 0, 1) := by decide +kernel
theorem dX4_drop_25 : decode cX4_drop 25 = .ok (.getfield 10, 3) := by decide +kernel
theorem dX4_drop_28 : decode cX4_drop 28 = .ok (.iload_n 1, 1) := by decide +kernel
theorem dX4_drop_29 : decode cX4_drop 29 = .ok (.invokevirtual 92, 3) := by decide +kernel
theorem dX4_drop_32 : decode cX4_drop 32 = .ok (.aload_n 0, 1) := by decide +kernel
theorem dX4_drop_33 : decode cX4_drop 33 = .ok (.getfield 10, 3) := by decide +kernel
theorem dX4_drop_36 : decode cX4_drop 36 = .ok (.invokevirtual 78, 3) := by decide +kernel
theorem dX4_drop_39 : decode cX4_drop 39 = .ok (.ireturn, 1) := by decide +kernel
set_option maxRecDepth 20000 in
theorem ggX4_shift_X3_has : GoodIn wsX4_shift wsX3_has := goodIn_r _ [7, 8, 63, 64, 65, 66, 67, 68, 69] (by decide +kernel) (by decide +kernel)
set_option maxRecDepth 20000 in
theorem gX4_shift_X3_has : GoodIn wsX4_shift (wsV RX4 89 RX3 yX3_has wsX3_has) := goodIn_app (goodIn_of _ (by decide +kernel)) ggX4_shift_X3_has
set_option maxRecDepth 20000 in
theorem ggX4_shift_X4_isIn : GoodIn wsX4_shift wsX4_isIn := goodIn_r _ [12] (by decide +kernel) (by decide +kernel)
set_option maxRecDepth 20000 in
theorem gX4_shift_X4_isIn : GoodIn wsX4_shift (va_wsS RX4 48 yX4_isIn wsX4_isIn) := goodIn_app (goodIn_of _ (by decide +kernel)) ggX4_shift_X4_isIn
set_option maxRecDepth 20000 in
theorem ggX4_shift_X3_shiftOf : GoodIn wsX4_shift wsX3_shiftOf := goodIn_r _ [16, 17, 18, 4, 5, 6, 7, 8, 63, 64, 65, 66, 67, 68, 69] (by decide +kernel) (by decide +kernel)
set_option maxRecDepth 20000 in
theorem gX4_shift_X3_shiftOf : GoodIn wsX4_shift (wsV RX4 96 RX3 yX3_shiftOf wsX3_shiftOf) := goodIn_app (goodIn_of _ (by decide +kernel)) ggX4_shift_X3_shiftOf
set_option maxRecDepth 20000 in
theorem ggX4_shift_X0_record : GoodIn wsX4_shift wsX0_record := goodIn_r _ [23, 24, 25, 26, 27, 28, 29, 22, 30, 31, 32, 33, 34, 35, 36, 37, 6, 38, 8, 39, 40, 41, 17, 42, 43, 44, 45, 46, 47, 48, 49, 50, 51, 70, 71, 72, 63, 64, 65, 66, 67, 68, 69] (by decide +kernel) (by decide +kernel)
set_option maxRecDepth 20000 in
theorem gX4_shift_X0_record : GoodIn wsX4_shift (wsV RX4 63 RX0 yX0_record wsX0_record) := goodIn_app (goodIn_of _ (by decide +kernel)) ggX4_shift_X0_record
set_option maxRecDepth 20000 in
theorem ggX4_shift_X3_giveShift : GoodIn wsX4_shift wsX3_giveShift := goodIn_r _ [55, 17, 18, 4, 5, 6, 7, 8, 63, 64, 65, 66, 67, 68, 69] (by decide +kernel) (by decide +kernel)
set_option maxRecDepth 20000 in
theorem gX4_shift_X3_giveShift : GoodIn wsX4_shift (wsV RX4 99 RX3 yX3_giveShift wsX3_giveShift) := goodIn_app (goodIn_of _ (by decide +kernel)) ggX4_shift_X3_giveShift
theorem dX4_shift_0 : decode cX4_shift 0 = .ok (.aload_n 0, 1) := by decide +kernel
theorem dX4_shift_1 : decode cX4_shift 1 = .ok (.getfield 10, 3) := by decide +kernel
theorem dX4_shift_4 : decode cX4_shift 4 = .ok (.iload_n 1, 1) := by decide +kernel
theorem dX4_shift_5 : decode cX4_shift 5 = .ok (.invokevirtual 89, 3) := by decide +kernel
theorem dX4_shift_8 : decode cX4_shift 8 = .ok (.ifCond .ne 5, 3) := by decide +kernel
theorem dX4_shift_11 : decode cX4_shift 11 = .ok (.iconst (-1), 1) := by decide +kernel
theorem dX4_shift_12 : decode cX4_shift 12 = .ok (.ireturn, 1) := by decide +kernel
theorem dX4_shift_13 : decode cX4_shift 13 = .ok (.iload_n 2, 1) := by decide +kernel
theorem dX4_shift_14 : decode cX4_shift 14 = .ok (.iconst 0, 1) := by decide +kernel
theorem dX4_shift_15 : decode cX4_shift 15 = .ok (.bipush 12, 2) := by decide +kernel
theorem dX4_shift_17 : decode cX4_shift 17 = .ok (.invokestatic 48, 3) := by decide +kernel
theorem dX4_shift_20 : decode cX4_shift 20 = .ok (.ifCond .ne 6, 3) := by decide +kernel
theorem dX4_shift_23 : decode cX4_shift 23 = .ok (.bipush (-2), 2) := by decide +kernel
theorem dX4_shift_25 : decode cX4_shift 25 = .ok (.ireturn, 1) := by decide +kernel
theorem dX4_shift_26 : decode cX4_shift 26 = .ok (.aload_n 0, 1) := by decide +kernel
theorem dX4_shift_27 : decode cX4_shift 27 = .ok (.getfield 10, 3) := by decide +kernel
theorem dX4_shift_30 : decode cX4_shift 30 = .ok (.iload_n 1, 1) := by decide +kernel
theorem dX4_shift_31 : decode cX4_shift 31 = .ok (.invokevirtual 96, 3) := by decide +kernel
theorem dX4_shift_34 : decode cX4_shift 34 = .ok (.istore_n 3, 1) := by decide +kernel
theorem dX4_shift_35 : decode cX4_shift 35 = .ok (.aload_n 0, 1) := by decide +kernel
theorem dX4_shift_36 : decode cX4_shift 36 = .ok (.getfield 36, 3) := by decide +kernel
theorem dX4_shift_39 : decode cX4_shift 39 = .ok (.aload_n 0, 1) := by decide +kernel
theorem dX4_shift_40 : decode cX4_shift 40 = .ok (.getfield 10, 3) := by decide +kernel
theorem dX4_shift_43 : decode cX4_shift 43 = .ok (.invokevirtual 63, 3) := by decide +kernel
theorem dX4_shift_46 : decode cX4_shift 46 = .ok (.aload_n 0, 1) := by decide +kernel
theorem dX4_shift_47 : decode cX4_shift 47 = .ok (.getfield 10, 3) := by decide +kernel
theorem dX4_shift_50 : decode cX4_shift 50 = .ok (.iload_n 1, 1) := by decide +kernel
theorem dX4_shift_51 : decode cX4_shift 51 = .ok (.iload_n 2, 1) := by decide +kernel
theorem dX4_shift_52 : decode cX4_shift 52 = .ok (.invokevirtual 99, 3) := by decide +kernel
theorem dX4_shift_55 : decode cX4_shift 55 = .ok (.iload_n 3, 1) := by decide +kernel
theorem dX4_shift_56 : decode cX4_shift 56 = .ok (.ireturn, 1) := by decide +kernel
set_option maxRecDepth 20000 in
theorem ggX4_accent_X3_has : GoodIn wsX4_accent wsX3_has := goodIn_r _ [7, 8, 63, 64, 65, 66, 67, 68, 69] (by decide +kernel) (by decide +kernel)
set_option maxRecDepth 20000 in
theorem gX4_accent_X3_has : GoodIn wsX4_accent (wsV RX4 89 RX3 yX3_has wsX3_has) := goodIn_app (goodIn_of _ (by decide +kernel)) ggX4_accent_X3_has
set_option maxRecDepth 20000 in
theorem ggX4_accent_X3_hasAccent : GoodIn wsX4_accent wsX3_hasAccent := goodIn_r _ [12, 13, 14, 4, 5, 6, 7, 8, 63, 64, 65, 66, 67, 68, 69] (by decide +kernel) (by decide +kernel)
set_option maxRecDepth 20000 in
theorem gX4_accent_X3_hasAccent : GoodIn wsX4_accent (wsV RX4 102 RX3 yX3_hasAccent wsX3_hasAccent) := goodIn_app (goodIn_of _ (by decide +kernel)) ggX4_accent_X3_hasAccent
set_option maxRecDepth 20000 in
theorem ggX4_accent_X0_record : GoodIn wsX4_accent wsX0_record := goodIn_r _ [19, 20, 21, 22, 23, 24, 25, 18, 26, 27, 28, 29, 30, 31, 32, 33, 6, 34, 8, 35, 36, 37, 38, 13, 39, 40, 41, 42, 43, 44, 45, 46, 47, 70, 71, 72, 63, 64, 65, 66, 67, 68, 69] (by decide +kernel) (by decide +kernel)
set_option maxRecDepth 20000 in
theorem gX4_accent_X0_record : GoodIn wsX4_accent (wsV RX4 63 RX0 yX0_record wsX0_record) := goodIn_app (goodIn_of _ (by decide +kernel)) ggX4_accent_X0_record
set_option maxRecDepth 20000 in
theorem ggX4_accent_X3_giveAccent : GoodIn wsX4_accent wsX3_giveAccent := goodIn_r _ [51, 13, 14, 4, 5, 6, 7, 8, 63, 64, 65, 66, 67, 68, 69] (by decide +kernel) (by decide +kernel)
set_option maxRecDepth 20000 in
theorem gX4_accent_X3_giveAccent : GoodIn wsX4_accent (wsV RX4 105 RX3 yX3_giveAccent wsX3_giveAccent) := goodIn_app (goodIn_of _ (by decide +kernel)) ggX4_accent_X3_giveAccent
set_option maxRecDepth 20000 in
theorem ggX4_accent_X4_asNumber : GoodIn wsX4_accent wsX4_asNumber := goodIn_r _ [55] (by decide +kernel) (by decide +kernel)
set_option maxRecDepth 20000 in
theorem gX4_accent_X4_asNumber : GoodIn wsX4_accent (va_wsS RX4 109 yX4_asNumber wsX4_asNumber) := goodIn_app (goodIn_of _ (by decide +kernel)) ggX4_accent_X4_asNumber
theorem dX4_accent_0 : decode cX4_accent 0 = .ok (.aload_n 0, 1) := by decide +kernel
theorem dX4_accent_1 : decode cX4_accent 1 = .ok (.getfield 10, 3) := by decide +kernel
theorem dX4_accent_4 : decode cX4_accent 4 = .ok (.iload_n 1, 1) := by decide +kernel
theorem dX4_accent_5 : decode cX4_accent 5 = .ok (.invokevirtual 89, 3) := by decide +kernel
theorem dX4_accent_8 : decode cX4_accent 8 = .ok (.ifCond .ne 5, 3) := by decide +kernel
theorem dX4_accent_11 : decode cX4_accent 11 = .ok (.iconst (-1), 1) := by decide +kernel
theorem dX4_accent_12 : decode cX4_accent 12 = .ok (.ireturn, 1) := by decide +kernel
theorem dX4_accent_13 : decode cX4_accent 13 = .ok (.aload_n 0, 1) := by decide +kernel
theorem dX4_accent_14 : decode cX4_accent 14 = .ok (.getfield 10, 3) := by decide +kernel
theorem dX4_accent_17 : decode cX4_accent 17 = .ok (.iload_n 1, 1) := by decide +kernel
theorem dX4_accent_18 : decode cX4_accent 18 = .ok (.invokevirtual 102, 3) := by decide +kernel
theorem dX4_accent_21 : decode cX4_accent 21 = .ok (.istore_n 3, 1) := by decide +kernel
theorem dX4_accent_22 : decode cX4_accent 22 = .ok (.aload_n 0, 1) := by decide +kernel
theorem dX4_accent_23 : decode cX4_accent 23 = .ok (.getfield 36, 3) := by decide +kernel
theorem dX4_accent_26 : decode cX4_accent 26 = .ok (.aload_n 0, 1) := by decide +kernel
theorem dX4_accent_27 : decode cX4_accent 27 = .ok (.getfield 10, 3) := by decide +kernel
theorem dX4_accent_30 : decode cX4_accent 30 = .ok (.invokevirtual 63, 3) := by decide +kernel
theorem dX4_accent_33 : decode cX4_accent 33 = .ok (.aload_n 0, 1) := by decide +kernel
theorem dX4_accent_34 : decode cX4_accent 34 = .ok (.getfield 10, 3) := by decide +kernel
theorem dX4_accent_37 : decode cX4_accent 37 = .ok (.iload_n 1, 1) := by decide +kernel
theorem dX4_accent_38 : decode cX4_accent 38 = .ok (.iload_n 2, 1) := by decide +kernel
theorem dX4_accent_39 : decode cX4_accent 39 = .ok (.invokevirtual 105, 3) := by decide +kernel
theorem dX4_accent_42 : decode cX4_accent 42 = .ok (.iload_n 3, 1) := by decide +kernel
theorem dX4_accent_43 : decode cX4_accent 43 = .ok (.invokestatic 109, 3) := by decide +kernel
theorem dX4_accent_46 : decode cX4_accent 46 = .ok (.ireturn, 1) := by decide +kernel
set_option maxRecDepth 20000 in
theorem ggX4_insert_X4_isStep : GoodIn wsX4_insert wsX4_isStep := goodIn_r _ [6, 7, 8, 5, 9] (by decide +kernel) (by decide +kernel)
set_option maxRecDepth 20000 in
theorem gX4_insert_X4_isStep : GoodIn wsX4_insert (va_wsS RX4 75 yX4_isStep wsX4_isStep) := goodIn_app (goodIn_of _ (by decide +kernel)) ggX4_insert_X4_isStep
set_option maxRecDepth 20000 in
theorem ggX4_insert_X4_isIn : GoodIn wsX4_insert wsX4_isIn := goodIn_r _ [9] (by decide +kernel) (by decide +kernel)
set_option maxRecDepth 20000 in
theorem gX4_insert_X4_isIn : GoodIn wsX4_insert (va_wsS RX4 48 yX4_isIn wsX4_isIn) := goodIn_app (goodIn_of _ (by decide +kernel)) ggX4_insert_X4_isIn
set_option maxRecDepth 20000 in
theorem ggX4_insert_X3_greatestLast : GoodIn wsX4_insert wsX3_greatestLast := goodIn_r _ [14, 15, 16, 17, 18, 19, 20, 21, 22, 13, 23, 24, 25, 26, 27, 28, 73, 74, 75, 76, 77, 78, 79] (by decide +kernel) (by decide +kernel)
set_option maxRecDepth 20000 in
theorem gX4_insert_X3_greatestLast : GoodIn wsX4_insert (wsV RX4 113 RX3 yX3_greatestLast wsX3_greatestLast) := goodIn_app (goodIn_of _ (by decide +kernel)) ggX4_insert_X3_greatestLast
set_option maxRecDepth 20000 in
theorem ggX4_insert_X0_record : GoodIn wsX4_insert wsX0_record := goodIn_r _ [33, 34, 35, 36, 37, 38, 39, 32, 40, 41, 42, 43, 44, 45, 46, 47, 13, 48, 15, 49, 50, 24, 51, 52, 53, 54, 55, 56, 57, 58, 59, 60, 61, 80, 81, 82, 73, 74, 75, 76, 77, 78, 79] (by decide +kernel) (by decide +kernel)
set_option maxRecDepth 20000 in
theorem gX4_insert_X0_record : GoodIn wsX4_insert (wsV RX4 63 RX0 yX0_record wsX0_record) := goodIn_app (goodIn_of _ (by decide +kernel)) ggX4_insert_X0_record
set_option maxRecDepth 20000 in
theorem ggX4_insert_X3_lengthen : GoodIn wsX4_insert wsX3_lengthen := goodIn_r _ [65, 15, 50, 24, 73, 74, 75, 76, 77, 78, 79] (by decide +kernel) (by decide +kernel)
set_option maxRecDepth 20000 in
theorem gX4_insert_X3_lengthen : GoodIn wsX4_insert (wsV RX4 116 RX3 yX3_lengthen wsX3_lengthen) := goodIn_app (goodIn_of _ (by decide +kernel)) ggX4_insert_X3_lengthen
theorem dX4_insert_0 : decode cX4_insert 0 = .ok (.iload_n 1, 1) := by decide +kernel
theorem dX4_insert_1 : decode cX4_insert 1 = .ok (.invokestatic 75, 3) := by decide +kernel
theorem dX4_insert_4 : decode cX4_insert 4 = .ok (.ifCond .eq 13, 3) := by decide +kernel
theorem dX4_insert_7 : decode cX4_insert 7 = .ok (.iload_n 2, 1) := by decide +kernel
theorem dX4_insert_8 : decode cX4_insert 8 = .ok (.iconst 1, 1) := by decide +kernel
theorem dX4_insert_9 : decode cX4_insert 9 = .ok (.bipush 50, 2) := by decide +kernel
theorem dX4_insert_11 : decode cX4_insert 11 = .ok (.invokestatic 48, 3) := by decide +kernel
theorem dX4_insert_14 : decode cX4_insert 14 = .ok (.ifCond .ne 6, 3) := by decide +kernel
theorem dX4_insert_17 : decode cX4_insert 17 = .ok (.bipush (-2), 2) := by decide +kernel
theorem dX4_insert_19 : decode cX4_insert 19 = .ok (.ireturn, 1) := by decide +kernel
theorem dX4_insert_20 : decode cX4_insert 20 = .ok (.aload_n 0, 1) := by decide +kernel
theorem dX4_insert_21 : decode cX4_insert 21 = .ok (.getfield 10, 3) := by decide +kernel
theorem dX4_insert_24 : decode cX4_insert 24 = .ok (.invokevirtual 113, 3) := by decide +kernel
theorem dX4_insert_27 : decode cX4_insert 27 = .ok (.istore_n 3, 1) := by decide +kernel
theorem dX4_insert_28 : decode cX4_insert 28 = .ok (.iload_n 3, 1) := by decide +kernel
theorem dX4_insert_29 : decode cX4_insert 29 = .ok (.iload_n 1, 1) := by decide +kernel
theorem dX4_insert_30 : decode cX4_insert 30 = .ok (.if_icmp .lt 14, 3) := by decide +kernel
theorem dX4_insert_33 : decode cX4_insert 33 = .ok (.iload_n 3, 1) := by decide +kernel
theorem dX4_insert_34 : decode cX4_insert 34 = .ok (.iload_n 2, 1) := by decide +kernel
theorem dX4_insert_35 : decode cX4_insert 35 = .ok (.iadd, 1) := by decide +kernel
theorem dX4_insert_36 : decode cX4_insert 36 = .ok (.bipush 100, 2) := by decide +kernel
theorem dX4_insert_38 : decode cX4_insert 38 = .ok (.if_icmp .lt 6, 3) := by decide +kernel
theorem dX4_insert_41 : decode cX4_insert 41 = .ok (.bipush (-5), 2) := by decide +kernel
theorem dX4_insert_43 : decode cX4_insert 43 = .ok (.ireturn, 1) := by decide +kernel
theorem dX4_insert_44 : decode cX4_insert 44 = .ok (.aload_n 0, 1) := by decide +kernel
theorem dX4_insert_45 : decode cX4_insert 45 = .ok (.getfield 36, 3) := by decide +kernel
theorem dX4_insert_48 : decode cX4_insert 48 = .ok (.aload_n 0, 1) := by decide +kernel
theorem dX4_insert_49 : decode cX4_insert 49 = .ok (.getfield 10, 3) := by decide +kernel
theorem dX4_insert_52 : decode cX4_insert 52 = .ok (.invokevirtual 63, 3) := by decide +kernel
theorem dX4_insert_55 : decode cX4_insert 55 = .ok (.aload_n 0, 1) := by decide +kernel
theorem dX4_insert_56 : decode cX4_insert 56 = .ok (.getfield 10, 3) := by decide +kernel
theorem dX4_insert_59 : decode cX4_insert 59 = .ok (.iload_n 1, 1) := by decide +kernel
theorem dX4_insert_60 : decode cX4_insert 60 = .ok (.iload_n 2, 1) := by decide +kernel
theorem dX4_insert_61 : decode cX4_insert 61 = .ok (.invokevirtual 116, 3) := by decide +kernel
theorem dX4_insert_64 : decode cX4_insert 64 = .ok (.ireturn, 1) := by decide +kernel
set_option maxRecDepth 20000 in
theorem ggX4_cut_X4_isStep : GoodIn wsX4_cut wsX4_isStep := goodIn_r _ [7, 8, 9, 6, 10] (by decide +kernel) (by decide +kernel)
set_option maxRecDepth 20000 in
theorem gX4_cut_X4_isStep : GoodIn wsX4_cut (va_wsS RX4 75 yX4_isStep wsX4_isStep) := goodIn_app (goodIn_of _ (by decide +kernel)) ggX4_cut_X4_isStep
set_option maxRecDepth 20000 in
theorem ggX4_cut_X4_isIn : GoodIn wsX4_cut wsX4_isIn := goodIn_r _ [10] (by decide +kernel) (by decide +kernel)
set_option maxRecDepth 20000 in
theorem gX4_cut_X4_isIn : GoodIn wsX4_cut (va_wsS RX4 48 yX4_isIn wsX4_isIn) := goodIn_app (goodIn_of _ (by decide +kernel)) ggX4_cut_X4_isIn
set_option maxRecDepth 20000 in
theorem ggX4_cut_X3_size : GoodIn wsX4_cut wsX3_size := goodIn_r _ [15, 16, 108, 109, 110, 111, 112, 113, 114] (by decide +kernel) (by decide +kernel)
set_option maxRecDepth 20000 in
theorem gX4_cut_X3_size : GoodIn wsX4_cut (wsV RX4 78 RX3 yX3_size wsX3_size) := goodIn_app (goodIn_of _ (by decide +kernel)) ggX4_cut_X3_size
set_option maxRecDepth 20000 in
theorem ggX4_cut_X0_record : GoodIn wsX4_cut wsX0_record := goodIn_r _ [21, 22, 23, 24, 25, 26, 27, 20, 28, 29, 30, 31, 32, 33, 34, 35, 14, 36, 16, 37, 38, 39, 40, 41, 42, 43, 44, 45, 46, 47, 48, 49, 50, 115, 116, 117, 108, 109, 110, 111, 112, 113, 114] (by decide +kernel) (by decide +kernel)
set_option maxRecDepth 20000 in
theorem gX4_cut_X0_record : GoodIn wsX4_cut (wsV RX4 63 RX0 yX0_record wsX0_record) := goodIn_app (goodIn_of _ (by decide +kernel)) ggX4_cut_X0_record
set_option maxRecDepth 20000 in
theorem ggX4_cut_X3_takeSettings : GoodIn wsX4_cut wsX3_takeSettings := goodIn_r _ [45, 46, 47, 48, 49, 50, 108, 109, 110, 111, 112, 113, 114] (by decide +kernel) (by decide +kernel)
set_option maxRecDepth 20000 in
theorem gX4_cut_X3_takeSettings : GoodIn wsX4_cut (wsV RX4 120 RX3 yX3_takeSettings wsX3_takeSettings) := goodIn_app (goodIn_of _ (by decide +kernel)) ggX4_cut_X3_takeSettings
set_option maxRecDepth 20000 in
theorem ggX4_cut_X3_takeCut : GoodIn wsX4_cut wsX3_takeCut := goodIn_r _ [55, 16, 56, 57, 58, 59, 60, 61, 62, 63, 12, 13, 14, 15, 64, 65, 66, 67, 38, 68, 69, 70, 71, 72, 73, 74, 75, 39, 76, 77, 78, 79, 37, 80, 81, 82, 83, 40, 84, 85, 86, 87, 41, 88, 89, 90, 91, 92, 93, 94, 95, 96, 97, 98, 99, 9, 6, 10, 108, 109, 110, 111, 112, 113, 114] (by decide +kernel) (by decide +kernel)
set_option maxRecDepth 20000 in
theorem gX4_cut_X3_takeCut : GoodIn wsX4_cut (wsV RX4 123 RX3 yX3_takeCut wsX3_takeCut) := goodIn_app (goodIn_of _ (by decide +kernel)) ggX4_cut_X3_takeCut
set_option maxRecDepth 20000 in
theorem ggX4_cut_X3_become : GoodIn wsX4_cut wsX3_become := goodIn_r _ [36, 16, 37, 38, 39, 40, 41, 42, 43, 44, 14, 45, 46, 47, 48, 49, 50, 108, 109, 110, 111, 112, 113, 114] (by decide +kernel) (by decide +kernel)
set_option maxRecDepth 20000 in
theorem gX4_cut_X3_become : GoodIn wsX4_cut (wsV RX4 127 RX3 yX3_become wsX3_become) := goodIn_app (goodIn_of _ (by decide +kernel)) ggX4_cut_X3_become
theorem dX4_cut_0 : decode cX4_cut 0 = .ok (.iload_n 1, 1) := by decide +kernel
theorem dX4_cut_1 : decode cX4_cut 1 = .ok (.invokestatic 75, 3) := by decide +kernel
theorem dX4_cut_4 : decode cX4_cut 4 = .ok (.ifCond .eq 15, 3) := by decide +kernel
theorem dX4_cut_7 : decode cX4_cut 7 = .ok (.iload_n 2, 1) := by decide +kernel
theorem dX4_cut_8 : decode cX4_cut 8 = .ok (.iconst 1, 1) := by decide +kernel
theorem dX4_cut_9 : decode cX4_cut 9 = .ok (.bipush 100, 2) := by decide +kernel
theorem dX4_cut_11 : decode cX4_cut 11 = .ok (.iload_n 1, 1) := by decide +kernel
theorem dX4_cut_12 : decode cX4_cut 12 = .ok (.isub, 1) := by decide +kernel
theorem dX4_cut_13 : decode cX4_cut 13 = .ok (.invokestatic 48, 3) := by decide +kernel
theorem dX4_cut_16 : decode cX4_cut 16 = .ok (.ifCond .ne 6, 3) := by decide +kernel
theorem dX4_cut_19 : decode cX4_cut 19 = .ok (.bipush (-2), 2) := by decide +kernel
theorem dX4_cut_21 : decode cX4_cut 21 = .ok (.ireturn, 1) := by decide +kernel
theorem dX4_cut_22 : decode cX4_cut 22 = .ok (.aload_n 0, 1) := by decide +kernel
theorem dX4_cut_23 : decode cX4_cut 23 = .ok (.getfield 10, 3) := by decide +kernel
theorem dX4_cut_26 : decode cX4_cut 26 = .ok (.invokevirtual 78, 3) := by decide +kernel
theorem dX4_cut_29 : decode cX4_cut 29 = .ok (.istore_n 3, 1) := by decide +kernel
theorem dX4_cut_30 : decode cX4_cut 30 = .ok (.aload_n 0, 1) := by decide +kernel
theorem dX4_cut_31 : decode cX4_cut 31 = .ok (.getfield 36, 3) := by decide +kernel
theorem dX4_cut_34 : decode cX4_cut 34 = .ok (.aload_n 0, 1) := by decide +kernel
theorem dX4_cut_35 : decode cX4_cut 35 = .ok (.getfield 10, 3) := by decide +kernel
theorem dX4_cut_38 : decode cX4_cut 38 = .ok (.invokevirtual 63, 3) := by decide +kernel
theorem dX4_cut_41 : decode cX4_cut 41 = .ok (.aload_n 0, 1) := by decide +kernel
theorem dX4_cut_42 : decode cX4_cut 42 = .ok (.getfield 16, 3) := by decide +kernel
theorem dX4_cut_45 : decode cX4_cut 45 = .ok (.aload_n 0, 1) := by decide +kernel
theorem dX4_cut_46 : decode cX4_cut 46 = .ok (.getfield 10, 3) := by decide +kernel
theorem dX4_cut_49 : decode cX4_cut 49 = .ok (.invokevirtual 120, 3) := by decide +kernel
theorem dX4_cut_52 : decode cX4_cut 52 = .ok (.aload_n 0, 1) := by decide +kernel
theorem dX4_cut_53 : decode cX4_cut 53 = .ok (.getfield 16, 3) := by decide +kernel
theorem dX4_cut_56 : decode cX4_cut 56 = .ok (.aload_n 0, 1) := by decide +kernel
theorem dX4_cut_57 : decode cX4_cut 57 = .ok (.getfield 10, 3) := by decide +kernel
theorem dX4_cut_60 : decode cX4_cut 60 = .ok (.iload_n 1, 1) := by decide +kernel
theorem dX4_cut_61 : decode cX4_cut 61 = .ok (.iload_n 2, 1) := by decide +kernel
theorem dX4_cut_62 : decode cX4_cut 62 = .ok (.invokevirtual 123, 3) := by decide +kernel
theorem dX4_cut_65 : decode cX4_cut 65 = .ok (.aload_n 0, 1) := by decide +kernel
theorem dX4_cut_66 : decode cX4_cut 66 = .ok (.getfield 10, 3) := by decide +kernel
theorem dX4_cut_69 : decode cX4_cut 69 = .ok (.aload_n 0, 1) := by decide +kernel
theorem dX4_cut_70 : decode cX4_cut 70 = .ok (.getfield 16, 3) := by decide +kernel
theorem dX4_cut_73 : decode cX4_cut 73 = .ok (.invokevirtual 127, 3) := by decide +kernel
theorem dX4_cut_76 : decode cX4_cut 76 = .ok (.iload_n 3, 1) := by decide +kernel
theorem dX4_cut_77 : decode cX4_cut 77 = .ok (.aload_n 0, 1) := by decide +kernel
theorem dX4_cut_78 : decode cX4_cut 78 = .ok (.getfield 10, 3) := by decide +kernel
theorem dX4_cut_81 : decode cX4_cut 81 = .ok (.invokevirtual 78, 3) := by decide +kernel
theorem dX4_cut_84 : decode cX4_cut 84 = .ok (.isub, 1) := by decide +kernel
theorem dX4_cut_85 : decode cX4_cut 85 = .ok (.ireturn, 1) := by decide +kernel
set_option maxRecDepth 20000 in
theorem ggX4_copy_X4_isPassage : GoodIn wsX4_copy wsX4_isPassage := goodIn_r _ [7, 8, 9, 6, 10, 11, 12, 13] (by decide +kernel) (by decide +kernel)
set_option maxRecDepth 20000 in
theorem gX4_copy_X4_isPassage : GoodIn wsX4_copy (va_wsS RX4 130 yX4_isPassage wsX4_isPassage) := goodIn_app (goodIn_of _ (by decide +kernel)) ggX4_copy_X4_isPassage
set_option maxRecDepth 20000 in
theorem ggX4_copy_X4_isStep : GoodIn wsX4_copy wsX4_isStep := goodIn_r _ [10, 11, 12, 6, 13] (by decide +kernel) (by decide +kernel)
set_option maxRecDepth 20000 in
theorem gX4_copy_X4_isStep : GoodIn wsX4_copy (va_wsS RX4 75 yX4_isStep wsX4_isStep) := goodIn_app (goodIn_of _ (by decide +kernel)) ggX4_copy_X4_isStep
set_option maxRecDepth 20000 in
theorem ggX4_copy_X3_within : GoodIn wsX4_copy wsX3_within := goodIn_r _ [18, 19, 20, 21, 22, 17, 23, 24, 25, 26, 27, 28, 29, 30, 31, 32, 33, 34, 35, 36, 37, 127, 128, 129, 130, 131, 132, 133] (by decide +kernel) (by decide +kernel)
set_option maxRecDepth 20000 in
theorem gX4_copy_X3_within : GoodIn wsX4_copy (wsV RX4 134 RX3 yX3_within wsX3_within) := goodIn_app (goodIn_of _ (by decide +kernel)) ggX4_copy_X3_within
set_option maxRecDepth 20000 in
theorem ggX4_copy_X3_size : GoodIn wsX4_copy wsX3_size := goodIn_r _ [41, 19, 127, 128, 129, 130, 131, 132, 133] (by decide +kernel) (by decide +kernel)
set_option maxRecDepth 20000 in
theorem gX4_copy_X3_size : GoodIn wsX4_copy (wsV RX4 78 RX3 yX3_size wsX3_size) := goodIn_app (goodIn_of _ (by decide +kernel)) ggX4_copy_X3_size
set_option maxRecDepth 20000 in
theorem ggX4_copy_X4_isFreeAt : GoodIn wsX4_copy wsX4_isFreeAt := goodIn_r _ [45, 1, 38, 39, 40, 17, 41, 19, 46, 21, 22, 23, 24, 25, 26, 27, 28, 29, 30, 31, 32, 33, 34, 35, 36, 37, 47, 48, 49, 50, 51, 52, 53, 54, 55, 56, 57, 58, 59, 60, 61, 62, 120, 121, 122, 123, 124, 125, 126, 127, 128, 129, 130, 131, 132, 133] (by decide +kernel) (by decide +kernel)
set_option maxRecDepth 20000 in
theorem gX4_copy_X4_isFreeAt : GoodIn wsX4_copy (wsV RX4 137 RX4 yX4_isFreeAt wsX4_isFreeAt) := goodIn_app (goodIn_of _ (by decide +kernel)) ggX4_copy_X4_isFreeAt
set_option maxRecDepth 20000 in
theorem ggX4_copy_X0_record : GoodIn wsX4_copy wsX0_record := goodIn_r _ [67, 68, 69, 70, 71, 72, 73, 66, 74, 75, 76, 77, 78, 79, 80, 81, 17, 82, 19, 53, 32, 37, 83, 84, 85, 86, 87, 88, 89, 90, 91, 92, 93, 134, 135, 136, 127, 128, 129, 130, 131, 132, 133] (by decide +kernel) (by decide +kernel)
set_option maxRecDepth 20000 in
theorem gX4_copy_X0_record : GoodIn wsX4_copy (wsV RX4 63 RX0 yX0_record wsX0_record) := goodIn_app (goodIn_of _ (by decide +kernel)) ggX4_copy_X0_record
set_option maxRecDepth 20000 in
theorem ggX4_copy_X3_become : GoodIn wsX4_copy wsX3_become := goodIn_r _ [82, 19, 53, 32, 37, 83, 84, 85, 86, 87, 17, 88, 89, 90, 91, 92, 93, 127, 128, 129, 130, 131, 132, 133] (by decide +kernel) (by decide +kernel)
set_option maxRecDepth 20000 in
theorem gX4_copy_X3_become : GoodIn wsX4_copy (wsV RX4 127 RX3 yX3_become wsX3_become) := goodIn_app (goodIn_of _ (by decide +kernel)) ggX4_copy_X3_become
set_option maxRecDepth 20000 in
theorem ggX4_copy_X3_addPassage : GoodIn wsX4_copy wsX3_addPassage := goodIn_r _ [98, 99, 39, 40, 17, 41, 19, 20, 21, 22, 23, 24, 25, 26, 27, 28, 29, 30, 31, 32, 33, 34, 35, 36, 37, 62, 50, 51, 52, 53, 100, 101, 102, 103, 83, 104, 105, 106, 107, 84, 108, 109, 110, 111, 112, 113, 114, 115, 116, 117, 118, 119, 12, 6, 13, 127, 128, 129, 130, 131, 132, 133] (by decide +kernel) (by decide +kernel)
set_option maxRecDepth 20000 in
theorem gX4_copy_X3_addPassage : GoodIn wsX4_copy (wsV RX4 140 RX3 yX3_addPassage wsX3_addPassage) := goodIn_app (goodIn_of _ (by decide +kernel)) ggX4_copy_X3_addPassage
theorem dX4_copy_0 : decode cX4_copy 0 = .ok (.iload_n 1, 1) := by decide +kernel
theorem dX4_copy_1 : decode cX4_copy 1 = .ok (.iload_n 2, 1) := by decide +kernel
theorem dX4_copy_2 : decode cX4_copy 2 = .ok (.invokestatic 130, 3) := by decide +kernel
theorem dX4_copy_5 : decode cX4_copy 5 = .ok (.ifCond .eq 10, 3) := by decide +kernel
theorem dX4_copy_8 : decode cX4_copy 8 = .ok (.iload_n 3, 1) := by decide +kernel
theorem dX4_copy_9 : decode cX4_copy 9 = .ok (.invokestatic 75, 3) := by decide +kernel
theorem dX4_copy_12 : decode cX4_copy 12 = .ok (.ifCond .ne 6, 3) := by decide +kernel
theorem dX4_copy_15 : decode cX4_copy 15 = .ok (.bipush (-2), 2) := by decide +kernel
theorem dX4_copy_17 : decode cX4_copy 17 = .ok (.ireturn, 1) := by decide +kernel
theorem dX4_copy_18 : decode cX4_copy 18 = .ok (.aload_n 0, 1) := by decide +kernel
theorem dX4_copy_19 : decode cX4_copy 19 = .ok (.getfield 10, 3) := by decide +kernel
theorem dX4_copy_22 : decode cX4_copy 22 = .ok (.iload_n 1, 1) := by decide +kernel
theorem dX4_copy_23 : decode cX4_copy 23 = .ok (.iload_n 2, 1) := by decide +kernel
theorem dX4_copy_24 : decode cX4_copy 24 = .ok (.invokevirtual 134, 3) := by decide +kernel
theorem dX4_copy_27 : decode cX4_copy 27 = .ok (.istore 4, 2) := by decide +kernel
theorem dX4_copy_29 : decode cX4_copy 29 = .ok (.aload_n 0, 1) := by decide +kernel
theorem dX4_copy_30 : decode cX4_copy 30 = .ok (.getfield 10, 3) := by decide +kernel
theorem dX4_copy_33 : decode cX4_copy 33 = .ok (.invokevirtual 78, 3) := by decide +kernel
theorem dX4_copy_36 : decode cX4_copy 36 = .ok (.iload 4, 2) := by decide +kernel
theorem dX4_copy_38 : decode cX4_copy 38 = .ok (.iadd, 1) := by decide +kernel
theorem dX4_copy_39 : decode cX4_copy 39 = .ok (.bipush 40, 2) := by decide +kernel
theorem dX4_copy_41 : decode cX4_copy 41 = .ok (.if_icmp .le 6, 3) := by decide +kernel
theorem dX4_copy_44 : decode cX4_copy 44 = .ok (.bipush (-4), 2) := by decide +kernel
theorem dX4_copy_46 : decode cX4_copy 46 = .ok (.ireturn, 1) := by decide +kernel
theorem dX4_copy_47 : decode cX4_copy 47 = .ok (.aload_n 0, 1) := by decide +kernel
theorem dX4_copy_48 : decode cX4_copy 48 = .ok (.iload_n 1, 1) := by decide +kernel
theorem dX4_copy_49 : decode cX4_copy 49 = .ok (.iload_n 2, 1) := by decide +kernel
theorem dX4_copy_50 : decode cX4_copy 50 = .ok (.iload_n 3, 1) := by decide +kernel
theorem dX4_copy_51 : decode cX4_copy 51 = .ok (.invokevirtual 137, 3) := by decide +kernel
theorem dX4_copy_54 : decode cX4_copy 54 = .ok (.ifCond .ne 6, 3) := by decide +kernel
theorem dX4_copy_57 : decode cX4_copy 57 = .ok (.bipush (-5), 2) := by decide +kernel
theorem dX4_copy_59 : decode cX4_copy 59 = .ok (.ireturn, 1) := by decide +kernel
theorem dX4_copy_60 : decode cX4_copy 60 = .ok (.aload_n 0, 1) := by decide +kernel
theorem dX4_copy_61 : decode cX4_copy 61 = .ok (.getfield 36, 3) := by decide +kernel
theorem dX4_copy_64 : decode cX4_copy 64 = .ok (.aload_n 0, 1) := by decide +kernel
theorem dX4_copy_65 : decode cX4_copy 65 = .ok (.getfield 10, 3) := by decide +kernel
theorem dX4_copy_68 : decode cX4_copy 68 = .ok (.invokevirtual 63, 3) := by decide +kernel
theorem dX4_copy_71 : decode cX4_copy 71 = .ok (.aload_n 0, 1) := by decide +kernel
theorem dX4_copy_72 : decode cX4_copy 72 = .ok (.getfield 16, 3) := by decide +kernel
theorem dX4_copy_75 : decode cX4_copy 75 = .ok (.aload_n 0, 1) := by decide +kernel
theorem dX4_copy_76 : decode cX4_copy 76 = .ok (.getfield 10, 3) := by decide +kernel
theorem dX4_copy_79 : decode cX4_copy 79 = .ok (.invokevirtual 127, 3) := by decide +kernel
theorem dX4_copy_82 : decode cX4_copy 82 = .ok (.aload_n 0, 1) := by decide +kernel
theorem dX4_copy_83 : decode cX4_copy 83 = .ok (.getfield 16, 3) := by decide +kernel
theorem dX4_copy_86 : decode cX4_copy 86 = .ok (.aload_n 0, 1) := by decide +kernel
theorem dX4_copy_87 : decode cX4_copy 87 = .ok (.getfield 10, 3) := by decide +kernel
theorem dX4_copy_90 : decode cX4_copy 90 = .ok (.iload_n 1, 1) := by decide +kernel
theorem dX4_copy_91 : decode cX4_copy 91 = .ok (.iload_n 2, 1) := by decide +kernel
theorem dX4_copy_92 : decode cX4_copy 92 = .ok (.iload_n 3, 1) := by decide +kernel
theorem dX4_copy_93 : decode cX4_copy 93 = .ok (.invokevirtual 140, 3) := by decide +kernel
theorem dX4_copy_96 : decode cX4_copy 96 = .ok (.aload_n 0, 1) := by decide +kernel
theorem dX4_copy_97 : decode cX4_copy 97 = .ok (.getfield 10, 3) := by decide +kernel
theorem dX4_copy_100 : decode cX4_copy 100 = .ok (.aload_n 0, 1) := by decide +kernel
theorem dX4_copy_101 : decode cX4_copy 101 = .ok (.getfield 16, 3) := by decide +kernel
theorem dX4_copy_104 : decode cX4_copy 104 = .ok (.invokevirtual 127, 3) := by decide +kernel
theorem dX4_copy_107 : decode cX4_copy 107 = .ok (.iload 4, 2) := by decide +kernel
theorem dX4_copy_109 : decode cX4_copy 109 = .ok (.ireturn, 1) := by decide +kernel
set_option maxRecDepth 20000 in
theorem ggX4_of_X3_has : GoodIn wsX4_of wsX3_has := goodIn_r _ [7, 8, 123, 124, 125, 126, 127, 128, 129] (by decide +kernel) (by decide +kernel)
set_option maxRecDepth 20000 in
theorem gX4_of_X3_has : GoodIn wsX4_of (wsV RX4 89 RX3 yX3_has wsX3_has) := goodIn_app (goodIn_of _ (by decide +kernel)) ggX4_of_X3_has
set_option maxRecDepth 20000 in
theorem ggX4_of_X3_trackOf : GoodIn wsX4_of wsX3_trackOf := goodIn_r _ [12, 13, 14, 4, 5, 6, 7, 8, 123, 124, 125, 126, 127, 128, 129] (by decide +kernel) (by decide +kernel)
set_option maxRecDepth 20000 in
theorem gX4_of_X3_trackOf : GoodIn wsX4_of (wsV RX4 160 RX3 yX3_trackOf wsX3_trackOf) := goodIn_app (goodIn_of _ (by decide +kernel)) ggX4_of_X3_trackOf
set_option maxRecDepth 20000 in
theorem ggX4_of_X3_firstOf : GoodIn wsX4_of wsX3_firstOf := goodIn_r _ [18, 19, 14, 4, 5, 6, 7, 8, 123, 124, 125, 126, 127, 128, 129] (by decide +kernel) (by decide +kernel)
set_option maxRecDepth 20000 in
theorem gX4_of_X3_firstOf : GoodIn wsX4_of (wsV RX4 163 RX3 yX3_firstOf wsX3_firstOf) := goodIn_app (goodIn_of _ (by decide +kernel)) ggX4_of_X3_firstOf
set_option maxRecDepth 20000 in
theorem ggX4_of_X3_lastOf : GoodIn wsX4_of wsX3_lastOf := goodIn_r _ [23, 24, 14, 4, 5, 6, 7, 8, 123, 124, 125, 126, 127, 128, 129] (by decide +kernel) (by decide +kernel)
set_option maxRecDepth 20000 in
theorem gX4_of_X3_lastOf : GoodIn wsX4_of (wsV RX4 166 RX3 yX3_lastOf wsX3_lastOf) := goodIn_app (goodIn_of _ (by decide +kernel)) ggX4_of_X3_lastOf
set_option maxRecDepth 20000 in
theorem ggX4_of_X3_shiftOf : GoodIn wsX4_of wsX3_shiftOf := goodIn_r _ [28, 29, 14, 4, 5, 6, 7, 8, 123, 124, 125, 126, 127, 128, 129] (by decide +kernel) (by decide +kernel)
set_option maxRecDepth 20000 in
theorem gX4_of_X3_shiftOf : GoodIn wsX4_of (wsV RX4 96 RX3 yX3_shiftOf wsX3_shiftOf) := goodIn_app (goodIn_of _ (by decide +kernel)) ggX4_of_X3_shiftOf
set_option maxRecDepth 20000 in
theorem ggX4_of_X3_hasAccent : GoodIn wsX4_of wsX3_hasAccent := goodIn_r _ [33, 34, 14, 4, 5, 6, 7, 8, 123, 124, 125, 126, 127, 128, 129] (by decide +kernel) (by decide +kernel)
set_option maxRecDepth 20000 in
theorem gX4_of_X3_hasAccent : GoodIn wsX4_of (wsV RX4 102 RX3 yX3_hasAccent wsX3_hasAccent) := goodIn_app (goodIn_of _ (by decide +kernel)) ggX4_of_X3_hasAccent
set_option maxRecDepth 20000 in
theorem ggX4_of_X4_asNumber : GoodIn wsX4_of wsX4_asNumber := goodIn_r _ [38] (by decide +kernel) (by decide +kernel)
set_option maxRecDepth 20000 in
theorem gX4_of_X4_asNumber : GoodIn wsX4_of (va_wsS RX4 109 yX4_asNumber wsX4_asNumber) := goodIn_app (goodIn_of _ (by decide +kernel)) ggX4_of_X4_asNumber
set_option maxRecDepth 20000 in
theorem ggX4_of_X3_bridges : GoodIn wsX4_of wsX3_bridges := goodIn_r _ [42, 43, 16, 17, 6, 18, 19, 14, 4, 5, 7, 8, 44, 21, 22, 23, 24, 45, 46, 47, 48, 49, 50, 26, 27, 28, 29, 123, 124, 125, 126, 127, 128, 129] (by decide +kernel) (by decide +kernel)
set_option maxRecDepth 20000 in
theorem gX4_of_X3_bridges : GoodIn wsX4_of (wsV RX4 169 RX3 yX3_bridges wsX3_bridges) := goodIn_app (goodIn_of _ (by decide +kernel)) ggX4_of_X3_bridges
set_option maxRecDepth 20000 in
theorem ggX4_of_X3_longestBridge : GoodIn wsX4_of wsX3_longestBridge := goodIn_r _ [54, 55, 56, 57, 58, 43, 16, 17, 6, 18, 19, 14, 4, 5, 7, 8, 44, 21, 22, 23, 24, 45, 46, 47, 48, 49, 50, 26, 27, 28, 29, 123, 124, 125, 126, 127, 128, 129] (by decide +kernel) (by decide +kernel)
set_option maxRecDepth 20000 in
theorem gX4_of_X3_longestBridge : GoodIn wsX4_of (wsV RX4 172 RX3 yX3_longestBridge wsX3_longestBridge) := goodIn_app (goodIn_of _ (by decide +kernel)) ggX4_of_X3_longestBridge
set_option maxRecDepth 20000 in
theorem ggX4_of_X2_perforate : GoodIn wsX4_of wsX2_perforate := goodIn_r _ [63, 64, 65, 66, 67, 68, 6, 69, 49, 70, 37, 71, 72, 73, 74, 75, 76, 77, 78, 79, 8, 80, 10, 11, 12, 13, 14, 4, 5, 7, 81, 16, 17, 18, 19, 82, 21, 22, 23, 24, 83, 46, 47, 48, 43, 44, 50, 26, 27, 28, 29, 84, 85, 86, 62, 87, 88, 89, 90, 91, 92, 93, 31, 32, 33, 34, 94, 95, 96, 97, 98, 56, 57, 58, 99, 100, 101, 102, 103, 130, 131, 132, 123, 124, 125, 126, 127, 128, 129] (by decide +kernel) (by decide +kernel)
set_option maxRecDepth 20000 in
theorem gX4_of_X2_perforate : GoodIn wsX4_of (wsV RX4 175 RX2 yX2_perforate wsX2_perforate) := goodIn_app (goodIn_of _ (by decide +kernel)) ggX4_of_X2_perforate
set_option maxRecDepth 20000 in
theorem ggX4_of_X4_isHeardWhole : GoodIn wsX4_of wsX4_isHeardWhole := goodIn_r _ [107, 1, 2, 15, 16, 17, 6, 18, 19, 14, 4, 5, 7, 8, 20, 21, 22, 23, 24, 9, 10, 11, 12, 13, 108, 109, 110, 62, 111, 88, 37, 89, 90, 70, 71, 112, 113, 114, 115, 99, 91, 92, 116, 117, 118, 119, 120, 121, 122, 123, 124, 125, 126, 127, 128, 129, 130, 131, 132] (by decide +kernel) (by decide +kernel)
set_option maxRecDepth 20000 in
theorem gX4_of_X4_isHeardWhole : GoodIn wsX4_of (wsV RX4 178 RX4 yX4_isHeardWhole wsX4_isHeardWhole) := goodIn_app (goodIn_of _ (by decide +kernel)) ggX4_of_X4_isHeardWhole
theorem dX4_of_0 : decode cX4_of 0 = .ok (.aload_n 0, 1) := by decide +kernel
theorem dX4_of_1 : decode cX4_of 1 = .ok (.getfield 10, 3) := by decide +kernel
theorem dX4_of_4 : decode cX4_of 4 = .ok (.iload_n 1, 1) := by decide +kernel
theorem dX4_of_5 : decode cX4_of 5 = .ok (.invokevirtual 89, 3) := by decide +kernel
theorem dX4_of_8 : decode cX4_of 8 = .ok (.ifCond .ne 5, 3) := by decide +kernel
theorem dX4_of_11 : decode cX4_of 11 = .ok (.iconst (-1), 1) := by decide +kernel
theorem dX4_of_12 : decode cX4_of 12 = .ok (.ireturn, 1) := by decide +kernel
theorem dX4_of_13 : decode cX4_of 13 = .ok (.iload_n 2, 1) := by decide +kernel
theorem dX4_of_14 : decode cX4_of 14 = .ok (.tableswitch 132 0 7 #[46, 55, 64, 73, 82, 94, 103, 112], 46) := by decide +kernel
theorem dX4_of_60 : decode cX4_of 60 = .ok (.aload_n 0, 1) := by decide +kernel
theorem dX4_of_61 : decode cX4_of 61 = .ok (.getfield 10, 3) := by decide +kernel
theorem dX4_of_64 : decode cX4_of 64 = .ok (.iload_n 1, 1) := by decide +kernel
theorem dX4_of_65 : decode cX4_of 65 = .ok (.invokevirtual 160, 3) := by decide +kernel
theorem dX4_of_68 : decode cX4_of 68 = .ok (.ireturn, 1) := by decide +kernel
theorem dX4_of_69 : decode cX4_of 69 = .ok (.aload_n 0, 1) := by decide +kernel
theorem dX4_of_70 : decode cX4_of 70 = .ok (.getfield 10, 3) := by decide +kernel
theorem dX4_of_73 : decode cX4_of 73 = .ok (.iload_n 1, 1) := by decide +kernel
theorem dX4_of_74 : decode cX4_of 74 = .ok (.invokevirtual 163, 3) := by decide +kernel
theorem dX4_of_77 : decode cX4_of 77 = .ok (.ireturn, 1) := by decide +kernel
theorem dX4_of_78 : decode cX4_of 78 = .ok (.aload_n 0, 1) := by decide +kernel
theorem dX4_of_79 : decode cX4_of 79 = .ok (.getfield 10, 3) := by decide +kernel
theorem dX4_of_82 : decode cX4_of 82 = .ok (.iload_n 1, 1) := by decide +kernel
theorem dX4_of_83 : decode cX4_of 83 = .ok (.invokevirtual 166, 3) := by decide +kernel
theorem dX4_of_86 : decode cX4_of 86 = .ok (.ireturn, 1) := by decide +kernel
theorem dX4_of_87 : decode cX4_of 87 = .ok (.aload_n 0, 1) := by decide +kernel
theorem dX4_of_88 : decode cX4_of 88 = .ok (.getfield 10, 3) := by decide +kernel
theorem dX4_of_91 : decode cX4_of 91 = .ok (.iload_n 1, 1) := by decide +kernel
theorem dX4_of_92 : decode cX4_of 92 = .ok (.invokevirtual 96, 3) := by decide +kernel
theorem dX4_of_95 : decode cX4_of 95 = .ok (.ireturn, 1) := by decide +kernel
theorem dX4_of_96 : decode cX4_of 96 = .ok (.aload_n 0, 1) := by decide +kernel
theorem dX4_of_97 : decode cX4_of 97 = .ok (.getfield 10, 3) := by decide +kernel
theorem dX4_of_100 : decode cX4_of 100 = .ok (.iload_n 1, 1) := by decide +kernel
theorem dX4_of_101 : decode cX4_of 101 = .ok (.invokevirtual 102, 3) := by decide +kernel
theorem dX4_of_104 : decode cX4_of 104 = .ok (.invokestatic 109, 3) := by decide +kernel
theorem dX4_of_107 : decode cX4_of 107 = .ok (.ireturn, 1) := by decide +kernel
theorem dX4_of_108 : decode cX4_of 108 = .ok (.aload_n 0, 1) := by decide +kernel
theorem dX4_of_109 : decode cX4_of 109 = .ok (.getfield 10, 3) := by decide +kernel
theorem dX4_of_112 : decode cX4_of 112 = .ok (.iload_n 1, 1) := by decide +kernel
theorem dX4_of_113 : decode cX4_of 113 = .ok (.invokevirtual 169, 3) := by decide +kernel
theorem dX4_of_116 : decode cX4_of 116 = .ok (.ireturn, 1) := by decide +kernel
theorem dX4_of_117 : decode cX4_of 117 = .ok (.aload_n 0, 1) := by decide +kernel
theorem dX4_of_118 : decode cX4_of 118 = .ok (.getfield 10, 3) := by decide +kernel
theorem dX4_of_121 : decode cX4_of 121 = .ok (.iload_n 1, 1) := by decide +kernel
theorem dX4_of_122 : decode cX4_of 122 = .ok (.invokevirtual 172, 3) := by decide +kernel
theorem dX4_of_125 : decode cX4_of 125 = .ok (.ireturn, 1) := by decide +kernel
theorem dX4_of_126 : decode cX4_of 126 = .ok (.aload_n 0, 1) := by decide +kernel
theorem dX4_of_127 : decode cX4_of 127 = .ok (.getfield 22, 3) := by decide +kernel
theorem dX4_of_130 : decode cX4_of 130 = .ok (.aload_n 0, 1) := by decide +kernel
theorem dX4_of_131 : decode cX4_of 131 = .ok (.getfield 10, 3) := by decide +kernel
theorem dX4_of_134 : decode cX4_of 134 = .ok (.invokevirtual 175, 3) := by decide +kernel
theorem dX4_of_137 : decode cX4_of 137 = .ok (.aload_n 0, 1) := by decide +kernel
theorem dX4_of_138 : decode cX4_of 138 = .ok (.iload_n 1, 1) := by decide +kernel
theorem dX4_of_139 : decode cX4_of 139 = .ok (.invokevirtual 178, 3) := by decide +kernel
theorem dX4_of_142 : decode cX4_of 142 = .ok (.invokestatic 109, 3) := by decide +kernel
theorem dX4_of_145 : decode cX4_of 145 = .ok (.ireturn, 1) := by decide +kernel
theorem dX4_of_146 : decode cX4_of 146 = .ok (.bipush (-2), 2) := by decide +kernel
theorem dX4_of_148 : decode cX4_of 148 = .ok (.ireturn, 1) := by decide +kernel
set_option maxRecDepth 20000 in
theorem ggX4_at_X4_isStep : GoodIn wsX4_at wsX4_isStep := goodIn_r _ [6, 7, 8, 5, 9] (by decide +kernel) (by decide +kernel)
set_option maxRecDepth 20000 in
theorem gX4_at_X4_isStep : GoodIn wsX4_at (va_wsS RX4 75 yX4_isStep wsX4_isStep) := goodIn_app (goodIn_of _ (by decide +kernel)) ggX4_at_X4_isStep
set_option maxRecDepth 20000 in
theorem ggX4_at_X2_perforate : GoodIn wsX4_at wsX2_perforate := goodIn_r _ [14, 15, 16, 17, 18, 19, 20, 21, 22, 8, 5, 9, 23, 24, 25, 26, 27, 28, 29, 30, 31, 32, 33, 34, 35, 36, 37, 38, 39, 40, 41, 42, 43, 44, 45, 46, 47, 48, 49, 50, 51, 52, 53, 54, 55, 56, 57, 58, 59, 60, 61, 62, 63, 64, 13, 65, 66, 67, 7, 4, 6, 68, 69, 70, 71, 72, 73, 74, 75, 76, 77, 78, 79, 80, 81, 82, 83, 84, 85, 115, 116, 117, 118, 119, 120, 121, 122, 123, 124] (by decide +kernel) (by decide +kernel)
set_option maxRecDepth 20000 in
theorem gX4_at_X2_perforate : GoodIn wsX4_at (wsV RX4 175 RX2 yX2_perforate wsX2_perforate) := goodIn_app (goodIn_of _ (by decide +kernel)) ggX4_at_X2_perforate
set_option maxRecDepth 20000 in
theorem ggX4_at_X2_holesAt : GoodIn wsX4_at wsX2_holesAt := goodIn_r _ [85, 16, 4, 5, 6, 7, 8, 9, 115, 116, 117] (by decide +kernel) (by decide +kernel)
set_option maxRecDepth 20000 in
theorem gX4_at_X2_holesAt : GoodIn wsX4_at (wsV RX4 181 RX2 yX2_holesAt wsX2_holesAt) := goodIn_app (goodIn_of _ (by decide +kernel)) ggX4_at_X2_holesAt
set_option maxRecDepth 20000 in
theorem ggX4_at_X2_heardAt : GoodIn wsX4_at wsX2_heardAt := goodIn_r _ [90, 81, 4, 5, 6, 7, 8, 9, 115, 116, 117] (by decide +kernel) (by decide +kernel)
set_option maxRecDepth 20000 in
theorem gX4_at_X2_heardAt : GoodIn wsX4_at (wsV RX4 184 RX2 yX2_heardAt wsX2_heardAt) := goodIn_app (goodIn_of _ (by decide +kernel)) ggX4_at_X2_heardAt
set_option maxRecDepth 20000 in
theorem ggX4_at_X3_tracksAt : GoodIn wsX4_at wsX3_tracksAt := goodIn_r _ [94, 31, 55, 42, 43, 20, 44, 45, 37, 38, 39, 40, 56, 47, 48, 49, 50, 95, 33, 34, 35, 36, 118, 119, 120, 121, 122, 123, 124] (by decide +kernel) (by decide +kernel)
set_option maxRecDepth 20000 in
theorem gX4_at_X3_tracksAt : GoodIn wsX4_at (wsV RX4 187 RX3 yX3_tracksAt wsX3_tracksAt) := goodIn_app (goodIn_of _ (by decide +kernel)) ggX4_at_X3_tracksAt
set_option maxRecDepth 20000 in
theorem ggX4_at_X2_sideBySide : GoodIn wsX4_at wsX2_sideBySide := goodIn_r _ [99, 77, 78, 79, 80, 82, 83, 84, 13, 85, 16, 4, 5, 6, 7, 8, 9, 115, 116, 117] (by decide +kernel) (by decide +kernel)
set_option maxRecDepth 20000 in
theorem gX4_at_X2_sideBySide : GoodIn wsX4_at (wsV RX4 190 RX2 yX2_sideBySide wsX2_sideBySide) := goodIn_app (goodIn_of _ (by decide +kernel)) ggX4_at_X2_sideBySide
set_option maxRecDepth 20000 in
theorem ggX4_at_X2_isWeak : GoodIn wsX4_at wsX2_isWeak := goodIn_r _ [103, 15, 104, 97, 98, 13, 99, 77, 78, 79, 80, 82, 83, 84, 85, 16, 4, 5, 6, 7, 8, 9, 115, 116, 117] (by decide +kernel) (by decide +kernel)
set_option maxRecDepth 20000 in
theorem gX4_at_X2_isWeak : GoodIn wsX4_at (wsV RX4 193 RX2 yX2_isWeak wsX2_isWeak) := goodIn_app (goodIn_of _ (by decide +kernel)) ggX4_at_X2_isWeak
set_option maxRecDepth 20000 in
theorem ggX4_at_X4_asNumber : GoodIn wsX4_at wsX4_asNumber := goodIn_r _ [107] (by decide +kernel) (by decide +kernel)
set_option maxRecDepth 20000 in
theorem gX4_at_X4_asNumber : GoodIn wsX4_at (va_wsS RX4 109 yX4_asNumber wsX4_asNumber) := goodIn_app (goodIn_of _ (by decide +kernel)) ggX4_at_X4_asNumber
theorem dX4_at_0 : decode cX4_at 0 = .ok (.iload_n 1, 1) := by decide +kernel
theorem dX4_at_1 : decode cX4_at 1 = .ok (.invokestatic 75, 3) := by decide +kernel
theorem dX4_at_4 : decode cX4_at 4 = .ok (.ifCond .ne 6, 3) := by decide +kernel
theorem dX4_at_7 : decode cX4_at 7 = .ok (.bipush (-2), 2) := by decide +kernel
theorem dX4_at_9 : decode cX4_at 9 = .ok (.ireturn, 1) := by decide +kernel
theorem dX4_at_10 : decode cX4_at 10 = .ok (.aload_n 0, 1) := by decide +kernel
theorem dX4_at_11 : decode cX4_at 11 = .ok (.getfield 22, 3) := by decide +kernel
theorem dX4_at_14 : decode cX4_at 14 = .ok (.aload_n 0, 1) := by decide +kernel
theorem dX4_at_15 : decode cX4_at 15 = .ok (.getfield 10, 3) := by decide +kernel
theorem dX4_at_18 : decode cX4_at 18 = .ok (.invokevirtual 175, 3) := by decide +kernel
theorem dX4_at_21 : decode cX4_at 21 = .ok (.iload_n 2, 1) := by decide +kernel
theorem dX4_at_22 : decode cX4_at 22 = .ok (.tableswitch 82 0 4 #[34, 43, 52, 61, 70], 34) := by decide +kernel
theorem dX4_at_56 : decode cX4_at 56 = .ok (.aload_n 0, 1) := by decide +kernel
theorem dX4_at_57 : decode cX4_at 57 = .ok (.getfield 22, 3) := by decide +kernel
theorem dX4_at_60 : decode cX4_at 60 = .ok (.iload_n 1, 1) := by decide +kernel
theorem dX4_at_61 : decode cX4_at 61 = .ok (.invokevirtual 181, 3) := by decide +kernel
theorem dX4_at_64 : decode cX4_at 64 = .ok (.ireturn, 1) := by decide +kernel
theorem dX4_at_65 : decode cX4_at 65 = .ok (.aload_n 0, 1) := by decide +kernel
theorem dX4_at_66 : decode cX4_at 66 = .ok (.getfield 22, 3) := by decide +kernel
theorem dX4_at_69 : decode cX4_at 69 = .ok (.iload_n 1, 1) := by decide +kernel
theorem dX4_at_70 : decode cX4_at 70 = .ok (.invokevirtual 184, 3) := by decide +kernel
theorem dX4_at_73 : decode cX4_at 73 = .ok (.ireturn, 1) := by decide +kernel
theorem dX4_at_74 : decode cX4_at 74 = .ok (.aload_n 0, 1) := by decide +kernel
theorem dX4_at_75 : decode cX4_at 75 = .ok (.getfield 10, 3) := by decide +kernel
theorem dX4_at_78 : decode cX4_at 78 = .ok (.iload_n 1, 1) := by decide +kernel
theorem dX4_at_79 : decode cX4_at 79 = .ok (.invokevirtual 187, 3) := by decide +kernel
theorem dX4_at_82 : decode cX4_at 82 = .ok (.ireturn, 1) := by decide +kernel
theorem dX4_at_83 : decode cX4_at 83 = .ok (.aload_n 0, 1) := by decide +kernel
theorem dX4_at_84 : decode cX4_at 84 = .ok (.getfield 22, 3) := by decide +kernel
theorem dX4_at_87 : decode cX4_at 87 = .ok (.iload_n 1, 1) := by decide +kernel
theorem dX4_at_88 : decode cX4_at 88 = .ok (.invokevirtual 190, 3) := by decide +kernel
theorem dX4_at_91 : decode cX4_at 91 = .ok (.ireturn, 1) := by decide +kernel
theorem dX4_at_92 : decode cX4_at 92 = .ok (.aload_n 0, 1) := by decide +kernel
theorem dX4_at_93 : decode cX4_at 93 = .ok (.getfield 22, 3) := by decide +kernel
theorem dX4_at_96 : decode cX4_at 96 = .ok (.iload_n 1, 1) := by decide +kernel
theorem dX4_at_97 : decode cX4_at 97 = .ok (.invokevirtual 193, 3) := by decide +kernel
theorem dX4_at_100 : decode cX4_at 100 = .ok (.invokestatic 109, 3) := by decide +kernel
theorem dX4_at_103 : decode cX4_at 103 = .ok (.ireturn, 1) := by decide +kernel
theorem dX4_at_104 : decode cX4_at 104 = .ok (.bipush (-2), 2) := by decide +kernel
theorem dX4_at_106 : decode cX4_at 106 = .ok (.ireturn, 1) := by decide +kernel
set_option maxRecDepth 20000 in
theorem ggX4_sound_X4_isTrack : GoodIn wsX4_sound wsX4_isTrack := goodIn_r _ [6, 7, 8, 5, 9] (by decide +kernel) (by decide +kernel)
set_option maxRecDepth 20000 in
theorem gX4_sound_X4_isTrack : GoodIn wsX4_sound (va_wsS RX4 71 yX4_isTrack wsX4_isTrack) := goodIn_app (goodIn_of _ (by decide +kernel)) ggX4_sound_X4_isTrack
set_option maxRecDepth 20000 in
theorem ggX4_sound_X2_perforate : GoodIn wsX4_sound wsX2_perforate := goodIn_r _ [14, 15, 16, 17, 18, 19, 20, 21, 22, 8, 5, 9, 23, 24, 25, 26, 27, 28, 29, 30, 31, 32, 33, 34, 35, 36, 37, 38, 39, 40, 41, 42, 43, 44, 45, 46, 47, 48, 49, 50, 51, 52, 53, 54, 55, 56, 57, 58, 59, 60, 61, 62, 63, 64, 13, 65, 4, 6, 7, 66, 67, 68, 69, 70, 71, 72, 73, 74, 75, 76, 77, 78, 79, 80, 81, 82, 83, 84, 85, 118, 119, 120, 121, 122, 123, 124, 125, 126, 127] (by decide +kernel) (by decide +kernel)
set_option maxRecDepth 20000 in
theorem gX4_sound_X2_perforate : GoodIn wsX4_sound (wsV RX4 175 RX2 yX2_perforate wsX2_perforate) := goodIn_app (goodIn_of _ (by decide +kernel)) ggX4_sound_X2_perforate
set_option maxRecDepth 20000 in
theorem ggX4_sound_X2_soundStart : GoodIn wsX4_sound wsX2_soundStart := goodIn_r _ [89, 90, 91, 92, 13, 93, 94, 95, 96, 97, 4, 5, 6, 7, 8, 9, 98, 99, 100, 101, 81, 66, 67, 118, 119, 120] (by decide +kernel) (by decide +kernel)
set_option maxRecDepth 20000 in
theorem gX4_sound_X2_soundStart : GoodIn wsX4_sound (wsV RX4 196 RX2 yX2_soundStart wsX2_soundStart) := goodIn_app (goodIn_of _ (by decide +kernel)) ggX4_sound_X2_soundStart
set_option maxRecDepth 20000 in
theorem ggX4_sound_X2_soundEnd : GoodIn wsX4_sound wsX2_soundEnd := goodIn_r _ [105, 94, 95, 96, 13, 97, 4, 5, 6, 7, 8, 9, 98, 99, 100, 101, 81, 66, 67, 118, 119, 120] (by decide +kernel) (by decide +kernel)
set_option maxRecDepth 20000 in
theorem gX4_sound_X2_soundEnd : GoodIn wsX4_sound (wsV RX4 199 RX2 yX2_soundEnd wsX2_soundEnd) := goodIn_app (goodIn_of _ (by decide +kernel)) ggX4_sound_X2_soundEnd
set_option maxRecDepth 20000 in
theorem ggX4_sound_X3_touching : GoodIn wsX4_sound wsX3_touching := goodIn_r _ [109, 31, 110, 33, 34, 20, 35, 36, 37, 38, 39, 40, 55, 42, 43, 44, 45, 56, 47, 48, 49, 50, 121, 122, 123, 124, 125, 126, 127] (by decide +kernel) (by decide +kernel)
set_option maxRecDepth 20000 in
theorem gX4_sound_X3_touching : GoodIn wsX4_sound (wsV RX4 202 RX3 yX3_touching wsX3_touching) := goodIn_app (goodIn_of _ (by decide +kernel)) ggX4_sound_X3_touching
theorem dX4_sound_0 : decode cX4_sound 0 = .ok (.iload_n 1, 1) := by decide +kernel
theorem dX4_sound_1 : decode cX4_sound 1 = .ok (.invokestatic 71, 3) := by decide +kernel
theorem dX4_sound_4 : decode cX4_sound 4 = .ok (.ifCond .ne 5, 3) := by decide +kernel
theorem dX4_sound_7 : decode cX4_sound 7 = .ok (.iconst (-1), 1) := by decide +kernel
theorem dX4_sound_8 : decode cX4_sound 8 = .ok (.ireturn, 1) := by decide +kernel
theorem dX4_sound_9 : decode cX4_sound 9 = .ok (.aload_n 0, 1) := by decide +kernel
theorem dX4_sound_10 : decode cX4_sound 10 = .ok (.getfield 22, 3) := by decide +kernel
theorem dX4_sound_13 : decode cX4_sound 13 = .ok (.aload_n 0, 1) := by decide +kernel
theorem dX4_sound_14 : decode cX4_sound 14 = .ok (.getfield 10, 3) := by decide +kernel
theorem dX4_sound_17 : decode cX4_sound 17 = .ok (.invokevirtual 175, 3) := by decide +kernel
theorem dX4_sound_20 : decode cX4_sound 20 = .ok (.aload_n 0, 1) := by decide +kernel
theorem dX4_sound_21 : decode cX4_sound 21 = .ok (.getfield 22, 3) := by decide +kernel
theorem dX4_sound_24 : decode cX4_sound 24 = .ok (.iload_n 1, 1) := by decide +kernel
theorem dX4_sound_25 : decode cX4_sound 25 = .ok (.iload_n 2, 1) := by decide +kernel
theorem dX4_sound_26 : decode cX4_sound 26 = .ok (.invokevirtual 196, 3) := by decide +kernel
theorem dX4_sound_29 : decode cX4_sound 29 = .ok (.istore 4, 2) := by decide +kernel
theorem dX4_sound_31 : decode cX4_sound 31 = .ok (.iload 4, 2) := by decide +kernel
theorem dX4_sound_33 : decode cX4_sound 33 = .ok (.ifCond .ge 5, 3) := by decide +kernel
theorem dX4_sound_36 : decode cX4_sound 36 = .ok (.iconst (-1), 1) := by decide +kernel
theorem dX4_sound_37 : decode cX4_sound 37 = .ok (.ireturn, 1) := by decide +kernel
theorem dX4_sound_38 : decode cX4_sound 38 = .ok (.aload_n 0, 1) := by decide +kernel
theorem dX4_sound_39 : decode cX4_sound 39 = .ok (.getfield 22, 3) := by decide +kernel
theorem dX4_sound_42 : decode cX4_sound 42 = .ok (.iload_n 1, 1) := by decide +kernel
theorem dX4_sound_43 : decode cX4_sound 43 = .ok (.iload 4, 2) := by decide +kernel
theorem dX4_sound_45 : decode cX4_sound 45 = .ok (.invokevirtual 199, 3) := by decide +kernel
theorem dX4_sound_48 : decode cX4_sound 48 = .ok (.istore 5, 2) := by decide +kernel
theorem dX4_sound_50 : decode cX4_sound 50 = .ok (.iload_n 3, 1) := by decide +kernel
theorem dX4_sound_51 : decode cX4_sound 51 = .ok (.tableswitch 44 0 2 #[25, 28, 31], 25) := by decide +kernel
theorem dX4_sound_76 : decode cX4_sound 76 = .ok (.iload 4, 2) := by decide +kernel
theorem dX4_sound_78 : decode cX4_sound 78 = .ok (.ireturn, 1) := by decide +kernel
theorem dX4_sound_79 : decode cX4_sound 79 = .ok (.iload 5, 2) := by decide +kernel
theorem dX4_sound_81 : decode cX4_sound 81 = .ok (.ireturn, 1) := by decide +kernel
theorem dX4_sound_82 : decode cX4_sound 82 = .ok (.aload_n 0, 1) := by decide +kernel
theorem dX4_sound_83 : decode cX4_sound 83 = .ok (.getfield 10, 3) := by decide +kernel
theorem dX4_sound_86 : decode cX4_sound 86 = .ok (.iload_n 1, 1) := by decide +kernel
theorem dX4_sound_87 : decode cX4_sound 87 = .ok (.iload 4, 2) := by decide +kernel
theorem dX4_sound_89 : decode cX4_sound 89 = .ok (.iload 5, 2) := by decide +kernel
theorem dX4_sound_91 : decode cX4_sound 91 = .ok (.invokevirtual 202, 3) := by decide +kernel
theorem dX4_sound_94 : decode cX4_sound 94 = .ok (.ireturn, 1) := by decide +kernel
theorem dX4_sound_95 : decode cX4_sound 95 = .ok (.bipush (-2), 2) := by decide +kernel
theorem dX4_sound_97 : decode cX4_sound 97 = .ok (.ireturn, 1) := by decide +kernel
set_option maxRecDepth 20000 in
theorem ggX4_count_X2_perforate : GoodIn wsX4_count wsX2_perforate := goodIn_r _ [9, 10, 11, 12, 13, 14, 15, 16, 17, 18, 19, 20, 21, 22, 23, 24, 25, 26, 27, 28, 29, 30, 31, 32, 33, 34, 35, 36, 37, 38, 39, 40, 41, 42, 43, 44, 45, 46, 47, 48, 49, 50, 51, 52, 53, 54, 55, 56, 57, 58, 59, 60, 61, 62, 8, 63, 64, 65, 66, 67, 68, 69, 70, 71, 72, 73, 74, 75, 76, 77, 78, 79, 80, 81, 82, 83, 84, 85, 86, 175, 176, 177, 178, 179, 180, 181, 182, 183, 184] (by decide +kernel) (by decide +kernel)
set_option maxRecDepth 20000 in
theorem gX4_count_X2_perforate : GoodIn wsX4_count (wsV RX4 175 RX2 yX2_perforate wsX2_perforate) := goodIn_app (goodIn_of _ (by decide +kernel)) ggX4_count_X2_perforate
set_option maxRecDepth 20000 in
theorem ggX4_count_X3_size : GoodIn wsX4_count wsX3_size := goodIn_r _ [28, 29, 178, 179, 180, 181, 182, 183, 184] (by decide +kernel) (by decide +kernel)
set_option maxRecDepth 20000 in
theorem gX4_count_X3_size : GoodIn wsX4_count (wsV RX4 78 RX3 yX3_size wsX3_size) := goodIn_app (goodIn_of _ (by decide +kernel)) ggX4_count_X3_size
set_option maxRecDepth 20000 in
theorem ggX4_count_X2_allHoles : GoodIn wsX4_count wsX2_allHoles := goodIn_r _ [91, 83, 84, 85, 8, 86, 11, 67, 19, 68, 66, 18, 20, 92, 93, 94, 95, 96, 97, 98, 175, 176, 177] (by decide +kernel) (by decide +kernel)
set_option maxRecDepth 20000 in
theorem gX4_count_X2_allHoles : GoodIn wsX4_count (wsV RX4 206 RX2 yX2_allHoles wsX2_allHoles) := goodIn_app (goodIn_of _ (by decide +kernel)) ggX4_count_X2_allHoles
set_option maxRecDepth 20000 in
theorem ggX4_count_X2_weakSteps : GoodIn wsX4_count wsX2_weakSteps := goodIn_r _ [102, 103, 104, 105, 8, 106, 10, 107, 108, 109, 110, 78, 79, 80, 81, 83, 84, 85, 86, 11, 67, 19, 68, 66, 18, 20, 175, 176, 177] (by decide +kernel) (by decide +kernel)
set_option maxRecDepth 20000 in
theorem gX4_count_X2_weakSteps : GoodIn wsX4_count (wsV RX4 209 RX2 yX2_weakSteps wsX2_weakSteps) := goodIn_app (goodIn_of _ (by decide +kernel)) ggX4_count_X2_weakSteps
set_option maxRecDepth 20000 in
theorem ggX4_count_X2_firstWeakStep : GoodIn wsX4_count wsX2_firstWeakStep := goodIn_r _ [114, 103, 104, 105, 8, 106, 10, 107, 108, 109, 110, 78, 79, 80, 81, 83, 84, 85, 86, 11, 67, 19, 68, 66, 18, 20, 175, 176, 177] (by decide +kernel) (by decide +kernel)
set_option maxRecDepth 20000 in
theorem gX4_count_X2_firstWeakStep : GoodIn wsX4_count (wsV RX4 212 RX2 yX2_firstWeakStep wsX2_firstWeakStep) := goodIn_app (goodIn_of _ (by decide +kernel)) ggX4_count_X2_firstWeakStep
set_option maxRecDepth 20000 in
theorem ggX4_count_X4_noneIfMissing : GoodIn wsX4_count wsX4_noneIfMissing := goodIn_r _ [117] (by decide +kernel) (by decide +kernel)
set_option maxRecDepth 20000 in
theorem gX4_count_X4_noneIfMissing : GoodIn wsX4_count (va_wsS RX4 215 yX4_noneIfMissing wsX4_noneIfMissing) := goodIn_app (goodIn_of _ (by decide +kernel)) ggX4_count_X4_noneIfMissing
set_option maxRecDepth 20000 in
theorem ggX4_count_X4_allSounds : GoodIn wsX4_count wsX4_allSounds := goodIn_r _ [121, 1, 122, 123, 124, 8, 125, 126, 127, 128, 129, 130, 131, 132, 133, 64, 19, 65, 66, 18, 20, 134, 135, 136, 137, 82, 67, 68, 168, 169, 170, 171, 172, 173, 174, 175, 176, 177] (by decide +kernel) (by decide +kernel)
set_option maxRecDepth 20000 in
theorem gX4_count_X4_allSounds : GoodIn wsX4_count (wsV RX4 218 RX4 yX4_allSounds wsX4_allSounds) := goodIn_app (goodIn_of _ (by decide +kernel)) ggX4_count_X4_allSounds
set_option maxRecDepth 20000 in
theorem ggX4_count_X4_notesWithGap : GoodIn wsX4_count wsX4_notesWithGap := goodIn_r _ [141, 2, 87, 26, 27, 15, 28, 29, 142, 143, 144, 19, 145, 1, 146, 40, 41, 42, 43, 35, 36, 37, 38, 147, 45, 46, 47, 48, 148, 31, 32, 33, 34, 149, 131, 132, 8, 133, 64, 65, 66, 18, 20, 134, 135, 136, 137, 82, 67, 68, 168, 169, 170, 171, 172, 173, 174, 178, 179, 180, 181, 182, 183, 184, 175, 176, 177] (by decide +kernel) (by decide +kernel)
set_option maxRecDepth 20000 in
theorem gX4_count_X4_notesWithGap : GoodIn wsX4_count (wsV RX4 221 RX4 yX4_notesWithGap wsX4_notesWithGap) := goodIn_app (goodIn_of _ (by decide +kernel)) ggX4_count_X4_notesWithGap
set_option maxRecDepth 20000 in
theorem ggX4_count_X3_greatestLast : GoodIn wsX4_count wsX3_greatestLast := goodIn_r _ [153, 29, 154, 79, 80, 81, 54, 45, 46, 15, 47, 48, 35, 36, 37, 38, 178, 179, 180, 181, 182, 183, 184] (by decide +kernel) (by decide +kernel)
set_option maxRecDepth 20000 in
theorem gX4_count_X3_greatestLast : GoodIn wsX4_count (wsV RX4 113 RX3 yX3_greatestLast wsX3_greatestLast) := goodIn_app (goodIn_of _ (by decide +kernel)) ggX4_count_X3_greatestLast
set_option maxRecDepth 20000 in
theorem ggX4_count_X3_settingOf : GoodIn wsX4_count wsX3_settingOf := goodIn_r _ [16, 17, 18, 19, 20, 178, 179, 180, 181, 182, 183, 184] (by decide +kernel) (by decide +kernel)
set_option maxRecDepth 20000 in
theorem gX4_count_X3_settingOf : GoodIn wsX4_count (wsV RX4 59 RX3 yX3_settingOf wsX3_settingOf) := goodIn_app (goodIn_of _ (by decide +kernel)) ggX4_count_X3_settingOf
set_option maxRecDepth 20000 in
theorem ggX4_count_X1_length : GoodIn wsX4_count wsX1_length := goodIn_r _ [160, 161, 185, 186, 187, 188, 189, 190, 191, 192] (by decide +kernel) (by decide +kernel)
set_option maxRecDepth 20000 in
theorem gX4_count_X1_length : GoodIn wsX4_count (wsV RX4 224 RX1 yX1_length wsX1_length) := goodIn_app (goodIn_of _ (by decide +kernel)) ggX4_count_X1_length
set_option maxRecDepth 20000 in
theorem ggX4_count_X0_size : GoodIn wsX4_count wsX0_size := goodIn_r _ [166, 167, 193, 194, 195] (by decide +kernel) (by decide +kernel)
set_option maxRecDepth 20000 in
theorem gX4_count_X0_size : GoodIn wsX4_count (wsV RX4 227 RX0 yX0_size wsX0_size) := goodIn_app (goodIn_of _ (by decide +kernel)) ggX4_count_X0_size
theorem dX4_count_0 : decode cX4_count 0 = .ok (.aload_n 0, 1) := by decide +kernel
theorem dX4_count_1 : decode cX4_count 1 = .ok (.getfield 22, 3) := by decide +kernel
theorem dX4_count_4 : decode cX4_count 4 = .ok (.aload_n 0, 1) := by decide +kernel
theorem dX4_count_5 : decode cX4_count 5 = .ok (.getfield 10, 3) := by decide +kernel
theorem dX4_count_8 : decode cX4_count 8 = .ok (.invokevirtual 175, 3) := by decide +kernel
theorem dX4_count_11 : decode cX4_count 11 = .ok (.iload_n 1, 1) := by decide +kernel
theorem dX4_count_12 : decode cX4_count 12 = .ok (.tableswitch 176 0 12 #[68, 76, 84, 92, 103, 108, 113, 124, 133, 142, 151, 160, 168], 68) := by decide +kernel
theorem dX4_count_80 : decode cX4_count 80 = .ok (.aload_n 0, 1) := by decide +kernel
theorem dX4_count_81 : decode cX4_count 81 = .ok (.getfield 10, 3) := by decide +kernel
theorem dX4_count_84 : decode cX4_count 84 = .ok (.invokevirtual 78, 3) := by decide +kernel
theorem dX4_count_87 : decode cX4_count 87 = .ok (.ireturn, 1) := by decide +kernel
theorem dX4_count_88 : decode cX4_count 88 = .ok (.aload_n 0, 1) := by decide +kernel
theorem dX4_count_89 : decode cX4_count 89 = .ok (.getfield 22, 3) := by decide +kernel
theorem dX4_count_92 : decode cX4_count 92 = .ok (.invokevirtual 206, 3) := by decide +kernel
theorem dX4_count_95 : decode cX4_count 95 = .ok (.ireturn, 1) := by decide +kernel
theorem dX4_count_96 : decode cX4_count 96 = .ok (.aload_n 0, 1) := by decide +kernel
theorem dX4_count_97 : decode cX4_count 97 = .ok (.getfield 22, 3) := by decide +kernel
theorem dX4_count_100 : decode cX4_count 100 = .ok (.invokevirtual 209, 3) := by decide +kernel
theorem dX4_count_103 : decode cX4_count 103 = .ok (.ireturn, 1) := by decide +kernel
theorem dX4_count_104 : decode cX4_count 104 = .ok (.aload_n 0, 1) := by decide +kernel
theorem dX4_count_105 : decode cX4_count 105 = .ok (.getfield 22, 3) := by decide +kernel
theorem dX4_count_108 : decode cX4_count 108 = .ok (.invokevirtual 212, 3) := by decide +kernel
theorem dX4_count_111 : decode cX4_count 111 = .ok (.invokestatic 215, 3) := by decide +kernel
theorem dX4_count_114 : decode cX4_count 114 = .ok (.ireturn, 1) := by decide +kernel
theorem dX4_count_115 : decode cX4_count 115 = .ok (.aload_n 0, 1) := by decide +kernel
theorem dX4_count_116 : decode cX4_count 116 = .ok (.invokevirtual 218, 3) := by decide +kernel
theorem dX4_count_119 : decode cX4_count 119 = .ok (.ireturn, 1) := by decide +kernel
theorem dX4_count_120 : decode cX4_count 120 = .ok (.aload_n 0, 1) := by decide +kernel
theorem dX4_count_121 : decode cX4_count 121 = .ok (.invokevirtual 221, 3) := by decide +kernel
theorem dX4_count_124 : decode cX4_count 124 = .ok (.ireturn, 1) := by decide +kernel
theorem dX4_count_125 : decode cX4_count 125 = .ok (.aload_n 0, 1) := by decide +kernel
theorem dX4_count_126 : decode cX4_count 126 = .ok (.getfield 10, 3) := by decide +kernel
theorem dX4_count_129 : decode cX4_count 129 = .ok (.invokevirtual 113, 3) := by decide +kernel
theorem dX4_count_132 : decode cX4_count 132 = .ok (.invokestatic 215, 3) := by decide +kernel
theorem dX4_count_135 : decode cX4_count 135 = .ok (.ireturn, 1) := by decide +kernel
theorem dX4_count_136 : decode cX4_count 136 = .ok (.aload_n 0, 1) := by decide +kernel
theorem dX4_count_137 : decode cX4_count 137 = .ok (.getfield 10, 3) := by decide +kernel
theorem dX4_count_140 : decode cX4_count 140 = .ok (.iconst 0, 1) := by decide +kernel
theorem dX4_count_141 : decode cX4_count 141 = .ok (.invokevirtual 59, 3) := by decide +kernel
theorem dX4_count_144 : decode cX4_count 144 = .ok (.ireturn, 1) := by decide +kernel
theorem dX4_count_145 : decode cX4_count 145 = .ok (.aload_n 0, 1) := by decide +kernel
theorem dX4_count_146 : decode cX4_count 146 = .ok (.getfield 10, 3) := by decide +kernel
theorem dX4_count_149 : decode cX4_count 149 = .ok (.iconst 1, 1) := by decide +kernel
theorem dX4_count_150 : decode cX4_count 150 = .ok (.invokevirtual 59, 3) := by decide +kernel
theorem dX4_count_153 : decode cX4_count 153 = .ok (.ireturn, 1) := by decide +kernel
theorem dX4_count_154 : decode cX4_count 154 = .ok (.aload_n 0, 1) := by decide +kernel
theorem dX4_count_155 : decode cX4_count 155 = .ok (.getfield 10, 3) := by decide +kernel
theorem dX4_count_158 : decode cX4_count 158 = .ok (.iconst 2, 1) := by decide +kernel
theorem dX4_count_159 : decode cX4_count 159 = .ok (.invokevirtual 59, 3) := by decide +kernel
theorem dX4_count_162 : decode cX4_count 162 = .ok (.ireturn, 1) := by decide +kernel
theorem dX4_count_163 : decode cX4_count 163 = .ok (.aload_n 0, 1) := by decide +kernel
theorem dX4_count_164 : decode cX4_count 164 = .ok (.getfield 10, 3) := by decide +kernel
theorem dX4_count_167 : decode cX4_count 167 = .ok (.iconst 3, 1) := by decide +kernel
theorem dX4_count_168 : decode cX4_count 168 = .ok (.invokevirtual 59, 3) := by decide +kernel
theorem dX4_count_171 : decode cX4_count 171 = .ok (.ireturn, 1) := by decide +kernel
theorem dX4_count_172 : decode cX4_count 172 = .ok (.aload_n 0, 1) := by decide +kernel
theorem dX4_count_173 : decode cX4_count 173 = .ok (.getfield 29, 3) := by decide +kernel
theorem dX4_count_176 : decode cX4_count 176 = .ok (.invokevirtual 224, 3) := by decide +kernel
theorem dX4_count_179 : decode cX4_count 179 = .ok (.ireturn, 1) := by decide +kernel
theorem dX4_count_180 : decode cX4_count 180 = .ok (.aload_n 0, 1) := by decide +kernel
theorem dX4_count_181 : decode cX4_count 181 = .ok (.getfield 36, 3) := by decide +kernel
theorem dX4_count_184 : decode cX4_count 184 = .ok (.invokevirtual 227, 3) := by decide +kernel
theorem dX4_count_187 : decode cX4_count 187 = .ok (.ireturn, 1) := by decide +kernel
theorem dX4_count_188 : decode cX4_count 188 = .ok (.bipush (-2), 2) := by decide +kernel
theorem dX4_count_190 : decode cX4_count 190 = .ok (.ireturn, 1) := by decide +kernel
set_option maxRecDepth 20000 in
theorem ggX4_bestShift_X3_has : GoodIn wsX4_bestShift wsX3_has := goodIn_r _ [8, 9, 122, 123, 124, 125, 126, 127, 128] (by decide +kernel) (by decide +kernel)
set_option maxRecDepth 20000 in
theorem gX4_bestShift_X3_has : GoodIn wsX4_bestShift (wsV RX4 89 RX3 yX3_has wsX3_has) := goodIn_app (goodIn_of _ (by decide +kernel)) ggX4_bestShift_X3_has
set_option maxRecDepth 20000 in
theorem ggX4_bestShift_X4_isIn : GoodIn wsX4_bestShift wsX4_isIn := goodIn_r _ [13] (by decide +kernel) (by decide +kernel)
set_option maxRecDepth 20000 in
theorem gX4_bestShift_X4_isIn : GoodIn wsX4_bestShift (va_wsS RX4 48 yX4_isIn wsX4_isIn) := goodIn_app (goodIn_of _ (by decide +kernel)) ggX4_bestShift_X4_isIn
set_option maxRecDepth 20000 in
theorem ggX4_bestShift_X3_become : GoodIn wsX4_bestShift wsX3_become := goodIn_r _ [17, 9, 18, 19, 20, 21, 22, 23, 24, 25, 7, 26, 27, 28, 29, 30, 31, 122, 123, 124, 125, 126, 127, 128] (by decide +kernel) (by decide +kernel)
set_option maxRecDepth 20000 in
theorem gX4_bestShift_X3_become : GoodIn wsX4_bestShift (wsV RX4 127 RX3 yX3_become wsX3_become) := goodIn_app (goodIn_of _ (by decide +kernel)) ggX4_bestShift_X3_become
set_option maxRecDepth 20000 in
theorem ggX4_bestShift_X3_giveShift : GoodIn wsX4_bestShift wsX3_giveShift := goodIn_r _ [35, 21, 36, 5, 6, 7, 8, 9, 122, 123, 124, 125, 126, 127, 128] (by decide +kernel) (by decide +kernel)
set_option maxRecDepth 20000 in
theorem gX4_bestShift_X3_giveShift : GoodIn wsX4_bestShift (wsV RX4 99 RX3 yX3_giveShift wsX3_giveShift) := goodIn_app (goodIn_of _ (by decide +kernel)) ggX4_bestShift_X3_giveShift
set_option maxRecDepth 20000 in
theorem ggX4_bestShift_X2_perforate : GoodIn wsX4_bestShift wsX2_perforate := goodIn_r _ [41, 42, 43, 44, 45, 46, 7, 47, 27, 11, 12, 13, 48, 49, 50, 51, 52, 53, 54, 55, 9, 56, 57, 58, 59, 18, 36, 5, 6, 8, 60, 61, 62, 63, 19, 64, 65, 66, 67, 20, 68, 69, 70, 71, 72, 73, 74, 75, 76, 77, 21, 78, 79, 80, 40, 81, 82, 83, 10, 84, 85, 86, 87, 88, 89, 22, 90, 91, 92, 93, 94, 95, 96, 97, 98, 99, 100, 101, 102, 129, 130, 131, 122, 123, 124, 125, 126, 127, 128] (by decide +kernel) (by decide +kernel)
set_option maxRecDepth 20000 in
theorem gX4_bestShift_X2_perforate : GoodIn wsX4_bestShift (wsV RX4 175 RX2 yX2_perforate wsX2_perforate) := goodIn_app (goodIn_of _ (by decide +kernel)) ggX4_bestShift_X2_perforate
set_option maxRecDepth 20000 in
theorem ggX4_bestShift_X2_weakSteps : GoodIn wsX4_bestShift wsX2_weakSteps := goodIn_r _ [106, 107, 108, 109, 40, 110, 42, 111, 112, 113, 114, 94, 95, 96, 97, 99, 100, 101, 102, 43, 84, 12, 85, 10, 11, 13, 129, 130, 131] (by decide +kernel) (by decide +kernel)
set_option maxRecDepth 20000 in
theorem gX4_bestShift_X2_weakSteps : GoodIn wsX4_bestShift (wsV RX4 209 RX2 yX2_weakSteps wsX2_weakSteps) := goodIn_app (goodIn_of _ (by decide +kernel)) ggX4_bestShift_X2_weakSteps
theorem dX4_bestShift_0 : decode cX4_bestShift 0 = .ok (.aload_n 0, 1) := by decide +kernel
theorem dX4_bestShift_1 : decode cX4_bestShift 1 = .ok (.getfield 10, 3) := by decide +kernel
theorem dX4_bestShift_4 : decode cX4_bestShift 4 = .ok (.iload_n 1, 1) := by decide +kernel
theorem dX4_bestShift_5 : decode cX4_bestShift 5 = .ok (.invokevirtual 89, 3) := by decide +kernel
theorem dX4_bestShift_8 : decode cX4_bestShift 8 = .ok (.ifCond .ne 5, 3) := by decide +kernel
theorem dX4_bestShift_11 : decode cX4_bestShift 11 = .ok (.iconst (-1), 1) := by decide +kernel
theorem dX4_bestShift_12 : decode cX4_bestShift 12 = .ok (.ireturn, 1) := by decide +kernel
theorem dX4_bestShift_13 : decode cX4_bestShift 13 = .ok (.iload_n 2, 1) := by decide +kernel
theorem dX4_bestShift_14 : decode cX4_bestShift 14 = .ok (.iconst 0, 1) := by decide +kernel
theorem dX4_bestShift_15 : decode cX4_bestShift 15 = .ok (.iconst 1, 1) := by decide +kernel
theorem dX4_bestShift_16 : decode cX4_bestShift 16 = .ok (.invokestatic 48, 3) := by decide +kernel
theorem dX4_bestShift_19 : decode cX4_bestShift 19 = .ok (.ifCond .ne 6, 3) := by decide +kernel
theorem dX4_bestShift_22 : decode cX4_bestShift 22 = .ok (.bipush (-2), 2) := by decide +kernel
theorem dX4_bestShift_24 : decode cX4_bestShift 24 = .ok (.ireturn, 1) := by decide +kernel
theorem dX4_bestShift_25 : decode cX4_bestShift 25 = .ok (.aload_n 0, 1) := by decide +kernel
theorem dX4_bestShift_26 : decode cX4_bestShift 26 = .ok (.getfield 16, 3) := by decide +kernel
theorem dX4_bestShift_29 : decode cX4_bestShift 29 = .ok (.aload_n 0, 1) := by decide +kernel
theorem dX4_bestShift_30 : decode cX4_bestShift 30 = .ok (.getfield 10, 3) := by decide +kernel
theorem dX4_bestShift_33 : decode cX4_bestShift 33 = .ok (.invokevirtual 127, 3) := by decide +kernel
theorem dX4_bestShift_36 : decode cX4_bestShift 36 = .ok (.iconst 0, 1) := by decide +kernel
theorem dX4_bestShift_37 : decode cX4_bestShift 37 = .ok (.istore_n 3, 1) := by decide +kernel
theorem dX4_bestShift_38 : decode cX4_bestShift 38 = .ok (.bipush 101, 2) := by decide +kernel
theorem dX4_bestShift_40 : decode cX4_bestShift 40 = .ok (.istore 4, 2) := by decide +kernel
theorem dX4_bestShift_42 : decode cX4_bestShift 42 = .ok (.iconst 0, 1) := by decide +kernel
theorem dX4_bestShift_43 : decode cX4_bestShift 43 = .ok (.istore 5, 2) := by decide +kernel
theorem dX4_bestShift_45 : decode cX4_bestShift 45 = .ok (.iload 5, 2) := by decide +kernel
theorem dX4_bestShift_47 : decode cX4_bestShift 47 = .ok (.bipush 12, 2) := by decide +kernel
theorem dX4_bestShift_49 : decode cX4_bestShift 49 = .ok (.if_icmp .gt 53, 3) := by decide +kernel
theorem dX4_bestShift_52 : decode cX4_bestShift 52 = .ok (.aload_n 0, 1) := by decide +kernel
theorem dX4_bestShift_53 : decode cX4_bestShift 53 = .ok (.getfield 16, 3) := by decide +kernel
theorem dX4_bestShift_56 : decode cX4_bestShift 56 = .ok (.iload_n 1, 1) := by decide +kernel
theorem dX4_bestShift_57 : decode cX4_bestShift 57 = .ok (.iload 5, 2) := by decide +kernel
theorem dX4_bestShift_59 : decode cX4_bestShift 59 = .ok (.invokevirtual 99, 3) := by decide +kernel
theorem dX4_bestShift_62 : decode cX4_bestShift 62 = .ok (.aload_n 0, 1) := by decide +kernel
theorem dX4_bestShift_63 : decode cX4_bestShift 63 = .ok (.getfield 22, 3) := by decide +kernel
theorem dX4_bestShift_66 : decode cX4_bestShift 66 = .ok (.aload_n 0, 1) := by decide +kernel
theorem dX4_bestShift_67 : decode cX4_bestShift 67 = .ok (.getfield 16, 3) := by decide +kernel
theorem dX4_bestShift_70 : decode cX4_bestShift 70 = .ok (.invokevirtual 175, 3) := by decide +kernel
theorem dX4_bestShift_73 : decode cX4_bestShift 73 = .ok (.aload_n 0, 1) := by decide +kernel
theorem dX4_bestShift_74 : decode cX4_bestShift 74 = .ok (.getfield 22, 3) := by decide +kernel
theorem dX4_bestShift_77 : decode cX4_bestShift 77 = .ok (.invokevirtual 209, 3) := by decide +kernel
theorem dX4_bestShift_80 : decode cX4_bestShift 80 = .ok (.istore 6, 2) := by decide +kernel
theorem dX4_bestShift_82 : decode cX4_bestShift 82 = .ok (.iload 6, 2) := by decide +kernel
theorem dX4_bestShift_84 : decode cX4_bestShift 84 = .ok (.iload 4, 2) := by decide +kernel
theorem dX4_bestShift_86 : decode cX4_bestShift 86 = .ok (.if_icmp .ge 10, 3) := by decide +kernel
theorem dX4_bestShift_89 : decode cX4_bestShift 89 = .ok (.iload 6, 2) := by decide +kernel
theorem dX4_bestShift_91 : decode cX4_bestShift 91 = .ok (.istore 4, 2) := by decide +kernel
theorem dX4_bestShift_93 : decode cX4_bestShift 93 = .ok (.iload 5, 2) := by decide +kernel
theorem dX4_bestShift_95 : decode cX4_bestShift 95 = .ok (.istore_n 3, 1) := by decide +kernel
theorem dX4_bestShift_96 : decode cX4_bestShift 96 = .ok (.iinc 5 1, 3) := by decide +kernel
theorem dX4_bestShift_99 : decode cX4_bestShift 99 = .ok (.goto (-54), 3) := by decide +kernel
theorem dX4_bestShift_102 : decode cX4_bestShift 102 = .ok (.iload_n 2, 1) := by decide +kernel
theorem dX4_bestShift_103 : decode cX4_bestShift 103 = .ok (.ifCond .ne 7, 3) := by decide +kernel
theorem dX4_bestShift_106 : decode cX4_bestShift 106 = .ok (.iload_n 3, 1) := by decide +kernel
theorem dX4_bestShift_107 : decode cX4_bestShift 107 = .ok (.goto 5, 3) := by decide +kernel
theorem dX4_bestShift_110 : decode cX4_bestShift 110 = .ok (.iload 4, 2) := by decide +kernel
theorem dX4_bestShift_112 : decode cX4_bestShift 112 = .ok (.ireturn, 1) := by decide +kernel
set_option maxRecDepth 20000 in
theorem ggX4_greatestRun_X3_become : GoodIn wsX4_greatestRun wsX3_become := goodIn_r _ [10, 11, 12, 13, 14, 15, 16, 17, 18, 19, 9, 20, 21, 22, 23, 24, 25, 123, 124, 125, 126, 127, 128, 129] (by decide +kernel) (by decide +kernel)
set_option maxRecDepth 20000 in
theorem gX4_greatestRun_X3_become : GoodIn wsX4_greatestRun (wsV RX4 127 RX3 yX3_become wsX3_become) := goodIn_app (goodIn_of _ (by decide +kernel)) ggX4_greatestRun_X3_become
set_option maxRecDepth 20000 in
theorem ggX4_greatestRun_X3_giveSetting : GoodIn wsX4_greatestRun wsX3_giveSetting := goodIn_r _ [29, 21, 30, 31, 32, 123, 124, 125, 126, 127, 128, 129] (by decide +kernel) (by decide +kernel)
set_option maxRecDepth 20000 in
theorem gX4_greatestRun_X3_giveSetting : GoodIn wsX4_greatestRun (wsV RX4 67 RX3 yX3_giveSetting wsX3_giveSetting) := goodIn_app (goodIn_of _ (by decide +kernel)) ggX4_greatestRun_X3_giveSetting
set_option maxRecDepth 20000 in
theorem ggX4_greatestRun_X2_perforate : GoodIn wsX4_greatestRun wsX2_perforate := goodIn_r _ [37, 38, 39, 40, 41, 42, 9, 43, 21, 30, 31, 32, 44, 45, 46, 47, 48, 49, 50, 51, 11, 52, 53, 54, 55, 12, 56, 57, 58, 59, 60, 61, 62, 63, 13, 64, 65, 66, 67, 14, 68, 69, 70, 71, 72, 73, 74, 75, 76, 77, 15, 78, 79, 80, 36, 81, 82, 83, 84, 85, 86, 87, 88, 89, 90, 16, 91, 92, 93, 94, 95, 96, 97, 98, 99, 100, 101, 102, 103, 130, 131, 132, 123, 124, 125, 126, 127, 128, 129] (by decide +kernel) (by decide +kernel)
set_option maxRecDepth 20000 in
theorem gX4_greatestRun_X2_perforate : GoodIn wsX4_greatestRun (wsV RX4 175 RX2 yX2_perforate wsX2_perforate) := goodIn_app (goodIn_of _ (by decide +kernel)) ggX4_greatestRun_X2_perforate
set_option maxRecDepth 20000 in
theorem ggX4_greatestRun_X2_weakSteps : GoodIn wsX4_greatestRun wsX2_weakSteps := goodIn_r _ [107, 108, 109, 110, 36, 111, 38, 112, 113, 114, 115, 95, 96, 97, 98, 100, 101, 102, 103, 39, 85, 31, 86, 84, 30, 32, 130, 131, 132] (by decide +kernel) (by decide +kernel)
set_option maxRecDepth 20000 in
theorem gX4_greatestRun_X2_weakSteps : GoodIn wsX4_greatestRun (wsV RX4 209 RX2 yX2_weakSteps wsX2_weakSteps) := goodIn_app (goodIn_of _ (by decide +kernel)) ggX4_greatestRun_X2_weakSteps
theorem dX4_greatestRun_0 : decode cX4_greatestRun 0 = .ok (.aload_n 0, 1) := by decide +kernel
theorem dX4_greatestRun_1 : decode cX4_greatestRun 1 = .ok (.getfield 16, 3) := by decide +kernel
theorem dX4_greatestRun_4 : decode cX4_greatestRun 4 = .ok (.aload_n 0, 1) := by decide +kernel
theorem dX4_greatestRun_5 : decode cX4_greatestRun 5 = .ok (.getfield 10, 3) := by decide +kernel
theorem dX4_greatestRun_8 : decode cX4_greatestRun 8 = .ok (.invokevirtual 127, 3) := by decide +kernel
theorem dX4_greatestRun_11 : decode cX4_greatestRun 11 = .ok (.getstatic 56, 3) := by decide +kernel
theorem dX4_greatestRun_14 : decode cX4_greatestRun 14 = .ok (.iconst 0, 1) := by decide +kernel
theorem dX4_greatestRun_15 : decode cX4_greatestRun 15 = .ok (.iaload, 1) := by decide +kernel
theorem dX4_greatestRun_16 : decode cX4_greatestRun 16 = .ok (.istore_n 1, 1) := by decide +kernel
theorem dX4_greatestRun_17 : decode cX4_greatestRun 17 = .ok (.iload_n 1, 1) := by decide +kernel
theorem dX4_greatestRun_18 : decode cX4_greatestRun 18 = .ok (.getstatic 52, 3) := by decide +kernel
theorem dX4_greatestRun_21 : decode cX4_greatestRun 21 = .ok (.iconst 0, 1) := by decide +kernel
theorem dX4_greatestRun_22 : decode cX4_greatestRun 22 = .ok (.iaload, 1) := by decide +kernel
theorem dX4_greatestRun_23 : decode cX4_greatestRun 23 = .ok (.if_icmp .lt 41, 3) := by decide +kernel
theorem dX4_greatestRun_26 : decode cX4_greatestRun 26 = .ok (.aload_n 0, 1) := by decide +kernel
theorem dX4_greatestRun_27 : decode cX4_greatestRun 27 = .ok (.getfield 16, 3) := by decide +kernel
theorem dX4_greatestRun_30 : decode cX4_greatestRun 30 = .ok (.iconst 0, 1) := by decide +kernel
theorem dX4_greatestRun_31 : decode cX4_greatestRun 31 = .ok (.iload_n 1, 1) := by decide +kernel
theorem dX4_greatestRun_32 : decode cX4_greatestRun 32 = .ok (.invokevirtual 67, 3) := by decide +kernel
theorem dX4_greatestRun_35 : decode cX4_greatestRun 35 = .ok (.aload_n 0, 1) := by decide +kernel
theorem dX4_greatestRun_36 : decode cX4_greatestRun 36 = .ok (.getfield 22, 3) := by decide +kernel
theorem dX4_greatestRun_39 : decode cX4_greatestRun 39 = .ok (.aload_n 0, 1) := by decide +kernel
theorem dX4_greatestRun_40 : decode cX4_greatestRun 40 = .ok (.getfield 16, 3) := by decide +kernel
theorem dX4_greatestRun_43 : decode cX4_greatestRun 43 = .ok (.invokevirtual 175, 3) := by decide +kernel
theorem dX4_greatestRun_46 : decode cX4_greatestRun 46 = .ok (.aload_n 0, 1) := by decide +kernel
theorem dX4_greatestRun_47 : decode cX4_greatestRun 47 = .ok (.getfield 22, 3) := by decide +kernel
theorem dX4_greatestRun_50 : decode cX4_greatestRun 50 = .ok (.invokevirtual 209, 3) := by decide +kernel
theorem dX4_greatestRun_53 : decode cX4_greatestRun 53 = .ok (.ifCond .ne 5, 3) := by decide +kernel
theorem dX4_greatestRun_56 : decode cX4_greatestRun 56 = .ok (.iload_n 1, 1) := by decide +kernel
theorem dX4_greatestRun_57 : decode cX4_greatestRun 57 = .ok (.ireturn, 1) := by decide +kernel
theorem dX4_greatestRun_58 : decode cX4_greatestRun 58 = .ok (.iinc 1 (-1), 3) := by decide +kernel
theorem dX4_greatestRun_61 : decode cX4_greatestRun 61 = .ok (.goto (-44), 3) := by decide +kernel
theorem dX4_greatestRun_64 : decode cX4_greatestRun 64 = .ok (.bipush (-6), 2) := by decide +kernel
theorem dX4_greatestRun_66 : decode cX4_greatestRun 66 = .ok (.ireturn, 1) := by decide +kernel
set_option maxRecDepth 20000 in
theorem ggX4_swallowed_X4_isTrack : GoodIn wsX4_swallowed wsX4_isTrack := goodIn_r _ [6, 7, 8, 5, 9] (by decide +kernel) (by decide +kernel)
set_option maxRecDepth 20000 in
theorem gX4_swallowed_X4_isTrack : GoodIn wsX4_swallowed (va_wsS RX4 71 yX4_isTrack wsX4_isTrack) := goodIn_app (goodIn_of _ (by decide +kernel)) ggX4_swallowed_X4_isTrack
set_option maxRecDepth 20000 in
theorem ggX4_swallowed_X2_perforate : GoodIn wsX4_swallowed wsX2_perforate := goodIn_r _ [14, 15, 16, 17, 18, 19, 20, 21, 22, 8, 5, 9, 23, 24, 25, 26, 27, 28, 29, 30, 31, 32, 33, 34, 35, 36, 37, 38, 39, 40, 41, 42, 43, 44, 45, 46, 47, 48, 49, 50, 51, 52, 53, 54, 55, 56, 57, 58, 59, 60, 61, 62, 63, 64, 13, 65, 4, 6, 7, 66, 67, 68, 69, 70, 71, 72, 73, 74, 75, 76, 77, 78, 79, 80, 81, 82, 83, 84, 85, 104, 105, 106, 107, 108, 109, 110, 111, 112, 113] (by decide +kernel) (by decide +kernel)
set_option maxRecDepth 20000 in
theorem gX4_swallowed_X2_perforate : GoodIn wsX4_swallowed (wsV RX4 175 RX2 yX2_perforate wsX2_perforate) := goodIn_app (goodIn_of _ (by decide +kernel)) ggX4_swallowed_X2_perforate
set_option maxRecDepth 20000 in
theorem ggX4_swallowed_X3_size : GoodIn wsX4_swallowed wsX3_size := goodIn_r _ [30, 31, 107, 108, 109, 110, 111, 112, 113] (by decide +kernel) (by decide +kernel)
set_option maxRecDepth 20000 in
theorem gX4_swallowed_X3_size : GoodIn wsX4_swallowed (wsV RX4 78 RX3 yX3_size wsX3_size) := goodIn_app (goodIn_of _ (by decide +kernel)) ggX4_swallowed_X3_size
set_option maxRecDepth 20000 in
theorem ggX4_swallowed_X3_trackOf : GoodIn wsX4_swallowed wsX3_trackOf := goodIn_r _ [35, 36, 37, 38, 39, 20, 40, 31, 107, 108, 109, 110, 111, 112, 113] (by decide +kernel) (by decide +kernel)
set_option maxRecDepth 20000 in
theorem gX4_swallowed_X3_trackOf : GoodIn wsX4_swallowed (wsV RX4 160 RX3 yX3_trackOf wsX3_trackOf) := goodIn_app (goodIn_of _ (by decide +kernel)) ggX4_swallowed_X3_trackOf
set_option maxRecDepth 20000 in
theorem ggX4_swallowed_X3_firstOf : GoodIn wsX4_swallowed wsX3_firstOf := goodIn_r _ [44, 45, 37, 38, 39, 20, 40, 31, 107, 108, 109, 110, 111, 112, 113] (by decide +kernel) (by decide +kernel)
set_option maxRecDepth 20000 in
theorem gX4_swallowed_X3_firstOf : GoodIn wsX4_swallowed (wsV RX4 163 RX3 yX3_firstOf wsX3_firstOf) := goodIn_app (goodIn_of _ (by decide +kernel)) ggX4_swallowed_X3_firstOf
set_option maxRecDepth 20000 in
theorem ggX4_swallowed_X2_isHeard : GoodIn wsX4_swallowed wsX2_isHeard := goodIn_r _ [92, 4, 5, 6, 7, 8, 9, 93, 94, 95, 13, 96, 81, 66, 67, 104, 105, 106] (by decide +kernel) (by decide +kernel)
set_option maxRecDepth 20000 in
theorem gX4_swallowed_X2_isHeard : GoodIn wsX4_swallowed (wsV RX4 228 RX2 yX2_isHeard wsX2_isHeard) := goodIn_app (goodIn_of _ (by decide +kernel)) ggX4_swallowed_X2_isHeard
theorem dX4_swallowed_0 : decode cX4_swallowed 0 = .ok (.iload_n 1, 1) := by decide +kernel
theorem dX4_swallowed_1 : decode cX4_swallowed 1 = .ok (.invokestatic 71, 3) := by decide +kernel
theorem dX4_swallowed_4 : decode cX4_swallowed 4 = .ok (.ifCond .ne 5, 3) := by decide +kernel
theorem dX4_swallowed_7 : decode cX4_swallowed 7 = .ok (.iconst (-1), 1) := by decide +kernel
theorem dX4_swallowed_8 : decode cX4_swallowed 8 = .ok (.ireturn, 1) := by decide +kernel
theorem dX4_swallowed_9 : decode cX4_swallowed 9 = .ok (.aload_n 0, 1) := by decide +kernel
theorem dX4_swallowed_10 : decode cX4_swallowed 10 = .ok (.getfield 22, 3) := by decide +kernel
theorem dX4_swallowed_13 : decode cX4_swallowed 13 = .ok (.aload_n 0, 1) := by decide +kernel
theorem dX4_swallowed_14 : decode cX4_swallowed 14 = .ok (.getfield 10, 3) := by decide +kernel
theorem dX4_swallowed_17 : decode cX4_swallowed 17 = .ok (.invokevirtual 175, 3) := by decide +kernel
theorem dX4_swallowed_20 : decode cX4_swallowed 20 = .ok (.iconst 0, 1) := by decide +kernel
theorem dX4_swallowed_21 : decode cX4_swallowed 21 = .ok (.istore_n 2, 1) := by decide +kernel
theorem dX4_swallowed_22 : decode cX4_swallowed 22 = .ok (.iconst 0, 1) := by decide +kernel
theorem dX4_swallowed_23 : decode cX4_swallowed 23 = .ok (.istore_n 3, 1) := by decide +kernel
theorem dX4_swallowed_24 : decode cX4_swallowed 24 = .ok (.iload_n 3, 1) := by decide +kernel
theorem dX4_swallowed_25 : decode cX4_swallowed 25 = .ok (.aload_n 0, 1) := by decide +kernel
theorem dX4_swallowed_26 : decode cX4_swallowed 26 = .ok (.getfield 10, 3) := by decide +kernel
theorem dX4_swallowed_29 : decode cX4_swallowed 29 = .ok (.invokevirtual 78, 3) := by decide +kernel
theorem dX4_swallowed_32 : decode cX4_swallowed 32 = .ok (.if_icmp .ge 45, 3) := by decide +kernel
theorem dX4_swallowed_35 : decode cX4_swallowed 35 = .ok (.aload_n 0, 1) := by decide +kernel
theorem dX4_swallowed_36 : decode cX4_swallowed 36 = .ok (.getfield 10, 3) := by decide +kernel
theorem dX4_swallowed_39 : decode cX4_swallowed 39 = .ok (.iload_n 3, 1) := by decide +kernel
theorem dX4_swallowed_40 : decode cX4_swallowed 40 = .ok (.invokevirtual 160, 3) := by decide +kernel
theorem dX4_swallowed_43 : decode cX4_swallowed 43 = .ok (.iload_n 1, 1) := by decide +kernel
theorem dX4_swallowed_44 : decode cX4_swallowed 44 = .ok (.if_icmp .ne 27, 3) := by decide +kernel
theorem dX4_swallowed_47 : decode cX4_swallowed 47 = .ok (.aload_n 0, 1) := by decide +kernel
theorem dX4_swallowed_48 : decode cX4_swallowed 48 = .ok (.getfield 22, 3) := by decide +kernel
theorem dX4_swallowed_51 : decode cX4_swallowed 51 = .ok (.iload_n 1, 1) := by decide +kernel
theorem dX4_swallowed_52 : decode cX4_swallowed 52 = .ok (.aload_n 0, 1) := by decide +kernel
theorem dX4_swallowed_53 : decode cX4_swallowed 53 = .ok (.getfield 10, 3) := by decide +kernel
theorem dX4_swallowed_56 : decode cX4_swallowed 56 = .ok (.iload_n 3, 1) := by decide +kernel
theorem dX4_swallowed_57 : decode cX4_swallowed 57 = .ok (.invokevirtual 163, 3) := by decide +kernel
theorem dX4_swallowed_60 : decode cX4_swallowed 60 = .ok (.iconst 1, 1) := by decide +kernel
theorem dX4_swallowed_61 : decode cX4_swallowed 61 = .ok (.isub, 1) := by decide +kernel
theorem dX4_swallowed_62 : decode cX4_swallowed 62 = .ok (.invokevirtual 228, 3) := by decide +kernel
theorem dX4_swallowed_65 : decode cX4_swallowed 65 = .ok (.ifCond .eq 6, 3) := by decide +kernel
theorem dX4_swallowed_68 : decode cX4_swallowed 68 = .ok (.iinc 2 1, 3) := by decide +kernel
theorem dX4_swallowed_71 : decode cX4_swallowed 71 = .ok (.iinc 3 1, 3) := by decide +kernel
theorem dX4_swallowed_74 : decode cX4_swallowed 74 = .ok (.goto (-50), 3) := by decide +kernel
theorem dX4_swallowed_77 : decode cX4_swallowed 77 = .ok (.iload_n 2, 1) := by decide +kernel
theorem dX4_swallowed_78 : decode cX4_swallowed 78 = .ok (.ireturn, 1) := by decide +kernel
theorem dX4_isIn_0 : decode cX4_isIn 0 = .ok (.iload_n 0, 1) := by decide +kernel
theorem dX4_isIn_1 : decode cX4_isIn 1 = .ok (.iload_n 1, 1) := by decide +kernel
theorem dX4_isIn_2 : decode cX4_isIn 2 = .ok (.if_icmp .lt 12, 3) := by decide +kernel
theorem dX4_isIn_5 : decode cX4_isIn 5 = .ok (.iload_n 0, 1) := by decide +kernel
theorem dX4_isIn_6 : decode cX4_isIn 6 = .ok (.iload_n 2, 1) := by decide +kernel
theorem dX4_isIn_7 : decode cX4_isIn 7 = .ok (.if_icmp .gt 7, 3) := by decide +kernel
theorem dX4_isIn_10 : decode cX4_isIn 10 = .ok (.iconst 1, 1) := by decide +kernel
theorem dX4_isIn_11 : decode cX4_isIn 11 = .ok (.goto 4, 3) := by decide +kernel
theorem dX4_isIn_14 : decode cX4_isIn 14 = .ok (.iconst 0, 1) := by decide +kernel
theorem dX4_isIn_15 : decode cX4_isIn 15 = .ok (.ireturn, 1) := by decide +kernel
set_option maxRecDepth 20000 in
theorem ggX4_isTrack_X4_isIn : GoodIn wsX4_isTrack wsX4_isIn := goodIn_r _ [4] (by decide +kernel) (by decide +kernel)
set_option maxRecDepth 20000 in
theorem gX4_isTrack_X4_isIn : GoodIn wsX4_isTrack (va_wsS RX4 48 yX4_isIn wsX4_isIn) := goodIn_app (goodIn_of _ (by decide +kernel)) ggX4_isTrack_X4_isIn
theorem dX4_isTrack_0 : decode cX4_isTrack 0 = .ok (.iload_n 0, 1) := by decide +kernel
theorem dX4_isTrack_1 : decode cX4_isTrack 1 = .ok (.iconst 0, 1) := by decide +kernel
theorem dX4_isTrack_2 : decode cX4_isTrack 2 = .ok (.bipush 11, 2) := by decide +kernel
theorem dX4_isTrack_4 : decode cX4_isTrack 4 = .ok (.invokestatic 48, 3) := by decide +kernel
theorem dX4_isTrack_7 : decode cX4_isTrack 7 = .ok (.ireturn, 1) := by decide +kernel
set_option maxRecDepth 20000 in
theorem ggX4_isStep_X4_isIn : GoodIn wsX4_isStep wsX4_isIn := goodIn_r _ [4] (by decide +kernel) (by decide +kernel)
set_option maxRecDepth 20000 in
theorem gX4_isStep_X4_isIn : GoodIn wsX4_isStep (va_wsS RX4 48 yX4_isIn wsX4_isIn) := goodIn_app (goodIn_of _ (by decide +kernel)) ggX4_isStep_X4_isIn
theorem dX4_isStep_0 : decode cX4_isStep 0 = .ok (.iload_n 0, 1) := by decide +kernel
theorem dX4_isStep_1 : decode cX4_isStep 1 = .ok (.iconst 0, 1) := by decide +kernel
theorem dX4_isStep_2 : decode cX4_isStep 2 = .ok (.bipush 99, 2) := by decide +kernel
theorem dX4_isStep_4 : decode cX4_isStep 4 = .ok (.invokestatic 48, 3) := by decide +kernel
theorem dX4_isStep_7 : decode cX4_isStep 7 = .ok (.ireturn, 1) := by decide +kernel
set_option maxRecDepth 20000 in
theorem ggX4_isPassage_X4_isStep : GoodIn wsX4_isPassage wsX4_isStep := goodIn_r _ [4, 5, 6, 3, 7] (by decide +kernel) (by decide +kernel)
set_option maxRecDepth 20000 in
theorem gX4_isPassage_X4_isStep : GoodIn wsX4_isPassage (va_wsS RX4 75 yX4_isStep wsX4_isStep) := goodIn_app (goodIn_of _ (by decide +kernel)) ggX4_isPassage_X4_isStep
theorem dX4_isPassage_0 : decode cX4_isPassage 0 = .ok (.iload_n 0, 1) := by decide +kernel
theorem dX4_isPassage_1 : decode cX4_isPassage 1 = .ok (.invokestatic 75, 3) := by decide +kernel
theorem dX4_isPassage_4 : decode cX4_isPassage 4 = .ok (.ifCond .eq 19, 3) := by decide +kernel
theorem dX4_isPassage_7 : decode cX4_isPassage 7 = .ok (.iload_n 1, 1) := by decide +kernel
theorem dX4_isPassage_8 : decode cX4_isPassage 8 = .ok (.invokestatic 75, 3) := by decide +kernel
theorem dX4_isPassage_11 : decode cX4_isPassage 11 = .ok (.ifCond .eq 12, 3) := by decide +kernel
theorem dX4_isPassage_14 : decode cX4_isPassage 14 = .ok (.iload_n 0, 1) := by decide +kernel
theorem dX4_isPassage_15 : decode cX4_isPassage 15 = .ok (.iload_n 1, 1) := by decide +kernel
theorem dX4_isPassage_16 : decode cX4_isPassage 16 = .ok (.if_icmp .gt 7, 3) := by decide +kernel
theorem dX4_isPassage_19 : decode cX4_isPassage 19 = .ok (.iconst 1, 1) := by decide +kernel
theorem dX4_isPassage_20 : decode cX4_isPassage 20 = .ok (.goto 4, 3) := by decide +kernel
theorem dX4_isPassage_23 : decode cX4_isPassage 23 = .ok (.iconst 0, 1) := by decide +kernel
theorem dX4_isPassage_24 : decode cX4_isPassage 24 = .ok (.ireturn, 1) := by decide +kernel
theorem dX4_asNumber_0 : decode cX4_asNumber 0 = .ok (.iload_n 0, 1) := by decide +kernel
theorem dX4_asNumber_1 : decode cX4_asNumber 1 = .ok (.ifCond .eq 7, 3) := by decide +kernel
theorem dX4_asNumber_4 : decode cX4_asNumber 4 = .ok (.iconst 1, 1) := by decide +kernel
theorem dX4_asNumber_5 : decode cX4_asNumber 5 = .ok (.goto 4, 3) := by decide +kernel
theorem dX4_asNumber_8 : decode cX4_asNumber 8 = .ok (.iconst 0, 1) := by decide +kernel
theorem dX4_asNumber_9 : decode cX4_asNumber 9 = .ok (.ireturn, 1) := by decide +kernel
theorem dX4_noneIfMissing_0 : decode cX4_noneIfMissing 0 = .ok (.iload_n 0, 1) := by decide +kernel
theorem dX4_noneIfMissing_1 : decode cX4_noneIfMissing 1 = .ok (.ifCond .ge 8, 3) := by decide +kernel
theorem dX4_noneIfMissing_4 : decode cX4_noneIfMissing 4 = .ok (.bipush (-6), 2) := by decide +kernel
theorem dX4_noneIfMissing_6 : decode cX4_noneIfMissing 6 = .ok (.goto 4, 3) := by decide +kernel
theorem dX4_noneIfMissing_9 : decode cX4_noneIfMissing 9 = .ok (.iload_n 0, 1) := by decide +kernel
theorem dX4_noneIfMissing_10 : decode cX4_noneIfMissing 10 = .ok (.ireturn, 1) := by decide +kernel
set_option maxRecDepth 20000 in
theorem ggX4_isFreeAt_X3_size : GoodIn wsX4_isFreeAt wsX3_size := goodIn_r _ [6, 7, 49, 50, 51, 52, 53, 54, 55] (by decide +kernel) (by decide +kernel)
set_option maxRecDepth 20000 in
theorem gX4_isFreeAt_X3_size : GoodIn wsX4_isFreeAt (wsV RX4 78 RX3 yX3_size wsX3_size) := goodIn_app (goodIn_of _ (by decide +kernel)) ggX4_isFreeAt_X3_size
set_option maxRecDepth 20000 in
theorem ggX4_isFreeAt_X3_liesWithin : GoodIn wsX4_isFreeAt wsX3_liesWithin := goodIn_r _ [11, 12, 13, 14, 5, 15, 7, 16, 17, 18, 19, 20, 21, 22, 23, 24, 25, 49, 50, 51, 52, 53, 54, 55] (by decide +kernel) (by decide +kernel)
set_option maxRecDepth 20000 in
theorem gX4_isFreeAt_X3_liesWithin : GoodIn wsX4_isFreeAt (wsV RX4 249 RX3 yX3_liesWithin wsX3_liesWithin) := goodIn_app (goodIn_of _ (by decide +kernel)) ggX4_isFreeAt_X3_liesWithin
set_option maxRecDepth 20000 in
theorem ggX4_isFreeAt_X3_firstOf : GoodIn wsX4_isFreeAt wsX3_firstOf := goodIn_r _ [19, 20, 12, 13, 14, 5, 15, 7, 49, 50, 51, 52, 53, 54, 55] (by decide +kernel) (by decide +kernel)
set_option maxRecDepth 20000 in
theorem gX4_isFreeAt_X3_firstOf : GoodIn wsX4_isFreeAt (wsV RX4 163 RX3 yX3_firstOf wsX3_firstOf) := goodIn_app (goodIn_of _ (by decide +kernel)) ggX4_isFreeAt_X3_firstOf
set_option maxRecDepth 20000 in
theorem ggX4_isFreeAt_X3_lastOf : GoodIn wsX4_isFreeAt wsX3_lastOf := goodIn_r _ [24, 25, 12, 13, 14, 5, 15, 7, 49, 50, 51, 52, 53, 54, 55] (by decide +kernel) (by decide +kernel)
set_option maxRecDepth 20000 in
theorem gX4_isFreeAt_X3_lastOf : GoodIn wsX4_isFreeAt (wsV RX4 166 RX3 yX3_lastOf wsX3_lastOf) := goodIn_app (goodIn_of _ (by decide +kernel)) ggX4_isFreeAt_X3_lastOf
set_option maxRecDepth 20000 in
theorem ggX4_isFreeAt_X3_trackOf : GoodIn wsX4_isFreeAt wsX3_trackOf := goodIn_r _ [31, 32, 12, 13, 14, 5, 15, 7, 49, 50, 51, 52, 53, 54, 55] (by decide +kernel) (by decide +kernel)
set_option maxRecDepth 20000 in
theorem gX4_isFreeAt_X3_trackOf : GoodIn wsX4_isFreeAt (wsV RX4 160 RX3 yX3_trackOf wsX3_trackOf) := goodIn_app (goodIn_of _ (by decide +kernel)) ggX4_isFreeAt_X3_trackOf
set_option maxRecDepth 20000 in
theorem ggX4_isFreeAt_X3_isTaken : GoodIn wsX4_isFreeAt wsX3_isTaken := goodIn_r _ [36, 37, 38, 39, 5, 40, 7, 41, 29, 30, 31, 32, 12, 13, 14, 15, 16, 17, 18, 19, 20, 21, 22, 23, 24, 25, 49, 50, 51, 52, 53, 54, 55] (by decide +kernel) (by decide +kernel)
set_option maxRecDepth 20000 in
theorem gX4_isFreeAt_X3_isTaken : GoodIn wsX4_isFreeAt (wsV RX4 82 RX3 yX3_isTaken wsX3_isTaken) := goodIn_app (goodIn_of _ (by decide +kernel)) ggX4_isFreeAt_X3_isTaken
theorem dX4_isFreeAt_0 : decode cX4_isFreeAt 0 = .ok (.iconst 0, 1) := by decide +kernel
theorem dX4_isFreeAt_1 : decode cX4_isFreeAt 1 = .ok (.istore 4, 2) := by decide +kernel
theorem dX4_isFreeAt_3 : decode cX4_isFreeAt 3 = .ok (.iload 4, 2) := by decide +kernel
theorem dX4_isFreeAt_5 : decode cX4_isFreeAt 5 = .ok (.aload_n 0, 1) := by decide +kernel
theorem dX4_isFreeAt_6 : decode cX4_isFreeAt 6 = .ok (.getfield 10, 3) := by decide +kernel
theorem dX4_isFreeAt_9 : decode cX4_isFreeAt 9 = .ok (.invokevirtual 78, 3) := by decide +kernel
theorem dX4_isFreeAt_12 : decode cX4_isFreeAt 12 = .ok (.if_icmp .ge 85, 3) := by decide +kernel
theorem dX4_isFreeAt_15 : decode cX4_isFreeAt 15 = .ok (.aload_n 0, 1) := by decide +kernel
theorem dX4_isFreeAt_16 : decode cX4_isFreeAt 16 = .ok (.getfield 10, 3) := by decide +kernel
theorem dX4_isFreeAt_19 : decode cX4_isFreeAt 19 = .ok (.iload 4, 2) := by decide +kernel
theorem dX4_isFreeAt_21 : decode cX4_isFreeAt 21 = .ok (.iload_n 1, 1) := by decide +kernel
theorem dX4_isFreeAt_22 : decode cX4_isFreeAt 22 = .ok (.iload_n 2, 1) := by decide +kernel
theorem dX4_isFreeAt_23 : decode cX4_isFreeAt 23 = .ok (.invokevirtual 249, 3) := by decide +kernel
theorem dX4_isFreeAt_26 : decode cX4_isFreeAt 26 = .ok (.ifCond .eq 65, 3) := by decide +kernel
theorem dX4_isFreeAt_29 : decode cX4_isFreeAt 29 = .ok (.aload_n 0, 1) := by decide +kernel
theorem dX4_isFreeAt_30 : decode cX4_isFreeAt 30 = .ok (.getfield 10, 3) := by decide +kernel
theorem dX4_isFreeAt_33 : decode cX4_isFreeAt 33 = .ok (.iload 4, 2) := by decide +kernel
theorem dX4_isFreeAt_35 : decode cX4_isFreeAt 35 = .ok (.invokevirtual 163, 3) := by decide +kernel
theorem dX4_isFreeAt_38 : decode cX4_isFreeAt 38 = .ok (.iload_n 1, 1) := by decide +kernel
theorem dX4_isFreeAt_39 : decode cX4_isFreeAt 39 = .ok (.isub, 1) := by decide +kernel
theorem dX4_isFreeAt_40 : decode cX4_isFreeAt 40 = .ok (.iload_n 3, 1) := by decide +kernel
theorem dX4_isFreeAt_41 : decode cX4_isFreeAt 41 = .ok (.iadd, 1) := by decide +kernel
theorem dX4_isFreeAt_42 : decode cX4_isFreeAt 42 = .ok (.istore 5, 2) := by decide +kernel
theorem dX4_isFreeAt_44 : decode cX4_isFreeAt 44 = .ok (.aload_n 0, 1) := by decide +kernel
theorem dX4_isFreeAt_45 : decode cX4_isFreeAt 45 = .ok (.getfield 10, 3) := by decide +kernel
theorem dX4_isFreeAt_48 : decode cX4_isFreeAt 48 = .ok (.iload 4, 2) := by decide +kernel
theorem dX4_isFreeAt_50 : decode cX4_isFreeAt 50 = .ok (.invokevirtual 166, 3) := by decide +kernel
theorem dX4_isFreeAt_53 : decode cX4_isFreeAt 53 = .ok (.iload_n 1, 1) := by decide +kernel
theorem dX4_isFreeAt_54 : decode cX4_isFreeAt 54 = .ok (.isub, 1) := by decide +kernel
theorem dX4_isFreeAt_55 : decode cX4_isFreeAt 55 = .ok (.iload_n 3, 1) := by decide +kernel
theorem dX4_isFreeAt_56 : decode cX4_isFreeAt 56 = .ok (.iadd, 1) := by decide +kernel
theorem dX4_isFreeAt_57 : decode cX4_isFreeAt 57 = .ok (.istore 6, 2) := by decide +kernel
theorem dX4_isFreeAt_59 : decode cX4_isFreeAt 59 = .ok (.iload 6, 2) := by decide +kernel
theorem dX4_isFreeAt_61 : decode cX4_isFreeAt 61 = .ok (.bipush 100, 2) := by decide +kernel
theorem dX4_isFreeAt_63 : decode cX4_isFreeAt 63 = .ok (.if_icmp .ge 26, 3) := by decide +kernel
theorem dX4_isFreeAt_66 : decode cX4_isFreeAt 66 = .ok (.aload_n 0, 1) := by decide +kernel
theorem dX4_isFreeAt_67 : decode cX4_isFreeAt 67 = .ok (.getfield 10, 3) := by decide +kernel
theorem dX4_isFreeAt_70 : decode cX4_isFreeAt 70 = .ok (.aload_n 0, 1) := by decide +kernel
theorem dX4_isFreeAt_71 : decode cX4_isFreeAt 71 = .ok (.getfield 10, 3) := by decide +kernel
theorem dX4_isFreeAt_74 : decode cX4_isFreeAt 74 = .ok (.iload 4, 2) := by decide +kernel
theorem dX4_isFreeAt_76 : decode cX4_isFreeAt 76 = .ok (.invokevirtual 160, 3) := by decide +kernel
theorem dX4_isFreeAt_79 : decode cX4_isFreeAt 79 = .ok (.iload 5, 2) := by decide +kernel
theorem dX4_isFreeAt_81 : decode cX4_isFreeAt 81 = .ok (.iload 6, 2) := by decide +kernel
theorem dX4_isFreeAt_83 : decode cX4_isFreeAt 83 = .ok (.invokevirtual 82, 3) := by decide +kernel
theorem dX4_isFreeAt_86 : decode cX4_isFreeAt 86 = .ok (.ifCond .eq 5, 3) := by decide +kernel
theorem dX4_isFreeAt_89 : decode cX4_isFreeAt 89 = .ok (.iconst 0, 1) := by decide +kernel
theorem dX4_isFreeAt_90 : decode cX4_isFreeAt 90 = .ok (.ireturn, 1) := by decide +kernel
theorem dX4_isFreeAt_91 : decode cX4_isFreeAt 91 = .ok (.iinc 4 1, 3) := by decide +kernel
theorem dX4_isFreeAt_94 : decode cX4_isFreeAt 94 = .ok (.goto (-91), 3) := by decide +kernel
theorem dX4_isFreeAt_97 : decode cX4_isFreeAt 97 = .ok (.iconst 1, 1) := by decide +kernel
theorem dX4_isFreeAt_98 : decode cX4_isFreeAt 98 = .ok (.ireturn, 1) := by decide +kernel
set_option maxRecDepth 20000 in
theorem ggX4_isHeardWhole_X3_firstOf : GoodIn wsX4_isHeardWhole wsX3_firstOf := goodIn_r _ [7, 8, 9, 10, 11, 6, 12, 13, 49, 50, 51, 52, 53, 54, 55] (by decide +kernel) (by decide +kernel)
set_option maxRecDepth 20000 in
theorem gX4_isHeardWhole_X3_firstOf : GoodIn wsX4_isHeardWhole (wsV RX4 163 RX3 yX3_firstOf wsX3_firstOf) := goodIn_app (goodIn_of _ (by decide +kernel)) ggX4_isHeardWhole_X3_firstOf
set_option maxRecDepth 20000 in
theorem ggX4_isHeardWhole_X3_lastOf : GoodIn wsX4_isHeardWhole wsX3_lastOf := goodIn_r _ [17, 18, 9, 10, 11, 6, 12, 13, 49, 50, 51, 52, 53, 54, 55] (by decide +kernel) (by decide +kernel)
set_option maxRecDepth 20000 in
theorem gX4_isHeardWhole_X3_lastOf : GoodIn wsX4_isHeardWhole (wsV RX4 166 RX3 yX3_lastOf wsX3_lastOf) := goodIn_app (goodIn_of _ (by decide +kernel)) ggX4_isHeardWhole_X3_lastOf
set_option maxRecDepth 20000 in
theorem ggX4_isHeardWhole_X3_trackOf : GoodIn wsX4_isHeardWhole wsX3_trackOf := goodIn_r _ [22, 23, 9, 10, 11, 6, 12, 13, 49, 50, 51, 52, 53, 54, 55] (by decide +kernel) (by decide +kernel)
set_option maxRecDepth 20000 in
theorem gX4_isHeardWhole_X3_trackOf : GoodIn wsX4_isHeardWhole (wsV RX4 160 RX3 yX3_trackOf wsX3_trackOf) := goodIn_app (goodIn_of _ (by decide +kernel)) ggX4_isHeardWhole_X3_trackOf
set_option maxRecDepth 20000 in
theorem ggX4_isHeardWhole_X2_isHeard : GoodIn wsX4_isHeardWhole wsX2_isHeard := goodIn_r _ [28, 29, 30, 31, 32, 33, 34, 35, 36, 37, 27, 38, 39, 40, 41, 56, 57, 58] (by decide +kernel) (by decide +kernel)
set_option maxRecDepth 20000 in
theorem gX4_isHeardWhole_X2_isHeard : GoodIn wsX4_isHeardWhole (wsV RX4 228 RX2 yX2_isHeard wsX2_isHeard) := goodIn_app (goodIn_of _ (by decide +kernel)) ggX4_isHeardWhole_X2_isHeard
theorem dX4_isHeardWhole_0 : decode cX4_isHeardWhole 0 = .ok (.aload_n 0, 1) := by decide +kernel
theorem dX4_isHeardWhole_1 : decode cX4_isHeardWhole 1 = .ok (.getfield 10, 3) := by decide +kernel
theorem dX4_isHeardWhole_4 : decode cX4_isHeardWhole 4 = .ok (.iload_n 1, 1) := by decide +kernel
theorem dX4_isHeardWhole_5 : decode cX4_isHeardWhole 5 = .ok (.invokevirtual 163, 3) := by decide +kernel
theorem dX4_isHeardWhole_8 : decode cX4_isHeardWhole 8 = .ok (.istore_n 2, 1) := by decide +kernel
theorem dX4_isHeardWhole_9 : decode cX4_isHeardWhole 9 = .ok (.iload_n 2, 1) := by decide +kernel
theorem dX4_isHeardWhole_10 : decode cX4_isHeardWhole 10 = .ok (.aload_n 0, 1) := by decide +kernel
theorem dX4_isHeardWhole_11 : decode cX4_isHeardWhole 11 = .ok (.getfield 10, 3) := by decide +kernel
theorem dX4_isHeardWhole_14 : decode cX4_isHeardWhole 14 = .ok (.iload_n 1, 1) := by decide +kernel
theorem dX4_isHeardWhole_15 : decode cX4_isHeardWhole 15 = .ok (.invokevirtual 166, 3) := by decide +kernel
theorem dX4_isHeardWhole_18 : decode cX4_isHeardWhole 18 = .ok (.if_icmp .gt 30, 3) := by decide +kernel
theorem dX4_isHeardWhole_21 : decode cX4_isHeardWhole 21 = .ok (.aload_n 0, 1) := by decide +kernel
theorem dX4_isHeardWhole_22 : decode cX4_isHeardWhole 22 = .ok (.getfield 22, 3) := by decide +kernel
theorem dX4_isHeardWhole_25 : decode cX4_isHeardWhole 25 = .ok (.aload_n 0, 1) := by decide +kernel
theorem dX4_isHeardWhole_26 : decode cX4_isHeardWhole 26 = .ok (.getfield 10, 3) := by decide +kernel
theorem dX4_isHeardWhole_29 : decode cX4_isHeardWhole 29 = .ok (.iload_n 1, 1) := by decide +kernel
theorem dX4_isHeardWhole_30 : decode cX4_isHeardWhole 30 = .ok (.invokevirtual 160, 3) := by decide +kernel
theorem dX4_isHeardWhole_33 : decode cX4_isHeardWhole 33 = .ok (.iload_n 2, 1) := by decide +kernel
theorem dX4_isHeardWhole_34 : decode cX4_isHeardWhole 34 = .ok (.invokevirtual 228, 3) := by decide +kernel
theorem dX4_isHeardWhole_37 : decode cX4_isHeardWhole 37 = .ok (.ifCond .ne 5, 3) := by decide +kernel
theorem dX4_isHeardWhole_40 : decode cX4_isHeardWhole 40 = .ok (.iconst 0, 1) := by decide +kernel
theorem dX4_isHeardWhole_41 : decode cX4_isHeardWhole 41 = .ok (.ireturn, 1) := by decide +kernel
theorem dX4_isHeardWhole_42 : decode cX4_isHeardWhole 42 = .ok (.iinc 2 1, 3) := by decide +kernel
theorem dX4_isHeardWhole_45 : decode cX4_isHeardWhole 45 = .ok (.goto (-36), 3) := by decide +kernel
theorem dX4_isHeardWhole_48 : decode cX4_isHeardWhole 48 = .ok (.iconst 1, 1) := by decide +kernel
theorem dX4_isHeardWhole_49 : decode cX4_isHeardWhole 49 = .ok (.ireturn, 1) := by decide +kernel
set_option maxRecDepth 20000 in
theorem ggX4_notesWithGap_X3_size : GoodIn wsX4_notesWithGap wsX3_size := goodIn_r _ [6, 7, 57, 58, 59, 60, 61, 62, 63] (by decide +kernel) (by decide +kernel)
set_option maxRecDepth 20000 in
theorem gX4_notesWithGap_X3_size : GoodIn wsX4_notesWithGap (wsV RX4 78 RX3 yX3_size wsX3_size) := goodIn_app (goodIn_of _ (by decide +kernel)) ggX4_notesWithGap_X3_size
set_option maxRecDepth 20000 in
theorem ggX4_notesWithGap_X4_isHeardWhole : GoodIn wsX4_notesWithGap wsX4_isHeardWhole := goodIn_r _ [12, 1, 13, 14, 15, 16, 5, 17, 18, 19, 20, 21, 22, 7, 23, 24, 25, 26, 27, 28, 29, 30, 31, 32, 33, 34, 35, 36, 37, 38, 11, 39, 40, 41, 42, 43, 44, 45, 46, 47, 48, 49, 50, 51, 52, 53, 54, 55, 56, 57, 58, 59, 60, 61, 62, 63, 64, 65, 66] (by decide +kernel) (by decide +kernel)
set_option maxRecDepth 20000 in
theorem gX4_notesWithGap_X4_isHeardWhole : GoodIn wsX4_notesWithGap (wsV RX4 178 RX4 yX4_isHeardWhole wsX4_isHeardWhole) := goodIn_app (goodIn_of _ (by decide +kernel)) ggX4_notesWithGap_X4_isHeardWhole
theorem dX4_notesWithGap_0 : decode cX4_notesWithGap 0 = .ok (.iconst 0, 1) := by decide +kernel
theorem dX4_notesWithGap_1 : decode cX4_notesWithGap 1 = .ok (.istore_n 1, 1) := by decide +kernel
theorem dX4_notesWithGap_2 : decode cX4_notesWithGap 2 = .ok (.iconst 0, 1) := by decide +kernel
theorem dX4_notesWithGap_3 : decode cX4_notesWithGap 3 = .ok (.istore_n 2, 1) := by decide +kernel
theorem dX4_notesWithGap_4 : decode cX4_notesWithGap 4 = .ok (.iload_n 2, 1) := by decide +kernel
theorem dX4_notesWithGap_5 : decode cX4_notesWithGap 5 = .ok (.aload_n 0, 1) := by decide +kernel
theorem dX4_notesWithGap_6 : decode cX4_notesWithGap 6 = .ok (.getfield 10, 3) := by decide +kernel
theorem dX4_notesWithGap_9 : decode cX4_notesWithGap 9 = .ok (.invokevirtual 78, 3) := by decide +kernel
theorem dX4_notesWithGap_12 : decode cX4_notesWithGap 12 = .ok (.if_icmp .ge 20, 3) := by decide +kernel
theorem dX4_notesWithGap_15 : decode cX4_notesWithGap 15 = .ok (.aload_n 0, 1) := by decide +kernel
theorem dX4_notesWithGap_16 : decode cX4_notesWithGap 16 = .ok (.iload_n 2, 1) := by decide +kernel
theorem dX4_notesWithGap_17 : decode cX4_notesWithGap 17 = .ok (.invokevirtual 178, 3) := by decide +kernel
theorem dX4_notesWithGap_20 : decode cX4_notesWithGap 20 = .ok (.ifCond .ne 6, 3) := by decide +kernel
theorem dX4_notesWithGap_23 : decode cX4_notesWithGap 23 = .ok (.iinc 1 1, 3) := by decide +kernel
theorem dX4_notesWithGap_26 : decode cX4_notesWithGap 26 = .ok (.iinc 2 1, 3) := by decide +kernel
theorem dX4_notesWithGap_29 : decode cX4_notesWithGap 29 = .ok (.goto (-25), 3) := by decide +kernel
theorem dX4_notesWithGap_32 : decode cX4_notesWithGap 32 = .ok (.iload_n 1, 1) := by decide +kernel
theorem dX4_notesWithGap_33 : decode cX4_notesWithGap 33 = .ok (.ireturn, 1) := by decide +kernel
set_option maxRecDepth 20000 in
theorem ggX4_allSounds_X2_sounds : GoodIn wsX4_allSounds wsX2_sounds := goodIn_r _ [6, 7, 8, 9, 5, 10, 11, 12, 13, 14, 15, 16, 17, 18, 19, 20, 21, 22, 23, 24, 25, 26, 27, 35, 36, 37] (by decide +kernel) (by decide +kernel)
set_option maxRecDepth 20000 in
theorem gX4_allSounds_X2_sounds : GoodIn wsX4_allSounds (wsV RX4 264 RX2 yX2_sounds wsX2_sounds) := goodIn_app (goodIn_of _ (by decide +kernel)) ggX4_allSounds_X2_sounds
theorem dX4_allSounds_0 : decode cX4_allSounds 0 = .ok (.iconst 0, 1) := by decide +kernel
theorem dX4_allSounds_1 : decode cX4_allSounds 1 = .ok (.istore_n 1, 1) := by decide +kernel
theorem dX4_allSounds_2 : decode cX4_allSounds 2 = .ok (.iconst 0, 1) := by decide +kernel
theorem dX4_allSounds_3 : decode cX4_allSounds 3 = .ok (.istore_n 2, 1) := by decide +kernel
theorem dX4_allSounds_4 : decode cX4_allSounds 4 = .ok (.iload_n 2, 1) := by decide +kernel
theorem dX4_allSounds_5 : decode cX4_allSounds 5 = .ok (.bipush 12, 2) := by decide +kernel
theorem dX4_allSounds_7 : decode cX4_allSounds 7 = .ok (.if_icmp .ge 20, 3) := by decide +kernel
theorem dX4_allSounds_10 : decode cX4_allSounds 10 = .ok (.iload_n 1, 1) := by decide +kernel
theorem dX4_allSounds_11 : decode cX4_allSounds 11 = .ok (.aload_n 0, 1) := by decide +kernel
theorem dX4_allSounds_12 : decode cX4_allSounds 12 = .ok (.getfield 22, 3) := by decide +kernel
theorem dX4_allSounds_15 : decode cX4_allSounds 15 = .ok (.iload_n 2, 1) := by decide +kernel
theorem dX4_allSounds_16 : decode cX4_allSounds 16 = .ok (.invokevirtual 264, 3) := by decide +kernel
theorem dX4_allSounds_19 : decode cX4_allSounds 19 = .ok (.iadd, 1) := by decide +kernel
theorem dX4_allSounds_20 : decode cX4_allSounds 20 = .ok (.istore_n 1, 1) := by decide +kernel
theorem dX4_allSounds_21 : decode cX4_allSounds 21 = .ok (.iinc 2 1, 3) := by decide +kernel
theorem dX4_allSounds_24 : decode cX4_allSounds 24 = .ok (.goto (-20), 3) := by decide +kernel
theorem dX4_allSounds_27 : decode cX4_allSounds 27 = .ok (.iload_n 1, 1) := by decide +kernel
theorem dX4_allSounds_28 : decode cX4_allSounds 28 = .ok (.ireturn, 1) := by decide +kernel
theorem dJ6_bitCount_0f7a4_0 : decode cJ6_bitCount_0f7a4 0 = .ok (.iload_n 0, 1) := by decide +kernel
theorem dJ6_bitCount_0f7a4_1 : decode cJ6_bitCount_0f7a4 1 = .ok (.iload_n 0, 1) := by decide +kernel
theorem dJ6_bitCount_0f7a4_2 : decode cJ6_bitCount_0f7a4 2 = .ok (.iconst 1, 1) := by decide +kernel
theorem dJ6_bitCount_0f7a4_3 : decode cJ6_bitCount_0f7a4 3 = .ok (.iushr, 1) := by decide +kernel
theorem dJ6_bitCount_0f7a4_4 : decode cJ6_bitCount_0f7a4 4 = .ok (.ldc_w 265, 3) := by decide +kernel
theorem dJ6_bitCount_0f7a4_7 : decode cJ6_bitCount_0f7a4 7 = .ok (.iand, 1) := by decide +kernel
theorem dJ6_bitCount_0f7a4_8 : decode cJ6_bitCount_0f7a4 8 = .ok (.isub, 1) := by decide +kernel
theorem dJ6_bitCount_0f7a4_9 : decode cJ6_bitCount_0f7a4 9 = .ok (.istore_n 0, 1) := by decide +kernel
theorem dJ6_bitCount_0f7a4_10 : decode cJ6_bitCount_0f7a4 10 = .ok (.iload_n 0, 1) := by decide +kernel
theorem dJ6_bitCount_0f7a4_11 : decode cJ6_bitCount_0f7a4 11 = .ok (.ldc_w 266, 3) := by decide +kernel
theorem dJ6_bitCount_0f7a4_14 : decode cJ6_bitCount_0f7a4 14 = .ok (.iand, 1) := by decide +kernel
theorem dJ6_bitCount_0f7a4_15 : decode cJ6_bitCount_0f7a4 15 = .ok (.iload_n 0, 1) := by decide +kernel
theorem dJ6_bitCount_0f7a4_16 : decode cJ6_bitCount_0f7a4 16 = .ok (.iconst 2, 1) := by decide +kernel
theorem dJ6_bitCount_0f7a4_17 : decode cJ6_bitCount_0f7a4 17 = .ok (.iushr, 1) := by decide +kernel
theorem dJ6_bitCount_0f7a4_18 : decode cJ6_bitCount_0f7a4 18 = .ok (.ldc_w 266, 3) := by decide +kernel
theorem dJ6_bitCount_0f7a4_21 : decode cJ6_bitCount_0f7a4 21 = .ok (.iand, 1) := by decide +kernel
theorem dJ6_bitCount_0f7a4_22 : decode cJ6_bitCount_0f7a4 22 = .ok (.iadd, 1) := by decide +kernel
theorem dJ6_bitCount_0f7a4_23 : decode cJ6_bitCount_0f7a4 23 = .ok (.istore_n 0, 1) := by decide +kernel
theorem dJ6_bitCount_0f7a4_24 : decode cJ6_bitCount_0f7a4 24 = .ok (.iload_n 0, 1) := by decide +kernel
theorem dJ6_bitCount_0f7a4_25 : decode cJ6_bitCount_0f7a4 25 = .ok (.iload_n 0, 1) := by decide +kernel
theorem dJ6_bitCount_0f7a4_26 : decode cJ6_bitCount_0f7a4 26 = .ok (.iconst 4, 1) := by decide +kernel
theorem dJ6_bitCount_0f7a4_27 : decode cJ6_bitCount_0f7a4 27 = .ok (.iushr, 1) := by decide +kernel
theorem dJ6_bitCount_0f7a4_28 : decode cJ6_bitCount_0f7a4 28 = .ok (.iadd, 1) := by decide +kernel
theorem dJ6_bitCount_0f7a4_29 : decode cJ6_bitCount_0f7a4 29 = .ok (.ldc_w 267, 3) := by decide +kernel
theorem dJ6_bitCount_0f7a4_32 : decode cJ6_bitCount_0f7a4 32 = .ok (.iand, 1) := by decide +kernel
theorem dJ6_bitCount_0f7a4_33 : decode cJ6_bitCount_0f7a4 33 = .ok (.istore_n 0, 1) := by decide +kernel
theorem dJ6_bitCount_0f7a4_34 : decode cJ6_bitCount_0f7a4 34 = .ok (.iload_n 0, 1) := by decide +kernel
theorem dJ6_bitCount_0f7a4_35 : decode cJ6_bitCount_0f7a4 35 = .ok (.iload_n 0, 1) := by decide +kernel
theorem dJ6_bitCount_0f7a4_36 : decode cJ6_bitCount_0f7a4 36 = .ok (.bipush 8, 2) := by decide +kernel
theorem dJ6_bitCount_0f7a4_38 : decode cJ6_bitCount_0f7a4 38 = .ok (.iushr, 1) := by decide +kernel
theorem dJ6_bitCount_0f7a4_39 : decode cJ6_bitCount_0f7a4 39 = .ok (.iadd, 1) := by decide +kernel
theorem dJ6_bitCount_0f7a4_40 : decode cJ6_bitCount_0f7a4 40 = .ok (.istore_n 0, 1) := by decide +kernel
theorem dJ6_bitCount_0f7a4_41 : decode cJ6_bitCount_0f7a4 41 = .ok (.iload_n 0, 1) := by decide +kernel
theorem dJ6_bitCount_0f7a4_42 : decode cJ6_bitCount_0f7a4 42 = .ok (.iload_n 0, 1) := by decide +kernel
theorem dJ6_bitCount_0f7a4_43 : decode cJ6_bitCount_0f7a4 43 = .ok (.bipush 16, 2) := by decide +kernel
theorem dJ6_bitCount_0f7a4_45 : decode cJ6_bitCount_0f7a4 45 = .ok (.iushr, 1) := by decide +kernel
theorem dJ6_bitCount_0f7a4_46 : decode cJ6_bitCount_0f7a4 46 = .ok (.iadd, 1) := by decide +kernel
theorem dJ6_bitCount_0f7a4_47 : decode cJ6_bitCount_0f7a4 47 = .ok (.istore_n 0, 1) := by decide +kernel
theorem dJ6_bitCount_0f7a4_48 : decode cJ6_bitCount_0f7a4 48 = .ok (.iload_n 0, 1) := by decide +kernel
theorem dJ6_bitCount_0f7a4_49 : decode cJ6_bitCount_0f7a4 49 = .ok (.bipush 63, 2) := by decide +kernel
theorem dJ6_bitCount_0f7a4_51 : decode cJ6_bitCount_0f7a4 51 = .ok (.iand, 1) := by decide +kernel
theorem dJ6_bitCount_0f7a4_52 : decode cJ6_bitCount_0f7a4 52 = .ok (.ireturn, 1) := by decide +kernel
theorem dJ9_floorMod_7cf53_0 : decode cJ9_floorMod_7cf53 0 = .ok (.iload_n 0, 1) := by decide +kernel
theorem dJ9_floorMod_7cf53_1 : decode cJ9_floorMod_7cf53 1 = .ok (.iload_n 1, 1) := by decide +kernel
theorem dJ9_floorMod_7cf53_2 : decode cJ9_floorMod_7cf53 2 = .ok (.irem, 1) := by decide +kernel
theorem dJ9_floorMod_7cf53_3 : decode cJ9_floorMod_7cf53 3 = .ok (.istore_n 2, 1) := by decide +kernel
theorem dJ9_floorMod_7cf53_4 : decode cJ9_floorMod_7cf53 4 = .ok (.iload_n 0, 1) := by decide +kernel
theorem dJ9_floorMod_7cf53_5 : decode cJ9_floorMod_7cf53 5 = .ok (.iload_n 1, 1) := by decide +kernel
theorem dJ9_floorMod_7cf53_6 : decode cJ9_floorMod_7cf53 6 = .ok (.ixor, 1) := by decide +kernel
theorem dJ9_floorMod_7cf53_7 : decode cJ9_floorMod_7cf53 7 = .ok (.ifCond .ge 11, 3) := by decide +kernel
theorem dJ9_floorMod_7cf53_10 : decode cJ9_floorMod_7cf53 10 = .ok (.iload_n 2, 1) := by decide +kernel
theorem dJ9_floorMod_7cf53_11 : decode cJ9_floorMod_7cf53 11 = .ok (.ifCond .eq 7, 3) := by decide +kernel
theorem dJ9_floorMod_7cf53_14 : decode cJ9_floorMod_7cf53 14 = .ok (.iload_n 2, 1) := by decide +kernel
theorem dJ9_floorMod_7cf53_15 : decode cJ9_floorMod_7cf53 15 = .ok (.iload_n 1, 1) := by decide +kernel
theorem dJ9_floorMod_7cf53_16 : decode cJ9_floorMod_7cf53 16 = .ok (.iadd, 1) := by decide +kernel
theorem dJ9_floorMod_7cf53_17 : decode cJ9_floorMod_7cf53 17 = .ok (.ireturn, 1) := by decide +kernel
theorem dJ9_floorMod_7cf53_18 : decode cJ9_floorMod_7cf53 18 = .ok (.iload_n 2, 1) := by decide +kernel
theorem dJ9_floorMod_7cf53_19 : decode cJ9_floorMod_7cf53 19 = .ok (.ireturn, 1) := by decide +kernel
theorem dJ9_max_7cf53_0 : decode cJ9_max_7cf53 0 = .ok (.iload_n 0, 1) := by decide +kernel
theorem dJ9_max_7cf53_1 : decode cJ9_max_7cf53 1 = .ok (.iload_n 1, 1) := by decide +kernel
theorem dJ9_max_7cf53_2 : decode cJ9_max_7cf53 2 = .ok (.if_icmp .lt 7, 3) := by decide +kernel
theorem dJ9_max_7cf53_5 : decode cJ9_max_7cf53 5 = .ok (.iload_n 0, 1) := by decide +kernel
theorem dJ9_max_7cf53_6 : decode cJ9_max_7cf53 6 = .ok (.goto 4, 3) := by decide +kernel
theorem dJ9_max_7cf53_9 : decode cJ9_max_7cf53 9 = .ok (.iload_n 1, 1) := by decide +kernel
theorem dJ9_max_7cf53_10 : decode cJ9_max_7cf53 10 = .ok (.ireturn, 1) := by decide +kernel
theorem dJ9_min_7cf53_0 : decode cJ9_min_7cf53 0 = .ok (.iload_n 0, 1) := by decide +kernel
theorem dJ9_min_7cf53_1 : decode cJ9_min_7cf53 1 = .ok (.iload_n 1, 1) := by decide +kernel
theorem dJ9_min_7cf53_2 : decode cJ9_min_7cf53 2 = .ok (.if_icmp .gt 7, 3) := by decide +kernel
theorem dJ9_min_7cf53_5 : decode cJ9_min_7cf53 5 = .ok (.iload_n 0, 1) := by decide +kernel
theorem dJ9_min_7cf53_6 : decode cJ9_min_7cf53 6 = .ok (.goto 4, 3) := by decide +kernel
theorem dJ9_min_7cf53_9 : decode cJ9_min_7cf53 9 = .ok (.iload_n 1, 1) := by decide +kernel
theorem dJ9_min_7cf53_10 : decode cJ9_min_7cf53 10 = .ok (.ireturn, 1) := by decide +kernel
theorem dJ7_fill_53178_0 : decode cJ7_fill_53178 0 = .ok (.iconst 0, 1) := by decide +kernel
theorem dJ7_fill_53178_1 : decode cJ7_fill_53178 1 = .ok (.istore_n 2, 1) := by decide +kernel
theorem dJ7_fill_53178_2 : decode cJ7_fill_53178 2 = .ok (.aload_n 0, 1) := by decide +kernel
theorem dJ7_fill_53178_3 : decode cJ7_fill_53178 3 = .ok (.arraylength, 1) := by decide +kernel
theorem dJ7_fill_53178_4 : decode cJ7_fill_53178 4 = .ok (.istore_n 3, 1) := by decide +kernel
theorem dJ7_fill_53178_5 : decode cJ7_fill_53178 5 = .ok (.iload_n 2, 1) := by decide +kernel
theorem dJ7_fill_53178_6 : decode cJ7_fill_53178 6 = .ok (.iload_n 3, 1) := by decide +kernel
theorem dJ7_fill_53178_7 : decode cJ7_fill_53178 7 = .ok (.if_icmp .ge 13, 3) := by decide +kernel
theorem dJ7_fill_53178_10 : decode cJ7_fill_53178 10 = .ok (.aload_n 0, 1) := by decide +kernel
theorem dJ7_fill_53178_11 : decode cJ7_fill_53178 11 = .ok (.iload_n 2, 1) := by decide +kernel
theorem dJ7_fill_53178_12 : decode cJ7_fill_53178 12 = .ok (.iload_n 1, 1) := by decide +kernel
theorem dJ7_fill_53178_13 : decode cJ7_fill_53178 13 = .ok (.iastore, 1) := by decide +kernel
theorem dJ7_fill_53178_14 : decode cJ7_fill_53178 14 = .ok (.iinc 2 1, 3) := by decide +kernel
theorem dJ7_fill_53178_17 : decode cJ7_fill_53178 17 = .ok (.goto (-12), 3) := by decide +kernel
theorem dJ7_fill_53178_20 : decode cJ7_fill_53178 20 = .ok (.return_, 1) := by decide +kernel
theorem dL_cell_0 : decode cL_cell 0 = .ok (.iload_n 1, 1) := by decide +kernel
theorem dL_cell_1 : decode cL_cell 1 = .ok (.aload_n 0, 1) := by decide +kernel
theorem dL_cell_2 : decode cL_cell 2 = .ok (.arraylength, 1) := by decide +kernel
theorem dL_cell_3 : decode cL_cell 3 = .ok (.if_icmp .ge 9, 3) := by decide +kernel
theorem dL_cell_6 : decode cL_cell 6 = .ok (.aload_n 0, 1) := by decide +kernel
theorem dL_cell_7 : decode cL_cell 7 = .ok (.iload_n 1, 1) := by decide +kernel
theorem dL_cell_8 : decode cL_cell 8 = .ok (.iaload, 1) := by decide +kernel
theorem dL_cell_9 : decode cL_cell 9 = .ok (.goto 12, 3) := by decide +kernel
theorem dL_cell_12 : decode cL_cell 12 = .ok (.ldc 7, 2) := by decide +kernel
theorem dL_cell_14 : decode cL_cell 14 = .ok (.iload_n 1, 1) := by decide +kernel
theorem dL_cell_15 : decode cL_cell 15 = .ok (.iconst 1, 1) := by decide +kernel
theorem dL_cell_16 : decode cL_cell 16 = .ok (.iadd, 1) := by decide +kernel
theorem dL_cell_17 : decode cL_cell 17 = .ok (.imul, 1) := by decide +kernel
theorem dL_cell_18 : decode cL_cell 18 = .ok (.ldc 8, 2) := by decide +kernel
theorem dL_cell_20 : decode cL_cell 20 = .ok (.iadd, 1) := by decide +kernel
theorem dL_cell_21 : decode cL_cell 21 = .ok (.ireturn, 1) := by decide +kernel
theorem dL_low_0 : decode cL_low 0 = .ok (.iload_n 0, 1) := by decide +kernel
theorem dL_low_1 : decode cL_low 1 = .ok (.ldc 9, 2) := by decide +kernel
theorem dL_low_3 : decode cL_low 3 = .ok (.iand, 1) := by decide +kernel
theorem dL_low_4 : decode cL_low 4 = .ok (.iload_n 1, 1) := by decide +kernel
theorem dL_low_5 : decode cL_low 5 = .ok (.irem, 1) := by decide +kernel
theorem dL_low_6 : decode cL_low 6 = .ok (.ireturn, 1) := by decide +kernel
theorem dL_hole_0 : decode cL_hole 0 = .ok (.aload_n 3, 1) := by decide +kernel
theorem dL_hole_1 : decode cL_hole 1 = .ok (.iconst 5, 1) := by decide +kernel
theorem dL_hole_2 : decode cL_hole 2 = .ok (.iload_n 0, 1) := by decide +kernel
theorem dL_hole_3 : decode cL_hole 3 = .ok (.imul, 1) := by decide +kernel
theorem dL_hole_4 : decode cL_hole 4 = .ok (.iaload, 1) := by decide +kernel
theorem dL_hole_5 : decode cL_hole 5 = .ok (.bipush 100, 2) := by decide +kernel
theorem dL_hole_7 : decode cL_hole 7 = .ok (.idiv, 1) := by decide +kernel
theorem dL_hole_8 : decode cL_hole 8 = .ok (.istore 4, 2) := by decide +kernel
theorem dL_hole_10 : decode cL_hole 10 = .ok (.aload_n 3, 1) := by decide +kernel
theorem dL_hole_11 : decode cL_hole 11 = .ok (.iconst 5, 1) := by decide +kernel
theorem dL_hole_12 : decode cL_hole 12 = .ok (.iload_n 0, 1) := by decide +kernel
theorem dL_hole_13 : decode cL_hole 13 = .ok (.imul, 1) := by decide +kernel
theorem dL_hole_14 : decode cL_hole 14 = .ok (.iconst 1, 1) := by decide +kernel
theorem dL_hole_15 : decode cL_hole 15 = .ok (.iadd, 1) := by decide +kernel
theorem dL_hole_16 : decode cL_hole 16 = .ok (.iaload, 1) := by decide +kernel
theorem dL_hole_17 : decode cL_hole 17 = .ok (.istore 5, 2) := by decide +kernel
theorem dL_hole_19 : decode cL_hole 19 = .ok (.iload_n 1, 1) := by decide +kernel
theorem dL_hole_20 : decode cL_hole 20 = .ok (.iload 4, 2) := by decide +kernel
theorem dL_hole_22 : decode cL_hole 22 = .ok (.isub, 1) := by decide +kernel
theorem dL_hole_23 : decode cL_hole 23 = .ok (.aload_n 3, 1) := by decide +kernel
theorem dL_hole_24 : decode cL_hole 24 = .ok (.iconst 5, 1) := by decide +kernel
theorem dL_hole_25 : decode cL_hole 25 = .ok (.iload_n 0, 1) := by decide +kernel
theorem dL_hole_26 : decode cL_hole 26 = .ok (.imul, 1) := by decide +kernel
theorem dL_hole_27 : decode cL_hole 27 = .ok (.iconst 2, 1) := by decide +kernel
theorem dL_hole_28 : decode cL_hole 28 = .ok (.iadd, 1) := by decide +kernel
theorem dL_hole_29 : decode cL_hole 29 = .ok (.iaload, 1) := by decide +kernel
theorem dL_hole_30 : decode cL_hole 30 = .ok (.iadd, 1) := by decide +kernel
theorem dL_hole_31 : decode cL_hole 31 = .ok (.istore 6, 2) := by decide +kernel
theorem dL_hole_33 : decode cL_hole 33 = .ok (.iload 6, 2) := by decide +kernel
theorem dL_hole_35 : decode cL_hole 35 = .ok (.aload_n 2, 1) := by decide +kernel
theorem dL_hole_36 : decode cL_hole 36 = .ok (.iconst 0, 1) := by decide +kernel
theorem dL_hole_37 : decode cL_hole 37 = .ok (.iaload, 1) := by decide +kernel
theorem dL_hole_38 : decode cL_hole 38 = .ok (.aload_n 2, 1) := by decide +kernel
theorem dL_hole_39 : decode cL_hole 39 = .ok (.iconst 1, 1) := by decide +kernel
theorem dL_hole_40 : decode cL_hole 40 = .ok (.iaload, 1) := by decide +kernel
theorem dL_hole_41 : decode cL_hole 41 = .ok (.iadd, 1) := by decide +kernel
theorem dL_hole_42 : decode cL_hole 42 = .ok (.if_icmp .lt 18, 3) := by decide +kernel
theorem dL_hole_45 : decode cL_hole 45 = .ok (.iload 6, 2) := by decide +kernel
theorem dL_hole_47 : decode cL_hole 47 = .ok (.aload_n 2, 1) := by decide +kernel
theorem dL_hole_48 : decode cL_hole 48 = .ok (.iconst 0, 1) := by decide +kernel
theorem dL_hole_49 : decode cL_hole 49 = .ok (.iaload, 1) := by decide +kernel
theorem dL_hole_50 : decode cL_hole 50 = .ok (.aload_n 2, 1) := by decide +kernel
theorem dL_hole_51 : decode cL_hole 51 = .ok (.iconst 1, 1) := by decide +kernel
theorem dL_hole_52 : decode cL_hole 52 = .ok (.iaload, 1) := by decide +kernel
theorem dL_hole_53 : decode cL_hole 53 = .ok (.iadd, 1) := by decide +kernel
theorem dL_hole_54 : decode cL_hole 54 = .ok (.isub, 1) := by decide +kernel
theorem dL_hole_55 : decode cL_hole 55 = .ok (.istore 6, 2) := by decide +kernel
theorem dL_hole_57 : decode cL_hole 57 = .ok (.goto (-24), 3) := by decide +kernel
theorem dL_hole_60 : decode cL_hole 60 = .ok (.iload_n 1, 1) := by decide +kernel
theorem dL_hole_61 : decode cL_hole 61 = .ok (.iload 4, 2) := by decide +kernel
theorem dL_hole_63 : decode cL_hole 63 = .ok (.if_icmp .eq 17, 3) := by decide +kernel
theorem dL_hole_66 : decode cL_hole 66 = .ok (.iload_n 1, 1) := by decide +kernel
theorem dL_hole_67 : decode cL_hole 67 = .ok (.iload 5, 2) := by decide +kernel
theorem dL_hole_69 : decode cL_hole 69 = .ok (.if_icmp .eq 11, 3) := by decide +kernel
theorem dL_hole_72 : decode cL_hole 72 = .ok (.iload 6, 2) := by decide +kernel
theorem dL_hole_74 : decode cL_hole 74 = .ok (.aload_n 2, 1) := by decide +kernel
theorem dL_hole_75 : decode cL_hole 75 = .ok (.iconst 0, 1) := by decide +kernel
theorem dL_hole_76 : decode cL_hole 76 = .ok (.iaload, 1) := by decide +kernel
theorem dL_hole_77 : decode cL_hole 77 = .ok (.if_icmp .ge 7, 3) := by decide +kernel
theorem dL_hole_80 : decode cL_hole 80 = .ok (.iconst 1, 1) := by decide +kernel
theorem dL_hole_81 : decode cL_hole 81 = .ok (.goto 4, 3) := by decide +kernel
theorem dL_hole_84 : decode cL_hole 84 = .ok (.iconst 0, 1) := by decide +kernel
theorem dL_hole_85 : decode cL_hole 85 = .ok (.ireturn, 1) := by decide +kernel
set_option maxRecDepth 20000 in
theorem ggL_holes_L_hole : GoodIn wsL_holes wsL_hole := goodIn_r _ [4] (by decide +kernel) (by decide +kernel)
set_option maxRecDepth 20000 in
theorem gL_holes_L_hole : GoodIn wsL_holes (va_wsS RL 10 yL_hole wsL_hole) := goodIn_app (goodIn_of _ (by decide +kernel)) ggL_holes_L_hole
theorem dL_holes_0 : decode cL_holes 0 = .ok (.iconst 0, 1) := by decide +kernel
theorem dL_holes_1 : decode cL_holes 1 = .ok (.istore_n 3, 1) := by decide +kernel
theorem dL_holes_2 : decode cL_holes 2 = .ok (.iload_n 3, 1) := by decide +kernel
theorem dL_holes_3 : decode cL_holes 3 = .ok (.bipush 64, 2) := by decide +kernel
theorem dL_holes_5 : decode cL_holes 5 = .ok (.if_icmp .ge 13, 3) := by decide +kernel
theorem dL_holes_8 : decode cL_holes 8 = .ok (.aload_n 2, 1) := by decide +kernel
theorem dL_holes_9 : decode cL_holes 9 = .ok (.iload_n 3, 1) := by decide +kernel
theorem dL_holes_10 : decode cL_holes 10 = .ok (.iconst 0, 1) := by decide +kernel
theorem dL_holes_11 : decode cL_holes 11 = .ok (.iastore, 1) := by decide +kernel
theorem dL_holes_12 : decode cL_holes 12 = .ok (.iinc 3 1, 3) := by decide +kernel
theorem dL_holes_15 : decode cL_holes 15 = .ok (.goto (-13), 3) := by decide +kernel
theorem dL_holes_18 : decode cL_holes 18 = .ok (.iconst 0, 1) := by decide +kernel
theorem dL_holes_19 : decode cL_holes 19 = .ok (.istore_n 3, 1) := by decide +kernel
theorem dL_holes_20 : decode cL_holes 20 = .ok (.iload_n 3, 1) := by decide +kernel
theorem dL_holes_21 : decode cL_holes 21 = .ok (.aload_n 0, 1) := by decide +kernel
theorem dL_holes_22 : decode cL_holes 22 = .ok (.iconst 4, 1) := by decide +kernel
theorem dL_holes_23 : decode cL_holes 23 = .ok (.iaload, 1) := by decide +kernel
theorem dL_holes_24 : decode cL_holes 24 = .ok (.if_icmp .ge 111, 3) := by decide +kernel
theorem dL_holes_27 : decode cL_holes 27 = .ok (.aload_n 1, 1) := by decide +kernel
theorem dL_holes_28 : decode cL_holes 28 = .ok (.iconst 5, 1) := by decide +kernel
theorem dL_holes_29 : decode cL_holes 29 = .ok (.iload_n 3, 1) := by decide +kernel
theorem dL_holes_30 : decode cL_holes 30 = .ok (.imul, 1) := by decide +kernel
theorem dL_holes_31 : decode cL_holes 31 = .ok (.iaload, 1) := by decide +kernel
theorem dL_holes_32 : decode cL_holes 32 = .ok (.bipush 100, 2) := by decide +kernel
theorem dL_holes_34 : decode cL_holes 34 = .ok (.irem, 1) := by decide +kernel
theorem dL_holes_35 : decode cL_holes 35 = .ok (.istore 4, 2) := by decide +kernel
theorem dL_holes_37 : decode cL_holes 37 = .ok (.aload_n 1, 1) := by decide +kernel
theorem dL_holes_38 : decode cL_holes 38 = .ok (.iconst 5, 1) := by decide +kernel
theorem dL_holes_39 : decode cL_holes 39 = .ok (.iload_n 3, 1) := by decide +kernel
theorem dL_holes_40 : decode cL_holes 40 = .ok (.imul, 1) := by decide +kernel
theorem dL_holes_41 : decode cL_holes 41 = .ok (.iaload, 1) := by decide +kernel
theorem dL_holes_42 : decode cL_holes 42 = .ok (.bipush 100, 2) := by decide +kernel
theorem dL_holes_44 : decode cL_holes 44 = .ok (.idiv, 1) := by decide +kernel
theorem dL_holes_45 : decode cL_holes 45 = .ok (.istore 5, 2) := by decide +kernel
theorem dL_holes_47 : decode cL_holes 47 = .ok (.iload 5, 2) := by decide +kernel
theorem dL_holes_49 : decode cL_holes 49 = .ok (.aload_n 1, 1) := by decide +kernel
theorem dL_holes_50 : decode cL_holes 50 = .ok (.iconst 5, 1) := by decide +kernel
theorem dL_holes_51 : decode cL_holes 51 = .ok (.iload_n 3, 1) := by decide +kernel
theorem dL_holes_52 : decode cL_holes 52 = .ok (.imul, 1) := by decide +kernel
theorem dL_holes_53 : decode cL_holes 53 = .ok (.iconst 1, 1) := by decide +kernel
theorem dL_holes_54 : decode cL_holes 54 = .ok (.iadd, 1) := by decide +kernel
theorem dL_holes_55 : decode cL_holes 55 = .ok (.iaload, 1) := by decide +kernel
theorem dL_holes_56 : decode cL_holes 56 = .ok (.if_icmp .gt 31, 3) := by decide +kernel
theorem dL_holes_59 : decode cL_holes 59 = .ok (.iload_n 3, 1) := by decide +kernel
theorem dL_holes_60 : decode cL_holes 60 = .ok (.iload 5, 2) := by decide +kernel
theorem dL_holes_62 : decode cL_holes 62 = .ok (.aload_n 0, 1) := by decide +kernel
theorem dL_holes_63 : decode cL_holes 63 = .ok (.aload_n 1, 1) := by decide +kernel
theorem dL_holes_64 : decode cL_holes 64 = .ok (.invokestatic 10, 3) := by decide +kernel
theorem dL_holes_67 : decode cL_holes 67 = .ok (.ifCond .eq 14, 3) := by decide +kernel
theorem dL_holes_70 : decode cL_holes 70 = .ok (.aload_n 2, 1) := by decide +kernel
theorem dL_holes_71 : decode cL_holes 71 = .ok (.iload 5, 2) := by decide +kernel
theorem dL_holes_73 : decode cL_holes 73 = .ok (.dup2, 1) := by decide +kernel
theorem dL_holes_74 : decode cL_holes 74 = .ok (.iaload, 1) := by decide +kernel
theorem dL_holes_75 : decode cL_holes 75 = .ok (.iconst 1, 1) := by decide +kernel
theorem dL_holes_76 : decode cL_holes 76 = .ok (.iload 4, 2) := by decide +kernel
theorem dL_holes_78 : decode cL_holes 78 = .ok (.ishl, 1) := by decide +kernel
theorem dL_holes_79 : decode cL_holes 79 = .ok (.ior, 1) := by decide +kernel
theorem dL_holes_80 : decode cL_holes 80 = .ok (.iastore, 1) := by decide +kernel
theorem dL_holes_81 : decode cL_holes 81 = .ok (.iinc 5 1, 3) := by decide +kernel
theorem dL_holes_84 : decode cL_holes 84 = .ok (.goto (-37), 3) := by decide +kernel
theorem dL_holes_87 : decode cL_holes 87 = .ok (.aload_n 1, 1) := by decide +kernel
theorem dL_holes_88 : decode cL_holes 88 = .ok (.iconst 5, 1) := by decide +kernel
theorem dL_holes_89 : decode cL_holes 89 = .ok (.iload_n 3, 1) := by decide +kernel
theorem dL_holes_90 : decode cL_holes 90 = .ok (.imul, 1) := by decide +kernel
theorem dL_holes_91 : decode cL_holes 91 = .ok (.iconst 3, 1) := by decide +kernel
theorem dL_holes_92 : decode cL_holes 92 = .ok (.iadd, 1) := by decide +kernel
theorem dL_holes_93 : decode cL_holes 93 = .ok (.iaload, 1) := by decide +kernel
theorem dL_holes_94 : decode cL_holes 94 = .ok (.iconst 1, 1) := by decide +kernel
theorem dL_holes_95 : decode cL_holes 95 = .ok (.if_icmp .ne 34, 3) := by decide +kernel
theorem dL_holes_98 : decode cL_holes 98 = .ok (.aload_n 2, 1) := by decide +kernel
theorem dL_holes_99 : decode cL_holes 99 = .ok (.aload_n 1, 1) := by decide +kernel
theorem dL_holes_100 : decode cL_holes 100 = .ok (.iconst 5, 1) := by decide +kernel
theorem dL_holes_101 : decode cL_holes 101 = .ok (.iload_n 3, 1) := by decide +kernel
theorem dL_holes_102 : decode cL_holes 102 = .ok (.imul, 1) := by decide +kernel
theorem dL_holes_103 : decode cL_holes 103 = .ok (.iaload, 1) := by decide +kernel
theorem dL_holes_104 : decode cL_holes 104 = .ok (.bipush 100, 2) := by decide +kernel
theorem dL_holes_106 : decode cL_holes 106 = .ok (.idiv, 1) := by decide +kernel
theorem dL_holes_107 : decode cL_holes 107 = .ok (.dup2, 1) := by decide +kernel
theorem dL_holes_108 : decode cL_holes 108 = .ok (.iaload, 1) := by decide +kernel
theorem dL_holes_109 : decode cL_holes 109 = .ok (.iconst 1, 1) := by decide +kernel
theorem dL_holes_110 : decode cL_holes 110 = .ok (.iload 4, 2) := by decide +kernel
theorem dL_holes_112 : decode cL_holes 112 = .ok (.bipush 11, 2) := by decide +kernel
theorem dL_holes_114 : decode cL_holes 114 = .ok (.if_icmp .ne 8, 3) := by decide +kernel
theorem dL_holes_117 : decode cL_holes 117 = .ok (.bipush 10, 2) := by decide +kernel
theorem dL_holes_119 : decode cL_holes 119 = .ok (.goto 7, 3) := by decide +kernel
theorem dL_holes_122 : decode cL_holes 122 = .ok (.iload 4, 2) := by decide +kernel
theorem dL_holes_124 : decode cL_holes 124 = .ok (.iconst 1, 1) := by decide +kernel
theorem dL_holes_125 : decode cL_holes 125 = .ok (.iadd, 1) := by decide +kernel
theorem dL_holes_126 : decode cL_holes 126 = .ok (.ishl, 1) := by decide +kernel
theorem dL_holes_127 : decode cL_holes 127 = .ok (.ior, 1) := by decide +kernel
theorem dL_holes_128 : decode cL_holes 128 = .ok (.iastore, 1) := by decide +kernel
theorem dL_holes_129 : decode cL_holes 129 = .ok (.iinc 3 1, 3) := by decide +kernel
theorem dL_holes_132 : decode cL_holes 132 = .ok (.goto (-112), 3) := by decide +kernel
theorem dL_holes_135 : decode cL_holes 135 = .ok (.return_, 1) := by decide +kernel
theorem dL_side_0 : decode cL_side 0 = .ok (.iconst 0, 1) := by decide +kernel
theorem dL_side_1 : decode cL_side 1 = .ok (.istore_n 1, 1) := by decide +kernel
theorem dL_side_2 : decode cL_side 2 = .ok (.iload_n 0, 1) := by decide +kernel
theorem dL_side_3 : decode cL_side 3 = .ok (.istore_n 2, 1) := by decide +kernel
theorem dL_side_4 : decode cL_side 4 = .ok (.iload_n 2, 1) := by decide +kernel
theorem dL_side_5 : decode cL_side 5 = .ok (.ifCond .eq 15, 3) := by decide +kernel
theorem dL_side_8 : decode cL_side 8 = .ok (.iinc 1 1, 3) := by decide +kernel
theorem dL_side_11 : decode cL_side 11 = .ok (.iload_n 2, 1) := by decide +kernel
theorem dL_side_12 : decode cL_side 12 = .ok (.iload_n 2, 1) := by decide +kernel
theorem dL_side_13 : decode cL_side 13 = .ok (.iconst 1, 1) := by decide +kernel
theorem dL_side_14 : decode cL_side 14 = .ok (.ishr, 1) := by decide +kernel
theorem dL_side_15 : decode cL_side 15 = .ok (.iand, 1) := by decide +kernel
theorem dL_side_16 : decode cL_side 16 = .ok (.istore_n 2, 1) := by decide +kernel
theorem dL_side_17 : decode cL_side 17 = .ok (.goto (-13), 3) := by decide +kernel
theorem dL_side_20 : decode cL_side 20 = .ok (.iload_n 1, 1) := by decide +kernel
theorem dL_side_21 : decode cL_side 21 = .ok (.ireturn, 1) := by decide +kernel
theorem dL_heard_0 : decode cL_heard 0 = .ok (.iconst 0, 1) := by decide +kernel
theorem dL_heard_1 : decode cL_heard 1 = .ok (.istore_n 3, 1) := by decide +kernel
theorem dL_heard_2 : decode cL_heard 2 = .ok (.iload_n 0, 1) := by decide +kernel
theorem dL_heard_3 : decode cL_heard 3 = .ok (.istore 4, 2) := by decide +kernel
theorem dL_heard_5 : decode cL_heard 5 = .ok (.iload 4, 2) := by decide +kernel
theorem dL_heard_7 : decode cL_heard 7 = .ok (.ifCond .lt 26, 3) := by decide +kernel
theorem dL_heard_10 : decode cL_heard 10 = .ok (.iload 4, 2) := by decide +kernel
theorem dL_heard_12 : decode cL_heard 12 = .ok (.iload_n 0, 1) := by decide +kernel
theorem dL_heard_13 : decode cL_heard 13 = .ok (.aload_n 1, 1) := by decide +kernel
theorem dL_heard_14 : decode cL_heard 14 = .ok (.iconst 2, 1) := by decide +kernel
theorem dL_heard_15 : decode cL_heard 15 = .ok (.iaload, 1) := by decide +kernel
theorem dL_heard_16 : decode cL_heard 16 = .ok (.isub, 1) := by decide +kernel
theorem dL_heard_17 : decode cL_heard 17 = .ok (.if_icmp .lt 16, 3) := by decide +kernel
theorem dL_heard_20 : decode cL_heard 20 = .ok (.iload_n 3, 1) := by decide +kernel
theorem dL_heard_21 : decode cL_heard 21 = .ok (.aload_n 2, 1) := by decide +kernel
theorem dL_heard_22 : decode cL_heard 22 = .ok (.iload 4, 2) := by decide +kernel
theorem dL_heard_24 : decode cL_heard 24 = .ok (.iaload, 1) := by decide +kernel
theorem dL_heard_25 : decode cL_heard 25 = .ok (.ior, 1) := by decide +kernel
theorem dL_heard_26 : decode cL_heard 26 = .ok (.istore_n 3, 1) := by decide +kernel
theorem dL_heard_27 : decode cL_heard 27 = .ok (.iinc 4 (-1), 3) := by decide +kernel
theorem dL_heard_30 : decode cL_heard 30 = .ok (.goto (-25), 3) := by decide +kernel
theorem dL_heard_33 : decode cL_heard 33 = .ok (.iload_n 3, 1) := by decide +kernel
theorem dL_heard_34 : decode cL_heard 34 = .ok (.ireturn, 1) := by decide +kernel
set_option maxRecDepth 20000 in
theorem ggL_weak_L_holes : GoodIn wsL_weak wsL_holes := goodIn_r _ [4, 5, 6, 3, 7] (by decide +kernel) (by decide +kernel)
set_option maxRecDepth 20000 in
theorem gL_weak_L_holes : GoodIn wsL_weak (va_wsS RL 16 yL_holes wsL_holes) := goodIn_app (goodIn_of _ (by decide +kernel)) ggL_weak_L_holes
set_option maxRecDepth 20000 in
theorem ggL_weak_L_side : GoodIn wsL_weak wsL_side := goodIn_r _ [10] (by decide +kernel) (by decide +kernel)
set_option maxRecDepth 20000 in
theorem gL_weak_L_side : GoodIn wsL_weak (va_wsS RL 20 yL_side wsL_side) := goodIn_app (goodIn_of _ (by decide +kernel)) ggL_weak_L_side
theorem dL_weak_0 : decode cL_weak 0 = .ok (.aload_n 0, 1) := by decide +kernel
theorem dL_weak_1 : decode cL_weak 1 = .ok (.aload_n 1, 1) := by decide +kernel
theorem dL_weak_2 : decode cL_weak 2 = .ok (.aload_n 2, 1) := by decide +kernel
theorem dL_weak_3 : decode cL_weak 3 = .ok (.invokestatic 16, 3) := by decide +kernel
theorem dL_weak_6 : decode cL_weak 6 = .ok (.iconst 0, 1) := by decide +kernel
theorem dL_weak_7 : decode cL_weak 7 = .ok (.istore_n 3, 1) := by decide +kernel
theorem dL_weak_8 : decode cL_weak 8 = .ok (.iconst 0, 1) := by decide +kernel
theorem dL_weak_9 : decode cL_weak 9 = .ok (.istore 4, 2) := by decide +kernel
theorem dL_weak_11 : decode cL_weak 11 = .ok (.iload 4, 2) := by decide +kernel
theorem dL_weak_13 : decode cL_weak 13 = .ok (.bipush 64, 2) := by decide +kernel
theorem dL_weak_15 : decode cL_weak 15 = .ok (.if_icmp .ge 30, 3) := by decide +kernel
theorem dL_weak_18 : decode cL_weak 18 = .ok (.iload_n 3, 1) := by decide +kernel
theorem dL_weak_19 : decode cL_weak 19 = .ok (.aload_n 2, 1) := by decide +kernel
theorem dL_weak_20 : decode cL_weak 20 = .ok (.iload 4, 2) := by decide +kernel
theorem dL_weak_22 : decode cL_weak 22 = .ok (.iaload, 1) := by decide +kernel
theorem dL_weak_23 : decode cL_weak 23 = .ok (.invokestatic 20, 3) := by decide +kernel
theorem dL_weak_26 : decode cL_weak 26 = .ok (.aload_n 0, 1) := by decide +kernel
theorem dL_weak_27 : decode cL_weak 27 = .ok (.iconst 3, 1) := by decide +kernel
theorem dL_weak_28 : decode cL_weak 28 = .ok (.iaload, 1) := by decide +kernel
theorem dL_weak_29 : decode cL_weak 29 = .ok (.if_icmp .lt 7, 3) := by decide +kernel
theorem dL_weak_32 : decode cL_weak 32 = .ok (.iconst 1, 1) := by decide +kernel
theorem dL_weak_33 : decode cL_weak 33 = .ok (.goto 4, 3) := by decide +kernel
theorem dL_weak_36 : decode cL_weak 36 = .ok (.iconst 0, 1) := by decide +kernel
theorem dL_weak_37 : decode cL_weak 37 = .ok (.iadd, 1) := by decide +kernel
theorem dL_weak_38 : decode cL_weak 38 = .ok (.istore_n 3, 1) := by decide +kernel
theorem dL_weak_39 : decode cL_weak 39 = .ok (.iinc 4 1, 3) := by decide +kernel
theorem dL_weak_42 : decode cL_weak 42 = .ok (.goto (-31), 3) := by decide +kernel
theorem dL_weak_45 : decode cL_weak 45 = .ok (.iload_n 3, 1) := by decide +kernel
theorem dL_weak_46 : decode cL_weak 46 = .ok (.ireturn, 1) := by decide +kernel
theorem dL_taken_0 : decode cL_taken 0 = .ok (.iconst 0, 1) := by decide +kernel
theorem dL_taken_1 : decode cL_taken 1 = .ok (.istore 5, 2) := by decide +kernel
theorem dL_taken_3 : decode cL_taken 3 = .ok (.iload 5, 2) := by decide +kernel
theorem dL_taken_5 : decode cL_taken 5 = .ok (.aload_n 3, 1) := by decide +kernel
theorem dL_taken_6 : decode cL_taken 6 = .ok (.iconst 4, 1) := by decide +kernel
theorem dL_taken_7 : decode cL_taken 7 = .ok (.iaload, 1) := by decide +kernel
theorem dL_taken_8 : decode cL_taken 8 = .ok (.if_icmp .ge 52, 3) := by decide +kernel
theorem dL_taken_11 : decode cL_taken 11 = .ok (.aload 4, 2) := by decide +kernel
theorem dL_taken_13 : decode cL_taken 13 = .ok (.iconst 5, 1) := by decide +kernel
theorem dL_taken_14 : decode cL_taken 14 = .ok (.iload 5, 2) := by decide +kernel
theorem dL_taken_16 : decode cL_taken 16 = .ok (.imul, 1) := by decide +kernel
theorem dL_taken_17 : decode cL_taken 17 = .ok (.iaload, 1) := by decide +kernel
theorem dL_taken_18 : decode cL_taken 18 = .ok (.bipush 100, 2) := by decide +kernel
theorem dL_taken_20 : decode cL_taken 20 = .ok (.irem, 1) := by decide +kernel
theorem dL_taken_21 : decode cL_taken 21 = .ok (.iload_n 0, 1) := by decide +kernel
theorem dL_taken_22 : decode cL_taken 22 = .ok (.if_icmp .ne 32, 3) := by decide +kernel
theorem dL_taken_25 : decode cL_taken 25 = .ok (.aload 4, 2) := by decide +kernel
theorem dL_taken_27 : decode cL_taken 27 = .ok (.iconst 5, 1) := by decide +kernel
theorem dL_taken_28 : decode cL_taken 28 = .ok (.iload 5, 2) := by decide +kernel
theorem dL_taken_30 : decode cL_taken 30 = .ok (.imul, 1) := by decide +kernel
theorem dL_taken_31 : decode cL_taken 31 = .ok (.iaload, 1) := by decide +kernel
theorem dL_taken_32 : decode cL_taken 32 = .ok (.bipush 100, 2) := by decide +kernel
theorem dL_taken_34 : decode cL_taken 34 = .ok (.idiv, 1) := by decide +kernel
theorem dL_taken_35 : decode cL_taken 35 = .ok (.iload_n 2, 1) := by decide +kernel
theorem dL_taken_36 : decode cL_taken 36 = .ok (.if_icmp .gt 18, 3) := by decide +kernel
theorem dL_taken_39 : decode cL_taken 39 = .ok (.aload 4, 2) := by decide +kernel
theorem dL_taken_41 : decode cL_taken 41 = .ok (.iconst 5, 1) := by decide +kernel
theorem dL_taken_42 : decode cL_taken 42 = .ok (.iload 5, 2) := by decide +kernel
theorem dL_taken_44 : decode cL_taken 44 = .ok (.imul, 1) := by decide +kernel
theorem dL_taken_45 : decode cL_taken 45 = .ok (.iconst 1, 1) := by decide +kernel
theorem dL_taken_46 : decode cL_taken 46 = .ok (.iadd, 1) := by decide +kernel
theorem dL_taken_47 : decode cL_taken 47 = .ok (.iaload, 1) := by decide +kernel
theorem dL_taken_48 : decode cL_taken 48 = .ok (.iload_n 1, 1) := by decide +kernel
theorem dL_taken_49 : decode cL_taken 49 = .ok (.if_icmp .lt 5, 3) := by decide +kernel
theorem dL_taken_52 : decode cL_taken 52 = .ok (.iconst 1, 1) := by decide +kernel
theorem dL_taken_53 : decode cL_taken 53 = .ok (.ireturn, 1) := by decide +kernel
theorem dL_taken_54 : decode cL_taken 54 = .ok (.iinc 5 1, 3) := by decide +kernel
theorem dL_taken_57 : decode cL_taken 57 = .ok (.goto (-54), 3) := by decide +kernel
theorem dL_taken_60 : decode cL_taken 60 = .ok (.iconst 0, 1) := by decide +kernel
theorem dL_taken_61 : decode cL_taken 61 = .ok (.ireturn, 1) := by decide +kernel
theorem dL_sort_0 : decode cL_sort 0 = .ok (.iconst 0, 1) := by decide +kernel
theorem dL_sort_1 : decode cL_sort 1 = .ok (.istore_n 2, 1) := by decide +kernel
theorem dL_sort_2 : decode cL_sort 2 = .ok (.iload_n 2, 1) := by decide +kernel
theorem dL_sort_3 : decode cL_sort 3 = .ok (.aload_n 0, 1) := by decide +kernel
theorem dL_sort_4 : decode cL_sort 4 = .ok (.iconst 4, 1) := by decide +kernel
theorem dL_sort_5 : decode cL_sort 5 = .ok (.iaload, 1) := by decide +kernel
theorem dL_sort_6 : decode cL_sort 6 = .ok (.if_icmp .ge 99, 3) := by decide +kernel
theorem dL_sort_9 : decode cL_sort 9 = .ok (.iconst 0, 1) := by decide +kernel
theorem dL_sort_10 : decode cL_sort 10 = .ok (.istore_n 3, 1) := by decide +kernel
theorem dL_sort_11 : decode cL_sort 11 = .ok (.iload_n 3, 1) := by decide +kernel
theorem dL_sort_12 : decode cL_sort 12 = .ok (.iconst 1, 1) := by decide +kernel
theorem dL_sort_13 : decode cL_sort 13 = .ok (.iadd, 1) := by decide +kernel
theorem dL_sort_14 : decode cL_sort 14 = .ok (.aload_n 0, 1) := by decide +kernel
theorem dL_sort_15 : decode cL_sort 15 = .ok (.iconst 4, 1) := by decide +kernel
theorem dL_sort_16 : decode cL_sort 16 = .ok (.iaload, 1) := by decide +kernel
theorem dL_sort_17 : decode cL_sort 17 = .ok (.if_icmp .ge 82, 3) := by decide +kernel
theorem dL_sort_20 : decode cL_sort 20 = .ok (.aload_n 1, 1) := by decide +kernel
theorem dL_sort_21 : decode cL_sort 21 = .ok (.iconst 5, 1) := by decide +kernel
theorem dL_sort_22 : decode cL_sort 22 = .ok (.iload_n 3, 1) := by decide +kernel
theorem dL_sort_23 : decode cL_sort 23 = .ok (.imul, 1) := by decide +kernel
theorem dL_sort_24 : decode cL_sort 24 = .ok (.iaload, 1) := by decide +kernel
theorem dL_sort_25 : decode cL_sort 25 = .ok (.aload_n 1, 1) := by decide +kernel
theorem dL_sort_26 : decode cL_sort 26 = .ok (.iconst 5, 1) := by decide +kernel
theorem dL_sort_27 : decode cL_sort 27 = .ok (.iload_n 3, 1) := by decide +kernel
theorem dL_sort_28 : decode cL_sort 28 = .ok (.imul, 1) := by decide +kernel
theorem dL_sort_29 : decode cL_sort 29 = .ok (.iconst 5, 1) := by decide +kernel
theorem dL_sort_30 : decode cL_sort 30 = .ok (.iadd, 1) := by decide +kernel
theorem dL_sort_31 : decode cL_sort 31 = .ok (.iaload, 1) := by decide +kernel
theorem dL_sort_32 : decode cL_sort 32 = .ok (.if_icmp .gt 6, 3) := by decide +kernel
theorem dL_sort_35 : decode cL_sort 35 = .ok (.goto 58, 3) := by decide +kernel
theorem dL_sort_38 : decode cL_sort 38 = .ok (.iconst 0, 1) := by decide +kernel
theorem dL_sort_39 : decode cL_sort 39 = .ok (.istore 4, 2) := by decide +kernel
theorem dL_sort_41 : decode cL_sort 41 = .ok (.iload 4, 2) := by decide +kernel
theorem dL_sort_43 : decode cL_sort 43 = .ok (.iconst 4, 1) := by decide +kernel
theorem dL_sort_44 : decode cL_sort 44 = .ok (.if_icmp .ge 49, 3) := by decide +kernel
theorem dL_sort_47 : decode cL_sort 47 = .ok (.aload_n 1, 1) := by decide +kernel
theorem dL_sort_48 : decode cL_sort 48 = .ok (.iconst 5, 1) := by decide +kernel
theorem dL_sort_49 : decode cL_sort 49 = .ok (.iload_n 3, 1) := by decide +kernel
theorem dL_sort_50 : decode cL_sort 50 = .ok (.imul, 1) := by decide +kernel
theorem dL_sort_51 : decode cL_sort 51 = .ok (.iload 4, 2) := by decide +kernel
theorem dL_sort_53 : decode cL_sort 53 = .ok (.iadd, 1) := by decide +kernel
theorem dL_sort_54 : decode cL_sort 54 = .ok (.iaload, 1) := by decide +kernel
theorem dL_sort_55 : decode cL_sort 55 = .ok (.istore 5, 2) := by decide +kernel
theorem dL_sort_57 : decode cL_sort 57 = .ok (.aload_n 1, 1) := by decide +kernel
theorem dL_sort_58 : decode cL_sort 58 = .ok (.iconst 5, 1) := by decide +kernel
theorem dL_sort_59 : decode cL_sort 59 = .ok (.iload_n 3, 1) := by decide +kernel
theorem dL_sort_60 : decode cL_sort 60 = .ok (.imul, 1) := by decide +kernel
theorem dL_sort_61 : decode cL_sort 61 = .ok (.iload 4, 2) := by decide +kernel
theorem dL_sort_63 : decode cL_sort 63 = .ok (.iadd, 1) := by decide +kernel
theorem dL_sort_64 : decode cL_sort 64 = .ok (.aload_n 1, 1) := by decide +kernel
theorem dL_sort_65 : decode cL_sort 65 = .ok (.iconst 5, 1) := by decide +kernel
theorem dL_sort_66 : decode cL_sort 66 = .ok (.iload_n 3, 1) := by decide +kernel
theorem dL_sort_67 : decode cL_sort 67 = .ok (.imul, 1) := by decide +kernel
theorem dL_sort_68 : decode cL_sort 68 = .ok (.iconst 5, 1) := by decide +kernel
theorem dL_sort_69 : decode cL_sort 69 = .ok (.iadd, 1) := by decide +kernel
theorem dL_sort_70 : decode cL_sort 70 = .ok (.iload 4, 2) := by decide +kernel
theorem dL_sort_72 : decode cL_sort 72 = .ok (.iadd, 1) := by decide +kernel
theorem dL_sort_73 : decode cL_sort 73 = .ok (.iaload, 1) := by decide +kernel
theorem dL_sort_74 : decode cL_sort 74 = .ok (.iastore, 1) := by decide +kernel
theorem dL_sort_75 : decode cL_sort 75 = .ok (.aload_n 1, 1) := by decide +kernel
theorem dL_sort_76 : decode cL_sort 76 = .ok (.iconst 5, 1) := by decide +kernel
theorem dL_sort_77 : decode cL_sort 77 = .ok (.iload_n 3, 1) := by decide +kernel
theorem dL_sort_78 : decode cL_sort 78 = .ok (.imul, 1) := by decide +kernel
theorem dL_sort_79 : decode cL_sort 79 = .ok (.iconst 5, 1) := by decide +kernel
theorem dL_sort_80 : decode cL_sort 80 = .ok (.iadd, 1) := by decide +kernel
theorem dL_sort_81 : decode cL_sort 81 = .ok (.iload 4, 2) := by decide +kernel
theorem dL_sort_83 : decode cL_sort 83 = .ok (.iadd, 1) := by decide +kernel
theorem dL_sort_84 : decode cL_sort 84 = .ok (.iload 5, 2) := by decide +kernel
theorem dL_sort_86 : decode cL_sort 86 = .ok (.iastore, 1) := by decide +kernel
theorem dL_sort_87 : decode cL_sort 87 = .ok (.iinc 4 1, 3) := by decide +kernel
theorem dL_sort_90 : decode cL_sort 90 = .ok (.goto (-49), 3) := by decide +kernel
theorem dL_sort_93 : decode cL_sort 93 = .ok (.iinc 3 1, 3) := by decide +kernel
theorem dL_sort_96 : decode cL_sort 96 = .ok (.goto (-85), 3) := by decide +kernel
theorem dL_sort_99 : decode cL_sort 99 = .ok (.iinc 2 1, 3) := by decide +kernel
theorem dL_sort_102 : decode cL_sort 102 = .ok (.goto (-100), 3) := by decide +kernel
theorem dL_sort_105 : decode cL_sort 105 = .ok (.return_, 1) := by decide +kernel
theorem dL_add_0 : decode cL_add 0 = .ok (.iconst 5, 1) := by decide +kernel
theorem dL_add_1 : decode cL_add 1 = .ok (.aload 5, 2) := by decide +kernel
theorem dL_add_3 : decode cL_add 3 = .ok (.iconst 4, 1) := by decide +kernel
theorem dL_add_4 : decode cL_add 4 = .ok (.dup2, 1) := by decide +kernel
theorem dL_add_5 : decode cL_add 5 = .ok (.iaload, 1) := by decide +kernel
theorem dL_add_6 : decode cL_add 6 = .ok (.dup_x2, 1) := by decide +kernel
theorem dL_add_7 : decode cL_add 7 = .ok (.iconst 1, 1) := by decide +kernel
theorem dL_add_8 : decode cL_add 8 = .ok (.iadd, 1) := by decide +kernel
theorem dL_add_9 : decode cL_add 9 = .ok (.iastore, 1) := by decide +kernel
theorem dL_add_10 : decode cL_add 10 = .ok (.imul, 1) := by decide +kernel
theorem dL_add_11 : decode cL_add 11 = .ok (.istore 7, 2) := by decide +kernel
theorem dL_add_13 : decode cL_add 13 = .ok (.aload 6, 2) := by decide +kernel
theorem dL_add_15 : decode cL_add 15 = .ok (.iload 7, 2) := by decide +kernel
theorem dL_add_17 : decode cL_add 17 = .ok (.bipush 100, 2) := by decide +kernel
theorem dL_add_19 : decode cL_add 19 = .ok (.iload_n 1, 1) := by decide +kernel
theorem dL_add_20 : decode cL_add 20 = .ok (.imul, 1) := by decide +kernel
theorem dL_add_21 : decode cL_add 21 = .ok (.iload_n 0, 1) := by decide +kernel
theorem dL_add_22 : decode cL_add 22 = .ok (.iadd, 1) := by decide +kernel
theorem dL_add_23 : decode cL_add 23 = .ok (.iastore, 1) := by decide +kernel
theorem dL_add_24 : decode cL_add 24 = .ok (.aload 6, 2) := by decide +kernel
theorem dL_add_26 : decode cL_add 26 = .ok (.iload 7, 2) := by decide +kernel
theorem dL_add_28 : decode cL_add 28 = .ok (.iconst 1, 1) := by decide +kernel
theorem dL_add_29 : decode cL_add 29 = .ok (.iadd, 1) := by decide +kernel
theorem dL_add_30 : decode cL_add 30 = .ok (.iload_n 2, 1) := by decide +kernel
theorem dL_add_31 : decode cL_add 31 = .ok (.iastore, 1) := by decide +kernel
theorem dL_add_32 : decode cL_add 32 = .ok (.aload 6, 2) := by decide +kernel
theorem dL_add_34 : decode cL_add 34 = .ok (.iload 7, 2) := by decide +kernel
theorem dL_add_36 : decode cL_add 36 = .ok (.iconst 2, 1) := by decide +kernel
theorem dL_add_37 : decode cL_add 37 = .ok (.iadd, 1) := by decide +kernel
theorem dL_add_38 : decode cL_add 38 = .ok (.iload_n 3, 1) := by decide +kernel
theorem dL_add_39 : decode cL_add 39 = .ok (.iastore, 1) := by decide +kernel
theorem dL_add_40 : decode cL_add 40 = .ok (.aload 6, 2) := by decide +kernel
theorem dL_add_42 : decode cL_add 42 = .ok (.iload 7, 2) := by decide +kernel
theorem dL_add_44 : decode cL_add 44 = .ok (.iconst 3, 1) := by decide +kernel
theorem dL_add_45 : decode cL_add 45 = .ok (.iadd, 1) := by decide +kernel
theorem dL_add_46 : decode cL_add 46 = .ok (.iload 4, 2) := by decide +kernel
theorem dL_add_48 : decode cL_add 48 = .ok (.iastore, 1) := by decide +kernel
theorem dL_add_49 : decode cL_add 49 = .ok (.return_, 1) := by decide +kernel
set_option maxRecDepth 20000 in
theorem ggL_same_L_weak : GoodIn wsL_same wsL_weak := goodIn_r _ [4, 5, 6, 3, 7, 8, 9, 10, 11, 12, 13] (by decide +kernel) (by decide +kernel)
set_option maxRecDepth 20000 in
theorem gL_same_L_weak : GoodIn wsL_same (va_wsS RL 24 yL_weak wsL_weak) := goodIn_app (goodIn_of _ (by decide +kernel)) ggL_same_L_weak
set_option maxRecDepth 20000 in
theorem ggL_same_L_heard : GoodIn wsL_same wsL_heard := goodIn_r _ [16] (by decide +kernel) (by decide +kernel)
set_option maxRecDepth 20000 in
theorem gL_same_L_heard : GoodIn wsL_same (va_wsS RL 28 yL_heard wsL_heard) := goodIn_app (goodIn_of _ (by decide +kernel)) ggL_same_L_heard
set_option maxRecDepth 20000 in
theorem ggL_same_L_side : GoodIn wsL_same wsL_side := goodIn_r _ [13] (by decide +kernel) (by decide +kernel)
set_option maxRecDepth 20000 in
theorem gL_same_L_side : GoodIn wsL_same (va_wsS RL 20 yL_side wsL_side) := goodIn_app (goodIn_of _ (by decide +kernel)) ggL_same_L_side
set_option maxRecDepth 20000 in
theorem ggL_same_X4_at : GoodIn wsL_same wsX4_at := goodIn_r _ [21, 22, 23, 24, 25, 20, 26, 27, 28, 29, 30, 31, 32, 33, 34, 35, 36, 37, 38, 39, 40, 41, 42, 43, 44, 45, 46, 47, 48, 49, 50, 51, 52, 53, 54, 55, 56, 57, 58, 59, 60, 61, 62, 63, 64, 65, 66, 67, 68, 69, 70, 71, 72, 73, 74, 75, 76, 77, 78, 79, 80, 81, 82, 83, 84, 85, 86, 87, 88, 89, 90, 91, 92, 93, 94, 95, 96, 97, 98, 99, 100, 101, 102, 103, 104, 105, 106, 107, 108, 109, 110, 111, 112, 113, 114, 115, 116, 117, 118, 119, 120, 121, 122, 123, 124, 125, 126, 127, 246, 247, 248, 249, 250, 251, 252, 253, 254, 255, 256, 257, 258, 259, 260, 261, 262] (by decide +kernel) (by decide +kernel)
set_option maxRecDepth 20000 in
theorem gL_same_X4_at : GoodIn wsL_same (wsV RL 32 RX4 yX4_at wsX4_at) := goodIn_app (goodIn_of _ (by decide +kernel)) ggL_same_X4_at
set_option maxRecDepth 20000 in
theorem ggL_same_L_hole : GoodIn wsL_same wsL_hole := goodIn_r _ [10] (by decide +kernel) (by decide +kernel)
set_option maxRecDepth 20000 in
theorem gL_same_L_hole : GoodIn wsL_same (va_wsS RL 10 yL_hole wsL_hole) := goodIn_app (goodIn_of _ (by decide +kernel)) ggL_same_L_hole
set_option maxRecDepth 20000 in
theorem ggL_same_X4_of : GoodIn wsL_same wsX4_of := goodIn_r _ [131, 23, 22, 132, 58, 59, 40, 60, 51, 133, 53, 54, 55, 56, 57, 134, 62, 63, 64, 65, 135, 67, 68, 69, 70, 136, 78, 79, 80, 81, 137, 89, 90, 91, 92, 125, 126, 20, 127, 138, 139, 140, 141, 75, 76, 142, 72, 73, 74, 42, 77, 143, 144, 145, 146, 147, 98, 99, 100, 30, 31, 32, 33, 34, 35, 36, 37, 38, 39, 41, 28, 29, 43, 44, 45, 46, 47, 48, 49, 50, 52, 61, 66, 71, 82, 83, 84, 85, 86, 87, 27, 25, 26, 88, 93, 94, 95, 96, 97, 101, 102, 103, 104, 105, 148, 149, 150, 151, 152, 153, 154, 155, 156, 108, 109, 110, 246, 247, 248, 249, 250, 251, 252, 256, 257, 258, 259, 260, 261, 262, 253, 254, 255] (by decide +kernel) (by decide +kernel)
set_option maxRecDepth 20000 in
theorem gL_same_X4_of : GoodIn wsL_same (wsV RL 38 RX4 yX4_of wsX4_of) := goodIn_app (goodIn_of _ (by decide +kernel)) ggL_same_X4_of
set_option maxRecDepth 20000 in
theorem ggL_same_L_low : GoodIn wsL_same wsL_low := goodIn_r _ [159, 160] (by decide +kernel) (by decide +kernel)
set_option maxRecDepth 20000 in
theorem gL_same_L_low : GoodIn wsL_same (va_wsS RL 41 yL_low wsL_low) := goodIn_app (goodIn_of _ (by decide +kernel)) ggL_same_L_low
set_option maxRecDepth 20000 in
theorem ggL_same_X4_sound : GoodIn wsL_same wsX4_sound := goodIn_r _ [164, 22, 23, 165, 86, 20, 87, 27, 28, 29, 30, 31, 32, 33, 34, 35, 36, 37, 38, 39, 40, 41, 42, 43, 44, 45, 46, 47, 48, 49, 50, 51, 52, 53, 54, 55, 56, 57, 58, 59, 60, 61, 62, 63, 64, 65, 66, 67, 68, 69, 70, 71, 72, 73, 74, 75, 76, 77, 78, 79, 80, 81, 82, 83, 84, 85, 25, 26, 88, 89, 90, 91, 92, 93, 94, 95, 96, 97, 98, 99, 100, 101, 102, 103, 104, 105, 166, 167, 168, 169, 170, 171, 172, 173, 174, 153, 154, 155, 156, 108, 109, 110, 175, 176, 177, 178, 179, 180, 181, 182, 115, 246, 247, 248, 249, 250, 251, 252, 253, 254, 255, 256, 257, 258, 259, 260, 261, 262] (by decide +kernel) (by decide +kernel)
set_option maxRecDepth 20000 in
theorem gL_same_X4_sound : GoodIn wsL_same (wsV RL 44 RX4 yX4_sound wsX4_sound) := goodIn_app (goodIn_of _ (by decide +kernel)) ggL_same_X4_sound
set_option maxRecDepth 20000 in
theorem ggL_same_X4_swallowed : GoodIn wsL_same wsX4_swallowed := goodIn_r _ [186, 22, 23, 165, 86, 20, 87, 27, 28, 29, 30, 31, 32, 33, 34, 35, 36, 37, 38, 39, 40, 41, 42, 43, 44, 45, 46, 47, 48, 49, 50, 51, 52, 53, 54, 55, 56, 57, 58, 59, 60, 61, 62, 63, 64, 65, 66, 67, 68, 69, 70, 71, 72, 73, 74, 75, 76, 77, 78, 79, 80, 81, 82, 83, 84, 85, 25, 26, 88, 89, 90, 91, 92, 93, 94, 95, 96, 97, 98, 99, 100, 101, 102, 103, 104, 105, 187, 133, 134, 152, 153, 154, 155, 156, 108, 109, 110, 246, 247, 248, 249, 250, 251, 252, 253, 254, 255, 256, 257, 258, 259, 260, 261, 262] (by decide +kernel) (by decide +kernel)
set_option maxRecDepth 20000 in
theorem gL_same_X4_swallowed : GoodIn wsL_same (wsV RL 48 RX4 yX4_swallowed wsX4_swallowed) := goodIn_app (goodIn_of _ (by decide +kernel)) ggL_same_X4_swallowed
end
section
set_option maxRecDepth 20000 in
theorem ggL_same_X4_count : GoodIn wsL_same wsX4_count := goodIn_r _ [191, 22, 23, 192, 193, 30, 31, 32, 33, 34, 35, 36, 37, 38, 39, 40, 41, 42, 28, 20, 29, 43, 44, 45, 46, 47, 48, 49, 50, 51, 52, 53, 54, 55, 56, 57, 58, 59, 60, 61, 62, 63, 64, 65, 66, 67, 68, 69, 70, 71, 72, 73, 74, 75, 76, 77, 78, 79, 80, 81, 82, 83, 84, 85, 86, 87, 27, 25, 26, 88, 89, 90, 91, 92, 93, 94, 95, 96, 97, 98, 99, 100, 101, 102, 103, 104, 105, 187, 194, 195, 196, 197, 198, 199, 200, 201, 202, 203, 204, 205, 206, 207, 208, 209, 121, 122, 123, 124, 117, 118, 119, 210, 211, 212, 213, 214, 215, 216, 217, 218, 219, 220, 221, 222, 223, 224, 170, 171, 172, 173, 174, 153, 154, 155, 156, 108, 109, 110, 225, 226, 227, 228, 148, 149, 150, 151, 134, 135, 133, 152, 229, 230, 231, 232, 147, 233, 234, 235, 236, 237, 238, 239, 240, 241, 242, 243, 244, 245, 246, 247, 248, 249, 250, 251, 252, 253, 254, 255, 256, 257, 258, 259, 260, 261, 262, 263, 264, 265, 266, 267, 268, 269, 270, 271, 272, 273] (by decide +kernel) (by decide +kernel)
set_option maxRecDepth 20000 in
theorem gL_same_X4_count : GoodIn wsL_same (wsV RL 51 RX4 yX4_count wsX4_count) := goodIn_app (goodIn_of _ (by decide +kernel)) ggL_same_X4_count
theorem dL_same_0 : decode cL_same 0 = .ok (.aload_n 2, 1) := by decide +kernel
theorem dL_same_1 : decode cL_same 1 = .ok (.aload_n 3, 1) := by decide +kernel
theorem dL_same_2 : decode cL_same 2 = .ok (.aload 4, 2) := by decide +kernel
theorem dL_same_4 : decode cL_same 4 = .ok (.invokestatic 24, 3) := by decide +kernel
theorem dL_same_7 : decode cL_same 7 = .ok (.istore 5, 2) := by decide +kernel
theorem dL_same_9 : decode cL_same 9 = .ok (.iconst 0, 1) := by decide +kernel
theorem dL_same_10 : decode cL_same 10 = .ok (.istore 6, 2) := by decide +kernel
theorem dL_same_12 : decode cL_same 12 = .ok (.bipush (-6), 2) := by decide +kernel
theorem dL_same_14 : decode cL_same 14 = .ok (.istore 7, 2) := by decide +kernel
theorem dL_same_16 : decode cL_same 16 = .ok (.iconst 0, 1) := by decide +kernel
theorem dL_same_17 : decode cL_same 17 = .ok (.istore 8, 2) := by decide +kernel
theorem dL_same_19 : decode cL_same 19 = .ok (.iconst 0, 1) := by decide +kernel
theorem dL_same_20 : decode cL_same 20 = .ok (.istore 9, 2) := by decide +kernel
theorem dL_same_22 : decode cL_same 22 = .ok (.bipush (-6), 2) := by decide +kernel
theorem dL_same_24 : decode cL_same 24 = .ok (.istore 10, 2) := by decide +kernel
theorem dL_same_26 : decode cL_same 26 = .ok (.iconst 0, 1) := by decide +kernel
theorem dL_same_27 : decode cL_same 27 = .ok (.istore 11, 2) := by decide +kernel
theorem dL_same_29 : decode cL_same 29 = .ok (.iload 11, 2) := by decide +kernel
theorem dL_same_31 : decode cL_same 31 = .ok (.bipush 64, 2) := by decide +kernel
theorem dL_same_33 : decode cL_same 33 = .ok (.if_icmp .ge 279, 3) := by decide +kernel
theorem dL_same_36 : decode cL_same 36 = .ok (.iconst 0, 1) := by decide +kernel
theorem dL_same_37 : decode cL_same 37 = .ok (.istore 12, 2) := by decide +kernel
theorem dL_same_39 : decode cL_same 39 = .ok (.iload 11, 2) := by decide +kernel
theorem dL_same_41 : decode cL_same 41 = .ok (.aload_n 2, 1) := by decide +kernel
theorem dL_same_42 : decode cL_same 42 = .ok (.aload 4, 2) := by decide +kernel
theorem dL_same_44 : decode cL_same 44 = .ok (.invokestatic 28, 3) := by decide +kernel
theorem dL_same_47 : decode cL_same 47 = .ok (.istore 13, 2) := by decide +kernel
theorem dL_same_49 : decode cL_same 49 = .ok (.iload 13, 2) := by decide +kernel
theorem dL_same_51 : decode cL_same 51 = .ok (.iload 11, 2) := by decide +kernel
theorem dL_same_53 : decode cL_same 53 = .ok (.ifCond .ne 7, 3) := by decide +kernel
theorem dL_same_56 : decode cL_same 56 = .ok (.iconst 0, 1) := by decide +kernel
theorem dL_same_57 : decode cL_same 57 = .ok (.goto 13, 3) := by decide +kernel
theorem dL_same_60 : decode cL_same 60 = .ok (.iload 11, 2) := by decide +kernel
theorem dL_same_62 : decode cL_same 62 = .ok (.iconst 1, 1) := by decide +kernel
theorem dL_same_63 : decode cL_same 63 = .ok (.isub, 1) := by decide +kernel
theorem dL_same_64 : decode cL_same 64 = .ok (.aload_n 2, 1) := by decide +kernel
theorem dL_same_65 : decode cL_same 65 = .ok (.aload 4, 2) := by decide +kernel
theorem dL_same_67 : decode cL_same 67 = .ok (.invokestatic 28, 3) := by decide +kernel
theorem dL_same_70 : decode cL_same 70 = .ok (.iconst (-1), 1) := by decide +kernel
theorem dL_same_71 : decode cL_same 71 = .ok (.ixor, 1) := by decide +kernel
theorem dL_same_72 : decode cL_same 72 = .ok (.iand, 1) := by decide +kernel
theorem dL_same_73 : decode cL_same 73 = .ok (.istore 14, 2) := by decide +kernel
theorem dL_same_75 : decode cL_same 75 = .ok (.iconst 0, 1) := by decide +kernel
theorem dL_same_76 : decode cL_same 76 = .ok (.istore 15, 2) := by decide +kernel
theorem dL_same_78 : decode cL_same 78 = .ok (.iload 15, 2) := by decide +kernel
theorem dL_same_80 : decode cL_same 80 = .ok (.aload_n 2, 1) := by decide +kernel
theorem dL_same_81 : decode cL_same 81 = .ok (.iconst 4, 1) := by decide +kernel
theorem dL_same_82 : decode cL_same 82 = .ok (.iaload, 1) := by decide +kernel
theorem dL_same_83 : decode cL_same 83 = .ok (.if_icmp .ge 56, 3) := by decide +kernel
theorem dL_same_86 : decode cL_same 86 = .ok (.iload 12, 2) := by decide +kernel
theorem dL_same_88 : decode cL_same 88 = .ok (.aload_n 3, 1) := by decide +kernel
theorem dL_same_89 : decode cL_same 89 = .ok (.iconst 5, 1) := by decide +kernel
theorem dL_same_90 : decode cL_same 90 = .ok (.iload 15, 2) := by decide +kernel
theorem dL_same_92 : decode cL_same 92 = .ok (.imul, 1) := by decide +kernel
theorem dL_same_93 : decode cL_same 93 = .ok (.iaload, 1) := by decide +kernel
theorem dL_same_94 : decode cL_same 94 = .ok (.bipush 100, 2) := by decide +kernel
theorem dL_same_96 : decode cL_same 96 = .ok (.idiv, 1) := by decide +kernel
theorem dL_same_97 : decode cL_same 97 = .ok (.iload 11, 2) := by decide +kernel
theorem dL_same_99 : decode cL_same 99 = .ok (.if_icmp .gt 30, 3) := by decide +kernel
theorem dL_same_102 : decode cL_same 102 = .ok (.iload 11, 2) := by decide +kernel
theorem dL_same_104 : decode cL_same 104 = .ok (.aload_n 3, 1) := by decide +kernel
theorem dL_same_105 : decode cL_same 105 = .ok (.iconst 5, 1) := by decide +kernel
theorem dL_same_106 : decode cL_same 106 = .ok (.iload 15, 2) := by decide +kernel
theorem dL_same_108 : decode cL_same 108 = .ok (.imul, 1) := by decide +kernel
theorem dL_same_109 : decode cL_same 109 = .ok (.iconst 1, 1) := by decide +kernel
theorem dL_same_110 : decode cL_same 110 = .ok (.iadd, 1) := by decide +kernel
theorem dL_same_111 : decode cL_same 111 = .ok (.iaload, 1) := by decide +kernel
theorem dL_same_112 : decode cL_same 112 = .ok (.if_icmp .gt 17, 3) := by decide +kernel
theorem dL_same_115 : decode cL_same 115 = .ok (.iconst 1, 1) := by decide +kernel
theorem dL_same_116 : decode cL_same 116 = .ok (.aload_n 3, 1) := by decide +kernel
theorem dL_same_117 : decode cL_same 117 = .ok (.iconst 5, 1) := by decide +kernel
theorem dL_same_118 : decode cL_same 118 = .ok (.iload 15, 2) := by decide +kernel
theorem dL_same_120 : decode cL_same 120 = .ok (.imul, 1) := by decide +kernel
theorem dL_same_121 : decode cL_same 121 = .ok (.iaload, 1) := by decide +kernel
theorem dL_same_122 : decode cL_same 122 = .ok (.bipush 100, 2) := by decide +kernel
theorem dL_same_124 : decode cL_same 124 = .ok (.irem, 1) := by decide +kernel
theorem dL_same_125 : decode cL_same 125 = .ok (.ishl, 1) := by decide +kernel
theorem dL_same_126 : decode cL_same 126 = .ok (.goto 4, 3) := by decide +kernel
theorem dL_same_129 : decode cL_same 129 = .ok (.iconst 0, 1) := by decide +kernel
theorem dL_same_130 : decode cL_same 130 = .ok (.ior, 1) := by decide +kernel
theorem dL_same_131 : decode cL_same 131 = .ok (.istore 12, 2) := by decide +kernel
theorem dL_same_133 : decode cL_same 133 = .ok (.iinc 15 1, 3) := by decide +kernel
theorem dL_same_136 : decode cL_same 136 = .ok (.goto (-58), 3) := by decide +kernel
theorem dL_same_139 : decode cL_same 139 = .ok (.aload 4, 2) := by decide +kernel
theorem dL_same_141 : decode cL_same 141 = .ok (.iload 11, 2) := by decide +kernel
theorem dL_same_143 : decode cL_same 143 = .ok (.iaload, 1) := by decide +kernel
theorem dL_same_144 : decode cL_same 144 = .ok (.istore 15, 2) := by decide +kernel
theorem dL_same_146 : decode cL_same 146 = .ok (.iload 15, 2) := by decide +kernel
theorem dL_same_148 : decode cL_same 148 = .ok (.ifCond .eq 18, 3) := by decide +kernel
theorem dL_same_151 : decode cL_same 151 = .ok (.iinc 6 1, 3) := by decide +kernel
theorem dL_same_154 : decode cL_same 154 = .ok (.iload 15, 2) := by decide +kernel
theorem dL_same_156 : decode cL_same 156 = .ok (.iload 15, 2) := by decide +kernel
theorem dL_same_158 : decode cL_same 158 = .ok (.iconst 1, 1) := by decide +kernel
theorem dL_same_159 : decode cL_same 159 = .ok (.isub, 1) := by decide +kernel
theorem dL_same_160 : decode cL_same 160 = .ok (.iand, 1) := by decide +kernel
theorem dL_same_161 : decode cL_same 161 = .ok (.istore 15, 2) := by decide +kernel
theorem dL_same_163 : decode cL_same 163 = .ok (.goto (-17), 3) := by decide +kernel
theorem dL_same_166 : decode cL_same 166 = .ok (.iload 14, 2) := by decide +kernel
theorem dL_same_168 : decode cL_same 168 = .ok (.istore 15, 2) := by decide +kernel
theorem dL_same_170 : decode cL_same 170 = .ok (.iload 15, 2) := by decide +kernel
theorem dL_same_172 : decode cL_same 172 = .ok (.ifCond .eq 18, 3) := by decide +kernel
theorem dL_same_175 : decode cL_same 175 = .ok (.iinc 8 1, 3) := by decide +kernel
theorem dL_same_178 : decode cL_same 178 = .ok (.iload 15, 2) := by decide +kernel
theorem dL_same_180 : decode cL_same 180 = .ok (.iload 15, 2) := by decide +kernel
theorem dL_same_182 : decode cL_same 182 = .ok (.iconst 1, 1) := by decide +kernel
theorem dL_same_183 : decode cL_same 183 = .ok (.isub, 1) := by decide +kernel
theorem dL_same_184 : decode cL_same 184 = .ok (.iand, 1) := by decide +kernel
theorem dL_same_185 : decode cL_same 185 = .ok (.istore 15, 2) := by decide +kernel
theorem dL_same_187 : decode cL_same 187 = .ok (.goto (-17), 3) := by decide +kernel
theorem dL_same_190 : decode cL_same 190 = .ok (.iload 7, 2) := by decide +kernel
theorem dL_same_192 : decode cL_same 192 = .ok (.ifCond .ge 22, 3) := by decide +kernel
theorem dL_same_195 : decode cL_same 195 = .ok (.aload 4, 2) := by decide +kernel
theorem dL_same_197 : decode cL_same 197 = .ok (.iload 11, 2) := by decide +kernel
theorem dL_same_199 : decode cL_same 199 = .ok (.iaload, 1) := by decide +kernel
theorem dL_same_200 : decode cL_same 200 = .ok (.invokestatic 20, 3) := by decide +kernel
theorem dL_same_203 : decode cL_same 203 = .ok (.aload_n 2, 1) := by decide +kernel
theorem dL_same_204 : decode cL_same 204 = .ok (.iconst 3, 1) := by decide +kernel
theorem dL_same_205 : decode cL_same 205 = .ok (.iaload, 1) := by decide +kernel
theorem dL_same_206 : decode cL_same 206 = .ok (.if_icmp .lt 8, 3) := by decide +kernel
theorem dL_same_209 : decode cL_same 209 = .ok (.iload 11, 2) := by decide +kernel
theorem dL_same_211 : decode cL_same 211 = .ok (.goto 5, 3) := by decide +kernel
theorem dL_same_214 : decode cL_same 214 = .ok (.iload 7, 2) := by decide +kernel
theorem dL_same_216 : decode cL_same 216 = .ok (.istore 7, 2) := by decide +kernel
theorem dL_same_218 : decode cL_same 218 = .ok (.aload_n 0, 1) := by decide +kernel
theorem dL_same_219 : decode cL_same 219 = .ok (.iload 11, 2) := by decide +kernel
theorem dL_same_221 : decode cL_same 221 = .ok (.iconst 0, 1) := by decide +kernel
theorem dL_same_222 : decode cL_same 222 = .ok (.invokevirtual 32, 3) := by decide +kernel
theorem dL_same_225 : decode cL_same 225 = .ok (.aload 4, 2) := by decide +kernel
theorem dL_same_227 : decode cL_same 227 = .ok (.iload 11, 2) := by decide +kernel
theorem dL_same_229 : decode cL_same 229 = .ok (.iaload, 1) := by decide +kernel
theorem dL_same_230 : decode cL_same 230 = .ok (.if_icmp .ne 74, 3) := by decide +kernel
theorem dL_same_233 : decode cL_same 233 = .ok (.aload_n 0, 1) := by decide +kernel
theorem dL_same_234 : decode cL_same 234 = .ok (.iload 11, 2) := by decide +kernel
theorem dL_same_236 : decode cL_same 236 = .ok (.iconst 1, 1) := by decide +kernel
theorem dL_same_237 : decode cL_same 237 = .ok (.invokevirtual 32, 3) := by decide +kernel
theorem dL_same_240 : decode cL_same 240 = .ok (.iload 13, 2) := by decide +kernel
theorem dL_same_242 : decode cL_same 242 = .ok (.if_icmp .ne 62, 3) := by decide +kernel
theorem dL_same_245 : decode cL_same 245 = .ok (.aload_n 0, 1) := by decide +kernel
theorem dL_same_246 : decode cL_same 246 = .ok (.iload 11, 2) := by decide +kernel
theorem dL_same_248 : decode cL_same 248 = .ok (.iconst 2, 1) := by decide +kernel
theorem dL_same_249 : decode cL_same 249 = .ok (.invokevirtual 32, 3) := by decide +kernel
theorem dL_same_252 : decode cL_same 252 = .ok (.iload 12, 2) := by decide +kernel
theorem dL_same_254 : decode cL_same 254 = .ok (.if_icmp .ne 50, 3) := by decide +kernel
theorem dL_same_257 : decode cL_same 257 = .ok (.aload_n 0, 1) := by decide +kernel
theorem dL_same_258 : decode cL_same 258 = .ok (.iload 11, 2) := by decide +kernel
theorem dL_same_260 : decode cL_same 260 = .ok (.iconst 3, 1) := by decide +kernel
theorem dL_same_261 : decode cL_same 261 = .ok (.invokevirtual 32, 3) := by decide +kernel
theorem dL_same_264 : decode cL_same 264 = .ok (.aload 4, 2) := by decide +kernel
theorem dL_same_266 : decode cL_same 266 = .ok (.iload 11, 2) := by decide +kernel
theorem dL_same_268 : decode cL_same 268 = .ok (.iaload, 1) := by decide +kernel
theorem dL_same_269 : decode cL_same 269 = .ok (.invokestatic 20, 3) := by decide +kernel
theorem dL_same_272 : decode cL_same 272 = .ok (.if_icmp .ne 32, 3) := by decide +kernel
theorem dL_same_275 : decode cL_same 275 = .ok (.aload_n 0, 1) := by decide +kernel
theorem dL_same_276 : decode cL_same 276 = .ok (.iload 11, 2) := by decide +kernel
theorem dL_same_278 : decode cL_same 278 = .ok (.iconst 4, 1) := by decide +kernel
theorem dL_same_279 : decode cL_same 279 = .ok (.invokevirtual 32, 3) := by decide +kernel
theorem dL_same_282 : decode cL_same 282 = .ok (.aload 4, 2) := by decide +kernel
theorem dL_same_284 : decode cL_same 284 = .ok (.iload 11, 2) := by decide +kernel
theorem dL_same_286 : decode cL_same 286 = .ok (.iaload, 1) := by decide +kernel
theorem dL_same_287 : decode cL_same 287 = .ok (.invokestatic 20, 3) := by decide +kernel
theorem dL_same_290 : decode cL_same 290 = .ok (.aload_n 2, 1) := by decide +kernel
theorem dL_same_291 : decode cL_same 291 = .ok (.iconst 3, 1) := by decide +kernel
theorem dL_same_292 : decode cL_same 292 = .ok (.iaload, 1) := by decide +kernel
theorem dL_same_293 : decode cL_same 293 = .ok (.if_icmp .lt 7, 3) := by decide +kernel
theorem dL_same_296 : decode cL_same 296 = .ok (.iconst 1, 1) := by decide +kernel
theorem dL_same_297 : decode cL_same 297 = .ok (.goto 4, 3) := by decide +kernel
theorem dL_same_300 : decode cL_same 300 = .ok (.iconst 0, 1) := by decide +kernel
theorem dL_same_301 : decode cL_same 301 = .ok (.if_icmp .eq 5, 3) := by decide +kernel
theorem dL_same_304 : decode cL_same 304 = .ok (.iconst 0, 1) := by decide +kernel
theorem dL_same_305 : decode cL_same 305 = .ok (.ireturn, 1) := by decide +kernel
theorem dL_same_306 : decode cL_same 306 = .ok (.iinc 11 1, 3) := by decide +kernel
theorem dL_same_309 : decode cL_same 309 = .ok (.goto (-280), 3) := by decide +kernel
theorem dL_same_312 : decode cL_same 312 = .ok (.iconst 0, 1) := by decide +kernel
theorem dL_same_313 : decode cL_same 313 = .ok (.istore 11, 2) := by decide +kernel
theorem dL_same_315 : decode cL_same 315 = .ok (.iload 11, 2) := by decide +kernel
theorem dL_same_317 : decode cL_same 317 = .ok (.aload_n 2, 1) := by decide +kernel
theorem dL_same_318 : decode cL_same 318 = .ok (.iconst 4, 1) := by decide +kernel
theorem dL_same_319 : decode cL_same 319 = .ok (.iaload, 1) := by decide +kernel
theorem dL_same_320 : decode cL_same 320 = .ok (.if_icmp .ge 324, 3) := by decide +kernel
theorem dL_same_323 : decode cL_same 323 = .ok (.aload_n 3, 1) := by decide +kernel
theorem dL_same_324 : decode cL_same 324 = .ok (.iconst 5, 1) := by decide +kernel
theorem dL_same_325 : decode cL_same 325 = .ok (.iload 11, 2) := by decide +kernel
theorem dL_same_327 : decode cL_same 327 = .ok (.imul, 1) := by decide +kernel
theorem dL_same_328 : decode cL_same 328 = .ok (.iaload, 1) := by decide +kernel
theorem dL_same_329 : decode cL_same 329 = .ok (.bipush 100, 2) := by decide +kernel
theorem dL_same_331 : decode cL_same 331 = .ok (.irem, 1) := by decide +kernel
theorem dL_same_332 : decode cL_same 332 = .ok (.istore 12, 2) := by decide +kernel
theorem dL_same_334 : decode cL_same 334 = .ok (.iconst 0, 1) := by decide +kernel
theorem dL_same_335 : decode cL_same 335 = .ok (.istore 13, 2) := by decide +kernel
theorem dL_same_337 : decode cL_same 337 = .ok (.iconst 0, 1) := by decide +kernel
theorem dL_same_338 : decode cL_same 338 = .ok (.istore 14, 2) := by decide +kernel
theorem dL_same_340 : decode cL_same 340 = .ok (.iconst 0, 1) := by decide +kernel
theorem dL_same_341 : decode cL_same 341 = .ok (.istore 15, 2) := by decide +kernel
theorem dL_same_343 : decode cL_same 343 = .ok (.iconst 1, 1) := by decide +kernel
theorem dL_same_344 : decode cL_same 344 = .ok (.istore 16, 2) := by decide +kernel
theorem dL_same_346 : decode cL_same 346 = .ok (.aload_n 3, 1) := by decide +kernel
theorem dL_same_347 : decode cL_same 347 = .ok (.iconst 5, 1) := by decide +kernel
theorem dL_same_348 : decode cL_same 348 = .ok (.iload 11, 2) := by decide +kernel
theorem dL_same_350 : decode cL_same 350 = .ok (.imul, 1) := by decide +kernel
theorem dL_same_351 : decode cL_same 351 = .ok (.iaload, 1) := by decide +kernel
theorem dL_same_352 : decode cL_same 352 = .ok (.bipush 100, 2) := by decide +kernel
theorem dL_same_354 : decode cL_same 354 = .ok (.idiv, 1) := by decide +kernel
theorem dL_same_355 : decode cL_same 355 = .ok (.istore 17, 2) := by decide +kernel
theorem dL_same_357 : decode cL_same 357 = .ok (.iload 17, 2) := by decide +kernel
theorem dL_same_359 : decode cL_same 359 = .ok (.aload_n 3, 1) := by decide +kernel
theorem dL_same_360 : decode cL_same 360 = .ok (.iconst 5, 1) := by decide +kernel
theorem dL_same_361 : decode cL_same 361 = .ok (.iload 11, 2) := by decide +kernel
theorem dL_same_363 : decode cL_same 363 = .ok (.imul, 1) := by decide +kernel
theorem dL_same_364 : decode cL_same 364 = .ok (.iconst 1, 1) := by decide +kernel
theorem dL_same_365 : decode cL_same 365 = .ok (.iadd, 1) := by decide +kernel
theorem dL_same_366 : decode cL_same 366 = .ok (.iaload, 1) := by decide +kernel
theorem dL_same_367 : decode cL_same 367 = .ok (.if_icmp .gt 95, 3) := by decide +kernel
theorem dL_same_370 : decode cL_same 370 = .ok (.iload 11, 2) := by decide +kernel
theorem dL_same_372 : decode cL_same 372 = .ok (.iload 17, 2) := by decide +kernel
theorem dL_same_374 : decode cL_same 374 = .ok (.aload_n 2, 1) := by decide +kernel
theorem dL_same_375 : decode cL_same 375 = .ok (.aload_n 3, 1) := by decide +kernel
theorem dL_same_376 : decode cL_same 376 = .ok (.invokestatic 10, 3) := by decide +kernel
theorem dL_same_379 : decode cL_same 379 = .ok (.istore 18, 2) := by decide +kernel
theorem dL_same_381 : decode cL_same 381 = .ok (.iload 13, 2) := by decide +kernel
theorem dL_same_383 : decode cL_same 383 = .ok (.iload 18, 2) := by decide +kernel
theorem dL_same_385 : decode cL_same 385 = .ok (.ifCond .eq 7, 3) := by decide +kernel
theorem dL_same_388 : decode cL_same 388 = .ok (.iconst 0, 1) := by decide +kernel
theorem dL_same_389 : decode cL_same 389 = .ok (.goto 4, 3) := by decide +kernel
theorem dL_same_392 : decode cL_same 392 = .ok (.iconst 1, 1) := by decide +kernel
theorem dL_same_393 : decode cL_same 393 = .ok (.iadd, 1) := by decide +kernel
theorem dL_same_394 : decode cL_same 394 = .ok (.istore 13, 2) := by decide +kernel
theorem dL_same_396 : decode cL_same 396 = .ok (.iload 18, 2) := by decide +kernel
theorem dL_same_398 : decode cL_same 398 = .ok (.ifCond .eq 7, 3) := by decide +kernel
theorem dL_same_401 : decode cL_same 401 = .ok (.iconst 0, 1) := by decide +kernel
theorem dL_same_402 : decode cL_same 402 = .ok (.goto 7, 3) := by decide +kernel
theorem dL_same_405 : decode cL_same 405 = .ok (.iload 14, 2) := by decide +kernel
theorem dL_same_407 : decode cL_same 407 = .ok (.iconst 1, 1) := by decide +kernel
theorem dL_same_408 : decode cL_same 408 = .ok (.iadd, 1) := by decide +kernel
theorem dL_same_409 : decode cL_same 409 = .ok (.istore 14, 2) := by decide +kernel
theorem dL_same_411 : decode cL_same 411 = .ok (.iload 14, 2) := by decide +kernel
theorem dL_same_413 : decode cL_same 413 = .ok (.iload 15, 2) := by decide +kernel
theorem dL_same_415 : decode cL_same 415 = .ok (.if_icmp .le 8, 3) := by decide +kernel
theorem dL_same_418 : decode cL_same 418 = .ok (.iload 14, 2) := by decide +kernel
theorem dL_same_420 : decode cL_same 420 = .ok (.goto 5, 3) := by decide +kernel
theorem dL_same_423 : decode cL_same 423 = .ok (.iload 15, 2) := by decide +kernel
theorem dL_same_425 : decode cL_same 425 = .ok (.istore 15, 2) := by decide +kernel
theorem dL_same_427 : decode cL_same 427 = .ok (.iload 16, 2) := by decide +kernel
theorem dL_same_429 : decode cL_same 429 = .ok (.ifCond .eq 24, 3) := by decide +kernel
theorem dL_same_432 : decode cL_same 432 = .ok (.iload 17, 2) := by decide +kernel
theorem dL_same_434 : decode cL_same 434 = .ok (.aload_n 2, 1) := by decide +kernel
theorem dL_same_435 : decode cL_same 435 = .ok (.aload 4, 2) := by decide +kernel
theorem dL_same_437 : decode cL_same 437 = .ok (.invokestatic 28, 3) := by decide +kernel
theorem dL_same_440 : decode cL_same 440 = .ok (.iload 12, 2) := by decide +kernel
theorem dL_same_442 : decode cL_same 442 = .ok (.ishr, 1) := by decide +kernel
theorem dL_same_443 : decode cL_same 443 = .ok (.iconst 1, 1) := by decide +kernel
theorem dL_same_444 : decode cL_same 444 = .ok (.iand, 1) := by decide +kernel
theorem dL_same_445 : decode cL_same 445 = .ok (.iconst 1, 1) := by decide +kernel
theorem dL_same_446 : decode cL_same 446 = .ok (.if_icmp .ne 7, 3) := by decide +kernel
theorem dL_same_449 : decode cL_same 449 = .ok (.iconst 1, 1) := by decide +kernel
theorem dL_same_450 : decode cL_same 450 = .ok (.goto 4, 3) := by decide +kernel
theorem dL_same_453 : decode cL_same 453 = .ok (.iconst 0, 1) := by decide +kernel
theorem dL_same_454 : decode cL_same 454 = .ok (.istore 16, 2) := by decide +kernel
theorem dL_same_456 : decode cL_same 456 = .ok (.iinc 17 1, 3) := by decide +kernel
theorem dL_same_459 : decode cL_same 459 = .ok (.goto (-102), 3) := by decide +kernel
theorem dL_same_462 : decode cL_same 462 = .ok (.iload 9, 2) := by decide +kernel
theorem dL_same_464 : decode cL_same 464 = .ok (.iload 16, 2) := by decide +kernel
theorem dL_same_466 : decode cL_same 466 = .ok (.ifCond .eq 7, 3) := by decide +kernel
theorem dL_same_469 : decode cL_same 469 = .ok (.iconst 0, 1) := by decide +kernel
theorem dL_same_470 : decode cL_same 470 = .ok (.goto 4, 3) := by decide +kernel
theorem dL_same_473 : decode cL_same 473 = .ok (.iconst 1, 1) := by decide +kernel
theorem dL_same_474 : decode cL_same 474 = .ok (.iadd, 1) := by decide +kernel
theorem dL_same_475 : decode cL_same 475 = .ok (.istore 9, 2) := by decide +kernel
theorem dL_same_477 : decode cL_same 477 = .ok (.aload_n 3, 1) := by decide +kernel
theorem dL_same_478 : decode cL_same 478 = .ok (.iconst 5, 1) := by decide +kernel
theorem dL_same_479 : decode cL_same 479 = .ok (.iload 11, 2) := by decide +kernel
theorem dL_same_481 : decode cL_same 481 = .ok (.imul, 1) := by decide +kernel
theorem dL_same_482 : decode cL_same 482 = .ok (.iconst 1, 1) := by decide +kernel
theorem dL_same_483 : decode cL_same 483 = .ok (.iadd, 1) := by decide +kernel
theorem dL_same_484 : decode cL_same 484 = .ok (.iaload, 1) := by decide +kernel
theorem dL_same_485 : decode cL_same 485 = .ok (.iload 10, 2) := by decide +kernel
theorem dL_same_487 : decode cL_same 487 = .ok (.if_icmp .le 14, 3) := by decide +kernel
theorem dL_same_490 : decode cL_same 490 = .ok (.aload_n 3, 1) := by decide +kernel
theorem dL_same_491 : decode cL_same 491 = .ok (.iconst 5, 1) := by decide +kernel
theorem dL_same_492 : decode cL_same 492 = .ok (.iload 11, 2) := by decide +kernel
theorem dL_same_494 : decode cL_same 494 = .ok (.imul, 1) := by decide +kernel
theorem dL_same_495 : decode cL_same 495 = .ok (.iconst 1, 1) := by decide +kernel
theorem dL_same_496 : decode cL_same 496 = .ok (.iadd, 1) := by decide +kernel
theorem dL_same_497 : decode cL_same 497 = .ok (.iaload, 1) := by decide +kernel
theorem dL_same_498 : decode cL_same 498 = .ok (.goto 5, 3) := by decide +kernel
theorem dL_same_501 : decode cL_same 501 = .ok (.iload 10, 2) := by decide +kernel
theorem dL_same_503 : decode cL_same 503 = .ok (.istore 10, 2) := by decide +kernel
theorem dL_same_505 : decode cL_same 505 = .ok (.aload_n 0, 1) := by decide +kernel
theorem dL_same_506 : decode cL_same 506 = .ok (.iload 11, 2) := by decide +kernel
theorem dL_same_508 : decode cL_same 508 = .ok (.iconst 0, 1) := by decide +kernel
theorem dL_same_509 : decode cL_same 509 = .ok (.invokevirtual 38, 3) := by decide +kernel
theorem dL_same_512 : decode cL_same 512 = .ok (.iload 12, 2) := by decide +kernel
theorem dL_same_514 : decode cL_same 514 = .ok (.if_icmp .ne 122, 3) := by decide +kernel
theorem dL_same_517 : decode cL_same 517 = .ok (.aload_n 0, 1) := by decide +kernel
theorem dL_same_518 : decode cL_same 518 = .ok (.iload 11, 2) := by decide +kernel
theorem dL_same_520 : decode cL_same 520 = .ok (.iconst 1, 1) := by decide +kernel
theorem dL_same_521 : decode cL_same 521 = .ok (.invokevirtual 38, 3) := by decide +kernel
theorem dL_same_524 : decode cL_same 524 = .ok (.aload_n 3, 1) := by decide +kernel
theorem dL_same_525 : decode cL_same 525 = .ok (.iconst 5, 1) := by decide +kernel
theorem dL_same_526 : decode cL_same 526 = .ok (.iload 11, 2) := by decide +kernel
theorem dL_same_528 : decode cL_same 528 = .ok (.imul, 1) := by decide +kernel
theorem dL_same_529 : decode cL_same 529 = .ok (.iaload, 1) := by decide +kernel
theorem dL_same_530 : decode cL_same 530 = .ok (.bipush 100, 2) := by decide +kernel
theorem dL_same_532 : decode cL_same 532 = .ok (.idiv, 1) := by decide +kernel
theorem dL_same_533 : decode cL_same 533 = .ok (.if_icmp .ne 103, 3) := by decide +kernel
theorem dL_same_536 : decode cL_same 536 = .ok (.aload_n 0, 1) := by decide +kernel
theorem dL_same_537 : decode cL_same 537 = .ok (.iload 11, 2) := by decide +kernel
theorem dL_same_539 : decode cL_same 539 = .ok (.iconst 2, 1) := by decide +kernel
theorem dL_same_540 : decode cL_same 540 = .ok (.invokevirtual 38, 3) := by decide +kernel
theorem dL_same_543 : decode cL_same 543 = .ok (.aload_n 3, 1) := by decide +kernel
theorem dL_same_544 : decode cL_same 544 = .ok (.iconst 5, 1) := by decide +kernel
theorem dL_same_545 : decode cL_same 545 = .ok (.iload 11, 2) := by decide +kernel
theorem dL_same_547 : decode cL_same 547 = .ok (.imul, 1) := by decide +kernel
theorem dL_same_548 : decode cL_same 548 = .ok (.iconst 1, 1) := by decide +kernel
theorem dL_same_549 : decode cL_same 549 = .ok (.iadd, 1) := by decide +kernel
theorem dL_same_550 : decode cL_same 550 = .ok (.iaload, 1) := by decide +kernel
theorem dL_same_551 : decode cL_same 551 = .ok (.if_icmp .ne 85, 3) := by decide +kernel
theorem dL_same_554 : decode cL_same 554 = .ok (.aload_n 0, 1) := by decide +kernel
theorem dL_same_555 : decode cL_same 555 = .ok (.iload 11, 2) := by decide +kernel
theorem dL_same_557 : decode cL_same 557 = .ok (.iconst 3, 1) := by decide +kernel
theorem dL_same_558 : decode cL_same 558 = .ok (.invokevirtual 38, 3) := by decide +kernel
theorem dL_same_561 : decode cL_same 561 = .ok (.aload_n 3, 1) := by decide +kernel
theorem dL_same_562 : decode cL_same 562 = .ok (.iconst 5, 1) := by decide +kernel
theorem dL_same_563 : decode cL_same 563 = .ok (.iload 11, 2) := by decide +kernel
theorem dL_same_565 : decode cL_same 565 = .ok (.imul, 1) := by decide +kernel
theorem dL_same_566 : decode cL_same 566 = .ok (.iconst 2, 1) := by decide +kernel
theorem dL_same_567 : decode cL_same 567 = .ok (.iadd, 1) := by decide +kernel
theorem dL_same_568 : decode cL_same 568 = .ok (.iaload, 1) := by decide +kernel
theorem dL_same_569 : decode cL_same 569 = .ok (.if_icmp .ne 67, 3) := by decide +kernel
theorem dL_same_572 : decode cL_same 572 = .ok (.aload_n 0, 1) := by decide +kernel
theorem dL_same_573 : decode cL_same 573 = .ok (.iload 11, 2) := by decide +kernel
theorem dL_same_575 : decode cL_same 575 = .ok (.iconst 4, 1) := by decide +kernel
theorem dL_same_576 : decode cL_same 576 = .ok (.invokevirtual 38, 3) := by decide +kernel
theorem dL_same_579 : decode cL_same 579 = .ok (.aload_n 3, 1) := by decide +kernel
theorem dL_same_580 : decode cL_same 580 = .ok (.iconst 5, 1) := by decide +kernel
theorem dL_same_581 : decode cL_same 581 = .ok (.iload 11, 2) := by decide +kernel
theorem dL_same_583 : decode cL_same 583 = .ok (.imul, 1) := by decide +kernel
theorem dL_same_584 : decode cL_same 584 = .ok (.iconst 3, 1) := by decide +kernel
theorem dL_same_585 : decode cL_same 585 = .ok (.iadd, 1) := by decide +kernel
theorem dL_same_586 : decode cL_same 586 = .ok (.iaload, 1) := by decide +kernel
theorem dL_same_587 : decode cL_same 587 = .ok (.if_icmp .ne 49, 3) := by decide +kernel
theorem dL_same_590 : decode cL_same 590 = .ok (.aload_n 0, 1) := by decide +kernel
theorem dL_same_591 : decode cL_same 591 = .ok (.iload 11, 2) := by decide +kernel
theorem dL_same_593 : decode cL_same 593 = .ok (.iconst 5, 1) := by decide +kernel
theorem dL_same_594 : decode cL_same 594 = .ok (.invokevirtual 38, 3) := by decide +kernel
theorem dL_same_597 : decode cL_same 597 = .ok (.iload 13, 2) := by decide +kernel
theorem dL_same_599 : decode cL_same 599 = .ok (.if_icmp .ne 37, 3) := by decide +kernel
theorem dL_same_602 : decode cL_same 602 = .ok (.aload_n 0, 1) := by decide +kernel
theorem dL_same_603 : decode cL_same 603 = .ok (.iload 11, 2) := by decide +kernel
theorem dL_same_605 : decode cL_same 605 = .ok (.bipush 6, 2) := by decide +kernel
theorem dL_same_607 : decode cL_same 607 = .ok (.invokevirtual 38, 3) := by decide +kernel
theorem dL_same_610 : decode cL_same 610 = .ok (.iload 15, 2) := by decide +kernel
theorem dL_same_612 : decode cL_same 612 = .ok (.if_icmp .ne 24, 3) := by decide +kernel
theorem dL_same_615 : decode cL_same 615 = .ok (.aload_n 0, 1) := by decide +kernel
theorem dL_same_616 : decode cL_same 616 = .ok (.iload 11, 2) := by decide +kernel
theorem dL_same_618 : decode cL_same 618 = .ok (.bipush 7, 2) := by decide +kernel
theorem dL_same_620 : decode cL_same 620 = .ok (.invokevirtual 38, 3) := by decide +kernel
theorem dL_same_623 : decode cL_same 623 = .ok (.iload 16, 2) := by decide +kernel
theorem dL_same_625 : decode cL_same 625 = .ok (.ifCond .eq 7, 3) := by decide +kernel
theorem dL_same_628 : decode cL_same 628 = .ok (.iconst 1, 1) := by decide +kernel
theorem dL_same_629 : decode cL_same 629 = .ok (.goto 4, 3) := by decide +kernel
theorem dL_same_632 : decode cL_same 632 = .ok (.iconst 0, 1) := by decide +kernel
theorem dL_same_633 : decode cL_same 633 = .ok (.if_icmp .eq 5, 3) := by decide +kernel
theorem dL_same_636 : decode cL_same 636 = .ok (.iconst 0, 1) := by decide +kernel
theorem dL_same_637 : decode cL_same 637 = .ok (.ireturn, 1) := by decide +kernel
theorem dL_same_638 : decode cL_same 638 = .ok (.iinc 11 1, 3) := by decide +kernel
theorem dL_same_641 : decode cL_same 641 = .ok (.goto (-326), 3) := by decide +kernel
theorem dL_same_644 : decode cL_same 644 = .ok (.iload_n 1, 1) := by decide +kernel
theorem dL_same_645 : decode cL_same 645 = .ok (.bipush 12, 2) := by decide +kernel
theorem dL_same_647 : decode cL_same 647 = .ok (.invokestatic 41, 3) := by decide +kernel
theorem dL_same_650 : decode cL_same 650 = .ok (.istore 11, 2) := by decide +kernel
theorem dL_same_652 : decode cL_same 652 = .ok (.iconst 0, 1) := by decide +kernel
theorem dL_same_653 : decode cL_same 653 = .ok (.istore 12, 2) := by decide +kernel
theorem dL_same_655 : decode cL_same 655 = .ok (.iconst 0, 1) := by decide +kernel
theorem dL_same_656 : decode cL_same 656 = .ok (.istore 13, 2) := by decide +kernel
theorem dL_same_658 : decode cL_same 658 = .ok (.iconst 0, 1) := by decide +kernel
theorem dL_same_659 : decode cL_same 659 = .ok (.istore 14, 2) := by decide +kernel
theorem dL_same_661 : decode cL_same 661 = .ok (.iload 14, 2) := by decide +kernel
theorem dL_same_663 : decode cL_same 663 = .ok (.bipush 64, 2) := by decide +kernel
theorem dL_same_665 : decode cL_same 665 = .ok (.if_icmp .ge 280, 3) := by decide +kernel
theorem dL_same_668 : decode cL_same 668 = .ok (.iload 14, 2) := by decide +kernel
theorem dL_same_670 : decode cL_same 670 = .ok (.aload_n 2, 1) := by decide +kernel
theorem dL_same_671 : decode cL_same 671 = .ok (.aload 4, 2) := by decide +kernel
theorem dL_same_673 : decode cL_same 673 = .ok (.invokestatic 28, 3) := by decide +kernel
theorem dL_same_676 : decode cL_same 676 = .ok (.iload 11, 2) := by decide +kernel
theorem dL_same_678 : decode cL_same 678 = .ok (.ishr, 1) := by decide +kernel
theorem dL_same_679 : decode cL_same 679 = .ok (.iconst 1, 1) := by decide +kernel
theorem dL_same_680 : decode cL_same 680 = .ok (.iand, 1) := by decide +kernel
theorem dL_same_681 : decode cL_same 681 = .ok (.iconst 1, 1) := by decide +kernel
theorem dL_same_682 : decode cL_same 682 = .ok (.if_icmp .ne 7, 3) := by decide +kernel
theorem dL_same_685 : decode cL_same 685 = .ok (.iconst 1, 1) := by decide +kernel
theorem dL_same_686 : decode cL_same 686 = .ok (.goto 4, 3) := by decide +kernel
theorem dL_same_689 : decode cL_same 689 = .ok (.iconst 0, 1) := by decide +kernel
theorem dL_same_690 : decode cL_same 690 = .ok (.istore 15, 2) := by decide +kernel
theorem dL_same_692 : decode cL_same 692 = .ok (.iload 14, 2) := by decide +kernel
theorem dL_same_694 : decode cL_same 694 = .ok (.ifCond .le 26, 3) := by decide +kernel
theorem dL_same_697 : decode cL_same 697 = .ok (.iload 14, 2) := by decide +kernel
theorem dL_same_699 : decode cL_same 699 = .ok (.iconst 1, 1) := by decide +kernel
theorem dL_same_700 : decode cL_same 700 = .ok (.isub, 1) := by decide +kernel
theorem dL_same_701 : decode cL_same 701 = .ok (.aload_n 2, 1) := by decide +kernel
theorem dL_same_702 : decode cL_same 702 = .ok (.aload 4, 2) := by decide +kernel
theorem dL_same_704 : decode cL_same 704 = .ok (.invokestatic 28, 3) := by decide +kernel
theorem dL_same_707 : decode cL_same 707 = .ok (.iload 11, 2) := by decide +kernel
theorem dL_same_709 : decode cL_same 709 = .ok (.ishr, 1) := by decide +kernel
theorem dL_same_710 : decode cL_same 710 = .ok (.iconst 1, 1) := by decide +kernel
theorem dL_same_711 : decode cL_same 711 = .ok (.iand, 1) := by decide +kernel
theorem dL_same_712 : decode cL_same 712 = .ok (.iconst 1, 1) := by decide +kernel
theorem dL_same_713 : decode cL_same 713 = .ok (.if_icmp .ne 7, 3) := by decide +kernel
theorem dL_same_716 : decode cL_same 716 = .ok (.iconst 1, 1) := by decide +kernel
theorem dL_same_717 : decode cL_same 717 = .ok (.goto 4, 3) := by decide +kernel
theorem dL_same_720 : decode cL_same 720 = .ok (.iconst 0, 1) := by decide +kernel
theorem dL_same_721 : decode cL_same 721 = .ok (.istore 16, 2) := by decide +kernel
theorem dL_same_723 : decode cL_same 723 = .ok (.iconst 0, 1) := by decide +kernel
theorem dL_same_724 : decode cL_same 724 = .ok (.istore 17, 2) := by decide +kernel
theorem dL_same_726 : decode cL_same 726 = .ok (.iload 17, 2) := by decide +kernel
theorem dL_same_728 : decode cL_same 728 = .ok (.aload_n 2, 1) := by decide +kernel
theorem dL_same_729 : decode cL_same 729 = .ok (.iconst 4, 1) := by decide +kernel
theorem dL_same_730 : decode cL_same 730 = .ok (.iaload, 1) := by decide +kernel
theorem dL_same_731 : decode cL_same 731 = .ok (.if_icmp .ge 41, 3) := by decide +kernel
theorem dL_same_734 : decode cL_same 734 = .ok (.iload 13, 2) := by decide +kernel
theorem dL_same_736 : decode cL_same 736 = .ok (.aload_n 3, 1) := by decide +kernel
theorem dL_same_737 : decode cL_same 737 = .ok (.iconst 5, 1) := by decide +kernel
theorem dL_same_738 : decode cL_same 738 = .ok (.iload 17, 2) := by decide +kernel
theorem dL_same_740 : decode cL_same 740 = .ok (.imul, 1) := by decide +kernel
theorem dL_same_741 : decode cL_same 741 = .ok (.iaload, 1) := by decide +kernel
theorem dL_same_742 : decode cL_same 742 = .ok (.bipush 100, 2) := by decide +kernel
theorem dL_same_744 : decode cL_same 744 = .ok (.iload 14, 2) := by decide +kernel
theorem dL_same_746 : decode cL_same 746 = .ok (.imul, 1) := by decide +kernel
theorem dL_same_747 : decode cL_same 747 = .ok (.iload 11, 2) := by decide +kernel
theorem dL_same_749 : decode cL_same 749 = .ok (.iadd, 1) := by decide +kernel
theorem dL_same_750 : decode cL_same 750 = .ok (.if_icmp .ne 12, 3) := by decide +kernel
theorem dL_same_753 : decode cL_same 753 = .ok (.iload 16, 2) := by decide +kernel
theorem dL_same_755 : decode cL_same 755 = .ok (.ifCond .eq 7, 3) := by decide +kernel
theorem dL_same_758 : decode cL_same 758 = .ok (.iconst 1, 1) := by decide +kernel
theorem dL_same_759 : decode cL_same 759 = .ok (.goto 4, 3) := by decide +kernel
theorem dL_same_762 : decode cL_same 762 = .ok (.iconst 0, 1) := by decide +kernel
theorem dL_same_763 : decode cL_same 763 = .ok (.iadd, 1) := by decide +kernel
theorem dL_same_764 : decode cL_same 764 = .ok (.istore 13, 2) := by decide +kernel
theorem dL_same_766 : decode cL_same 766 = .ok (.iinc 17 1, 3) := by decide +kernel
theorem dL_same_769 : decode cL_same 769 = .ok (.goto (-43), 3) := by decide +kernel
theorem dL_same_772 : decode cL_same 772 = .ok (.iload 15, 2) := by decide +kernel
theorem dL_same_774 : decode cL_same 774 = .ok (.ifCond .eq 165, 3) := by decide +kernel
theorem dL_same_777 : decode cL_same 777 = .ok (.iload 16, 2) := by decide +kernel
theorem dL_same_779 : decode cL_same 779 = .ok (.ifCond .eq 6, 3) := by decide +kernel
theorem dL_same_782 : decode cL_same 782 = .ok (.goto 157, 3) := by decide +kernel
theorem dL_same_785 : decode cL_same 785 = .ok (.iload 14, 2) := by decide +kernel
theorem dL_same_787 : decode cL_same 787 = .ok (.istore 17, 2) := by decide +kernel
theorem dL_same_789 : decode cL_same 789 = .ok (.iload 17, 2) := by decide +kernel
theorem dL_same_791 : decode cL_same 791 = .ok (.bipush 63, 2) := by decide +kernel
theorem dL_same_793 : decode cL_same 793 = .ok (.if_icmp .ge 28, 3) := by decide +kernel
theorem dL_same_796 : decode cL_same 796 = .ok (.iload 17, 2) := by decide +kernel
theorem dL_same_798 : decode cL_same 798 = .ok (.iconst 1, 1) := by decide +kernel
theorem dL_same_799 : decode cL_same 799 = .ok (.iadd, 1) := by decide +kernel
theorem dL_same_800 : decode cL_same 800 = .ok (.aload_n 2, 1) := by decide +kernel
theorem dL_same_801 : decode cL_same 801 = .ok (.aload 4, 2) := by decide +kernel
theorem dL_same_803 : decode cL_same 803 = .ok (.invokestatic 28, 3) := by decide +kernel
theorem dL_same_806 : decode cL_same 806 = .ok (.iload 11, 2) := by decide +kernel
theorem dL_same_808 : decode cL_same 808 = .ok (.ishr, 1) := by decide +kernel
theorem dL_same_809 : decode cL_same 809 = .ok (.iconst 1, 1) := by decide +kernel
theorem dL_same_810 : decode cL_same 810 = .ok (.iand, 1) := by decide +kernel
theorem dL_same_811 : decode cL_same 811 = .ok (.iconst 1, 1) := by decide +kernel
theorem dL_same_812 : decode cL_same 812 = .ok (.if_icmp .ne 9, 3) := by decide +kernel
theorem dL_same_815 : decode cL_same 815 = .ok (.iinc 17 1, 3) := by decide +kernel
theorem dL_same_818 : decode cL_same 818 = .ok (.goto (-29), 3) := by decide +kernel
theorem dL_same_821 : decode cL_same 821 = .ok (.iconst 0, 1) := by decide +kernel
theorem dL_same_822 : decode cL_same 822 = .ok (.istore 18, 2) := by decide +kernel
theorem dL_same_824 : decode cL_same 824 = .ok (.iconst 0, 1) := by decide +kernel
theorem dL_same_825 : decode cL_same 825 = .ok (.istore 19, 2) := by decide +kernel
theorem dL_same_827 : decode cL_same 827 = .ok (.iload 19, 2) := by decide +kernel
theorem dL_same_829 : decode cL_same 829 = .ok (.aload_n 2, 1) := by decide +kernel
theorem dL_same_830 : decode cL_same 830 = .ok (.iconst 4, 1) := by decide +kernel
theorem dL_same_831 : decode cL_same 831 = .ok (.iaload, 1) := by decide +kernel
theorem dL_same_832 : decode cL_same 832 = .ok (.if_icmp .ge 60, 3) := by decide +kernel
theorem dL_same_835 : decode cL_same 835 = .ok (.iload 18, 2) := by decide +kernel
theorem dL_same_837 : decode cL_same 837 = .ok (.aload_n 3, 1) := by decide +kernel
theorem dL_same_838 : decode cL_same 838 = .ok (.iconst 5, 1) := by decide +kernel
theorem dL_same_839 : decode cL_same 839 = .ok (.iload 19, 2) := by decide +kernel
theorem dL_same_841 : decode cL_same 841 = .ok (.imul, 1) := by decide +kernel
theorem dL_same_842 : decode cL_same 842 = .ok (.iaload, 1) := by decide +kernel
theorem dL_same_843 : decode cL_same 843 = .ok (.bipush 100, 2) := by decide +kernel
theorem dL_same_845 : decode cL_same 845 = .ok (.irem, 1) := by decide +kernel
theorem dL_same_846 : decode cL_same 846 = .ok (.iload 11, 2) := by decide +kernel
theorem dL_same_848 : decode cL_same 848 = .ok (.if_icmp .ne 34, 3) := by decide +kernel
theorem dL_same_851 : decode cL_same 851 = .ok (.aload_n 3, 1) := by decide +kernel
theorem dL_same_852 : decode cL_same 852 = .ok (.iconst 5, 1) := by decide +kernel
theorem dL_same_853 : decode cL_same 853 = .ok (.iload 19, 2) := by decide +kernel
theorem dL_same_855 : decode cL_same 855 = .ok (.imul, 1) := by decide +kernel
theorem dL_same_856 : decode cL_same 856 = .ok (.iaload, 1) := by decide +kernel
theorem dL_same_857 : decode cL_same 857 = .ok (.bipush 100, 2) := by decide +kernel
theorem dL_same_859 : decode cL_same 859 = .ok (.idiv, 1) := by decide +kernel
theorem dL_same_860 : decode cL_same 860 = .ok (.iload 17, 2) := by decide +kernel
theorem dL_same_862 : decode cL_same 862 = .ok (.if_icmp .gt 20, 3) := by decide +kernel
theorem dL_same_865 : decode cL_same 865 = .ok (.aload_n 3, 1) := by decide +kernel
theorem dL_same_866 : decode cL_same 866 = .ok (.iconst 5, 1) := by decide +kernel
theorem dL_same_867 : decode cL_same 867 = .ok (.iload 19, 2) := by decide +kernel
theorem dL_same_869 : decode cL_same 869 = .ok (.imul, 1) := by decide +kernel
theorem dL_same_870 : decode cL_same 870 = .ok (.iconst 1, 1) := by decide +kernel
theorem dL_same_871 : decode cL_same 871 = .ok (.iadd, 1) := by decide +kernel
theorem dL_same_872 : decode cL_same 872 = .ok (.iaload, 1) := by decide +kernel
theorem dL_same_873 : decode cL_same 873 = .ok (.iload 14, 2) := by decide +kernel
theorem dL_same_875 : decode cL_same 875 = .ok (.if_icmp .lt 7, 3) := by decide +kernel
theorem dL_same_878 : decode cL_same 878 = .ok (.iconst 1, 1) := by decide +kernel
theorem dL_same_879 : decode cL_same 879 = .ok (.goto 4, 3) := by decide +kernel
theorem dL_same_882 : decode cL_same 882 = .ok (.iconst 0, 1) := by decide +kernel
theorem dL_same_883 : decode cL_same 883 = .ok (.iadd, 1) := by decide +kernel
theorem dL_same_884 : decode cL_same 884 = .ok (.istore 18, 2) := by decide +kernel
theorem dL_same_886 : decode cL_same 886 = .ok (.iinc 19 1, 3) := by decide +kernel
theorem dL_same_889 : decode cL_same 889 = .ok (.goto (-62), 3) := by decide +kernel
theorem dL_same_892 : decode cL_same 892 = .ok (.aload_n 0, 1) := by decide +kernel
theorem dL_same_893 : decode cL_same 893 = .ok (.iload 11, 2) := by decide +kernel
theorem dL_same_895 : decode cL_same 895 = .ok (.iload 12, 2) := by decide +kernel
theorem dL_same_897 : decode cL_same 897 = .ok (.iconst 0, 1) := by decide +kernel
theorem dL_same_898 : decode cL_same 898 = .ok (.invokevirtual 44, 3) := by decide +kernel
theorem dL_same_901 : decode cL_same 901 = .ok (.iload 14, 2) := by decide +kernel
theorem dL_same_903 : decode cL_same 903 = .ok (.if_icmp .ne 31, 3) := by decide +kernel
theorem dL_same_906 : decode cL_same 906 = .ok (.aload_n 0, 1) := by decide +kernel
theorem dL_same_907 : decode cL_same 907 = .ok (.iload 11, 2) := by decide +kernel
theorem dL_same_909 : decode cL_same 909 = .ok (.iload 12, 2) := by decide +kernel
theorem dL_same_911 : decode cL_same 911 = .ok (.iconst 1, 1) := by decide +kernel
theorem dL_same_912 : decode cL_same 912 = .ok (.invokevirtual 44, 3) := by decide +kernel
theorem dL_same_915 : decode cL_same 915 = .ok (.iload 17, 2) := by decide +kernel
theorem dL_same_917 : decode cL_same 917 = .ok (.if_icmp .ne 17, 3) := by decide +kernel
theorem dL_same_920 : decode cL_same 920 = .ok (.aload_n 0, 1) := by decide +kernel
theorem dL_same_921 : decode cL_same 921 = .ok (.iload 11, 2) := by decide +kernel
theorem dL_same_923 : decode cL_same 923 = .ok (.iload 12, 2) := by decide +kernel
theorem dL_same_925 : decode cL_same 925 = .ok (.iconst 2, 1) := by decide +kernel
theorem dL_same_926 : decode cL_same 926 = .ok (.invokevirtual 44, 3) := by decide +kernel
theorem dL_same_929 : decode cL_same 929 = .ok (.iload 18, 2) := by decide +kernel
theorem dL_same_931 : decode cL_same 931 = .ok (.if_icmp .eq 5, 3) := by decide +kernel
theorem dL_same_934 : decode cL_same 934 = .ok (.iconst 0, 1) := by decide +kernel
theorem dL_same_935 : decode cL_same 935 = .ok (.ireturn, 1) := by decide +kernel
theorem dL_same_936 : decode cL_same 936 = .ok (.iinc 12 1, 3) := by decide +kernel
theorem dL_same_939 : decode cL_same 939 = .ok (.iinc 14 1, 3) := by decide +kernel
theorem dL_same_942 : decode cL_same 942 = .ok (.goto (-281), 3) := by decide +kernel
theorem dL_same_945 : decode cL_same 945 = .ok (.aload_n 0, 1) := by decide +kernel
theorem dL_same_946 : decode cL_same 946 = .ok (.iload 11, 2) := by decide +kernel
theorem dL_same_948 : decode cL_same 948 = .ok (.iload 12, 2) := by decide +kernel
theorem dL_same_950 : decode cL_same 950 = .ok (.iconst 0, 1) := by decide +kernel
theorem dL_same_951 : decode cL_same 951 = .ok (.invokevirtual 44, 3) := by decide +kernel
theorem dL_same_954 : decode cL_same 954 = .ok (.iconst (-1), 1) := by decide +kernel
theorem dL_same_955 : decode cL_same 955 = .ok (.if_icmp .ne 138, 3) := by decide +kernel
theorem dL_same_958 : decode cL_same 958 = .ok (.aload_n 0, 1) := by decide +kernel
theorem dL_same_959 : decode cL_same 959 = .ok (.iload 11, 2) := by decide +kernel
theorem dL_same_961 : decode cL_same 961 = .ok (.invokevirtual 48, 3) := by decide +kernel
theorem dL_same_964 : decode cL_same 964 = .ok (.iload 13, 2) := by decide +kernel
theorem dL_same_966 : decode cL_same 966 = .ok (.if_icmp .ne 127, 3) := by decide +kernel
theorem dL_same_969 : decode cL_same 969 = .ok (.aload_n 0, 1) := by decide +kernel
theorem dL_same_970 : decode cL_same 970 = .ok (.iconst 0, 1) := by decide +kernel
theorem dL_same_971 : decode cL_same 971 = .ok (.invokevirtual 51, 3) := by decide +kernel
theorem dL_same_974 : decode cL_same 974 = .ok (.aload_n 2, 1) := by decide +kernel
theorem dL_same_975 : decode cL_same 975 = .ok (.iconst 4, 1) := by decide +kernel
theorem dL_same_976 : decode cL_same 976 = .ok (.iaload, 1) := by decide +kernel
theorem dL_same_977 : decode cL_same 977 = .ok (.if_icmp .ne 116, 3) := by decide +kernel
theorem dL_same_980 : decode cL_same 980 = .ok (.aload_n 0, 1) := by decide +kernel
theorem dL_same_981 : decode cL_same 981 = .ok (.iconst 1, 1) := by decide +kernel
theorem dL_same_982 : decode cL_same 982 = .ok (.invokevirtual 51, 3) := by decide +kernel
theorem dL_same_985 : decode cL_same 985 = .ok (.iload 6, 2) := by decide +kernel
theorem dL_same_987 : decode cL_same 987 = .ok (.if_icmp .ne 106, 3) := by decide +kernel
theorem dL_same_990 : decode cL_same 990 = .ok (.aload_n 0, 1) := by decide +kernel
theorem dL_same_991 : decode cL_same 991 = .ok (.iconst 2, 1) := by decide +kernel
theorem dL_same_992 : decode cL_same 992 = .ok (.invokevirtual 51, 3) := by decide +kernel
theorem dL_same_995 : decode cL_same 995 = .ok (.iload 5, 2) := by decide +kernel
theorem dL_same_997 : decode cL_same 997 = .ok (.if_icmp .ne 96, 3) := by decide +kernel
theorem dL_same_1000 : decode cL_same 1000 = .ok (.aload_n 0, 1) := by decide +kernel
theorem dL_same_1001 : decode cL_same 1001 = .ok (.iconst 3, 1) := by decide +kernel
theorem dL_same_1002 : decode cL_same 1002 = .ok (.invokevirtual 51, 3) := by decide +kernel
theorem dL_same_1005 : decode cL_same 1005 = .ok (.iload 7, 2) := by decide +kernel
theorem dL_same_1007 : decode cL_same 1007 = .ok (.if_icmp .ne 86, 3) := by decide +kernel
theorem dL_same_1010 : decode cL_same 1010 = .ok (.aload_n 0, 1) := by decide +kernel
theorem dL_same_1011 : decode cL_same 1011 = .ok (.iconst 4, 1) := by decide +kernel
theorem dL_same_1012 : decode cL_same 1012 = .ok (.invokevirtual 51, 3) := by decide +kernel
theorem dL_same_1015 : decode cL_same 1015 = .ok (.iload 8, 2) := by decide +kernel
theorem dL_same_1017 : decode cL_same 1017 = .ok (.if_icmp .ne 76, 3) := by decide +kernel
theorem dL_same_1020 : decode cL_same 1020 = .ok (.aload_n 0, 1) := by decide +kernel
theorem dL_same_1021 : decode cL_same 1021 = .ok (.iconst 5, 1) := by decide +kernel
theorem dL_same_1022 : decode cL_same 1022 = .ok (.invokevirtual 51, 3) := by decide +kernel
theorem dL_same_1025 : decode cL_same 1025 = .ok (.iload 9, 2) := by decide +kernel
theorem dL_same_1027 : decode cL_same 1027 = .ok (.if_icmp .ne 66, 3) := by decide +kernel
theorem dL_same_1030 : decode cL_same 1030 = .ok (.aload_n 0, 1) := by decide +kernel
theorem dL_same_1031 : decode cL_same 1031 = .ok (.bipush 6, 2) := by decide +kernel
theorem dL_same_1033 : decode cL_same 1033 = .ok (.invokevirtual 51, 3) := by decide +kernel
theorem dL_same_1036 : decode cL_same 1036 = .ok (.iload 10, 2) := by decide +kernel
theorem dL_same_1038 : decode cL_same 1038 = .ok (.if_icmp .ne 55, 3) := by decide +kernel
theorem dL_same_1041 : decode cL_same 1041 = .ok (.aload_n 0, 1) := by decide +kernel
theorem dL_same_1042 : decode cL_same 1042 = .ok (.bipush 7, 2) := by decide +kernel
theorem dL_same_1044 : decode cL_same 1044 = .ok (.invokevirtual 51, 3) := by decide +kernel
theorem dL_same_1047 : decode cL_same 1047 = .ok (.aload_n 2, 1) := by decide +kernel
theorem dL_same_1048 : decode cL_same 1048 = .ok (.iconst 0, 1) := by decide +kernel
theorem dL_same_1049 : decode cL_same 1049 = .ok (.iaload, 1) := by decide +kernel
theorem dL_same_1050 : decode cL_same 1050 = .ok (.if_icmp .ne 43, 3) := by decide +kernel
theorem dL_same_1053 : decode cL_same 1053 = .ok (.aload_n 0, 1) := by decide +kernel
theorem dL_same_1054 : decode cL_same 1054 = .ok (.bipush 8, 2) := by decide +kernel
theorem dL_same_1056 : decode cL_same 1056 = .ok (.invokevirtual 51, 3) := by decide +kernel
theorem dL_same_1059 : decode cL_same 1059 = .ok (.aload_n 2, 1) := by decide +kernel
theorem dL_same_1060 : decode cL_same 1060 = .ok (.iconst 1, 1) := by decide +kernel
theorem dL_same_1061 : decode cL_same 1061 = .ok (.iaload, 1) := by decide +kernel
theorem dL_same_1062 : decode cL_same 1062 = .ok (.if_icmp .ne 31, 3) := by decide +kernel
theorem dL_same_1065 : decode cL_same 1065 = .ok (.aload_n 0, 1) := by decide +kernel
theorem dL_same_1066 : decode cL_same 1066 = .ok (.bipush 9, 2) := by decide +kernel
theorem dL_same_1068 : decode cL_same 1068 = .ok (.invokevirtual 51, 3) := by decide +kernel
theorem dL_same_1071 : decode cL_same 1071 = .ok (.aload_n 2, 1) := by decide +kernel
theorem dL_same_1072 : decode cL_same 1072 = .ok (.iconst 2, 1) := by decide +kernel
theorem dL_same_1073 : decode cL_same 1073 = .ok (.iaload, 1) := by decide +kernel
theorem dL_same_1074 : decode cL_same 1074 = .ok (.if_icmp .ne 19, 3) := by decide +kernel
theorem dL_same_1077 : decode cL_same 1077 = .ok (.aload_n 0, 1) := by decide +kernel
theorem dL_same_1078 : decode cL_same 1078 = .ok (.bipush 10, 2) := by decide +kernel
theorem dL_same_1080 : decode cL_same 1080 = .ok (.invokevirtual 51, 3) := by decide +kernel
theorem dL_same_1083 : decode cL_same 1083 = .ok (.aload_n 2, 1) := by decide +kernel
theorem dL_same_1084 : decode cL_same 1084 = .ok (.iconst 3, 1) := by decide +kernel
theorem dL_same_1085 : decode cL_same 1085 = .ok (.iaload, 1) := by decide +kernel
theorem dL_same_1086 : decode cL_same 1086 = .ok (.if_icmp .ne 7, 3) := by decide +kernel
theorem dL_same_1089 : decode cL_same 1089 = .ok (.iconst 1, 1) := by decide +kernel
theorem dL_same_1090 : decode cL_same 1090 = .ok (.goto 4, 3) := by decide +kernel
theorem dL_same_1093 : decode cL_same 1093 = .ok (.iconst 0, 1) := by decide +kernel
theorem dL_same_1094 : decode cL_same 1094 = .ok (.ireturn, 1) := by decide +kernel
set_option maxRecDepth 20000 in
theorem ggL_would_L_weak : GoodIn wsL_would wsL_weak := goodIn_r _ [4, 5, 6, 3, 7, 8, 9, 10, 11, 12, 13] (by decide +kernel) (by decide +kernel)
set_option maxRecDepth 20000 in
theorem gL_would_L_weak : GoodIn wsL_would (va_wsS RL 24 yL_weak wsL_weak) := goodIn_app (goodIn_of _ (by decide +kernel)) ggL_would_L_weak
set_option maxRecDepth 20000 in
theorem ggL_would_X4_greatestRun : GoodIn wsL_would wsX4_greatestRun := goodIn_r _ [18, 19, 20, 21, 22, 23, 24, 25, 26, 27, 28, 29, 30, 31, 32, 33, 34, 35, 36, 37, 38, 39, 40, 41, 42, 43, 44, 45, 46, 47, 48, 17, 49, 50, 51, 52, 53, 54, 55, 56, 57, 58, 59, 60, 61, 62, 63, 64, 65, 66, 67, 68, 69, 70, 71, 72, 73, 74, 75, 76, 77, 78, 79, 80, 81, 82, 83, 84, 85, 86, 87, 88, 89, 90, 91, 92, 93, 94, 95, 96, 97, 98, 99, 100, 101, 102, 103, 104, 105, 106, 107, 108, 109, 110, 111, 112, 113, 114, 115, 116, 117, 118, 119, 120, 121, 122, 123, 124, 125, 126, 127, 128, 129, 130, 131, 132, 146, 147, 148, 149, 150, 151, 152, 153, 154, 155, 156, 157, 158, 159, 160, 161, 162] (by decide +kernel) (by decide +kernel)
set_option maxRecDepth 20000 in
theorem gL_would_X4_greatestRun : GoodIn wsL_would (wsV RL 54 RX4 yX4_greatestRun wsX4_greatestRun) := goodIn_app (goodIn_of _ (by decide +kernel)) ggL_would_X4_greatestRun
set_option maxRecDepth 20000 in
theorem ggL_would_L_low : GoodIn wsL_would wsL_low := goodIn_r _ [135, 136] (by decide +kernel) (by decide +kernel)
set_option maxRecDepth 20000 in
theorem gL_would_L_low : GoodIn wsL_would (va_wsS RL 41 yL_low wsL_low) := goodIn_app (goodIn_of _ (by decide +kernel)) ggL_would_L_low
set_option maxRecDepth 20000 in
theorem ggL_would_X4_bestShift : GoodIn wsL_would wsX4_bestShift := goodIn_r _ [140, 20, 19, 23, 141, 74, 75, 27, 76, 29, 101, 48, 17, 49, 24, 25, 26, 28, 30, 31, 32, 33, 34, 35, 36, 37, 38, 39, 40, 41, 42, 43, 142, 143, 144, 145, 73, 50, 51, 52, 53, 54, 55, 56, 57, 58, 59, 60, 61, 62, 63, 64, 65, 66, 67, 68, 69, 70, 71, 72, 77, 78, 79, 80, 81, 82, 83, 84, 85, 86, 87, 88, 89, 90, 91, 92, 93, 94, 95, 96, 97, 98, 99, 100, 102, 103, 104, 105, 106, 107, 108, 109, 110, 111, 112, 113, 114, 115, 116, 117, 118, 119, 120, 121, 122, 123, 124, 125, 126, 127, 128, 129, 130, 131, 132, 146, 147, 148, 149, 150, 151, 152, 153, 154, 155, 156, 157, 158, 159, 160, 161, 162] (by decide +kernel) (by decide +kernel)
set_option maxRecDepth 20000 in
theorem gL_would_X4_bestShift : GoodIn wsL_would (wsV RL 58 RX4 yX4_bestShift wsX4_bestShift) := goodIn_app (goodIn_of _ (by decide +kernel)) ggL_would_X4_bestShift
theorem dL_would_0 : decode cL_would 0 = .ok (.aload_n 2, 1) := by decide +kernel
theorem dL_would_1 : decode cL_would 1 = .ok (.iconst 0, 1) := by decide +kernel
theorem dL_would_2 : decode cL_would 2 = .ok (.iaload, 1) := by decide +kernel
theorem dL_would_3 : decode cL_would 3 = .ok (.istore 5, 2) := by decide +kernel
theorem dL_would_5 : decode cL_would 5 = .ok (.bipush (-6), 2) := by decide +kernel
theorem dL_would_7 : decode cL_would 7 = .ok (.istore 6, 2) := by decide +kernel
theorem dL_would_9 : decode cL_would 9 = .ok (.iconst 1, 1) := by decide +kernel
theorem dL_would_10 : decode cL_would 10 = .ok (.istore 7, 2) := by decide +kernel
theorem dL_would_12 : decode cL_would 12 = .ok (.iload 7, 2) := by decide +kernel
theorem dL_would_14 : decode cL_would 14 = .ok (.bipush 10, 2) := by decide +kernel
theorem dL_would_16 : decode cL_would 16 = .ok (.if_icmp .ge 33, 3) := by decide +kernel
theorem dL_would_19 : decode cL_would 19 = .ok (.aload_n 2, 1) := by decide +kernel
theorem dL_would_20 : decode cL_would 20 = .ok (.iconst 0, 1) := by decide +kernel
theorem dL_would_21 : decode cL_would 21 = .ok (.iload 7, 2) := by decide +kernel
theorem dL_would_23 : decode cL_would 23 = .ok (.iastore, 1) := by decide +kernel
theorem dL_would_24 : decode cL_would 24 = .ok (.aload_n 2, 1) := by decide +kernel
theorem dL_would_25 : decode cL_would 25 = .ok (.aload_n 3, 1) := by decide +kernel
theorem dL_would_26 : decode cL_would 26 = .ok (.aload 4, 2) := by decide +kernel
theorem dL_would_28 : decode cL_would 28 = .ok (.invokestatic 24, 3) := by decide +kernel
theorem dL_would_31 : decode cL_would 31 = .ok (.ifCond .ne 8, 3) := by decide +kernel
theorem dL_would_34 : decode cL_would 34 = .ok (.iload 7, 2) := by decide +kernel
theorem dL_would_36 : decode cL_would 36 = .ok (.goto 5, 3) := by decide +kernel
theorem dL_would_39 : decode cL_would 39 = .ok (.iload 6, 2) := by decide +kernel
theorem dL_would_41 : decode cL_would 41 = .ok (.istore 6, 2) := by decide +kernel
theorem dL_would_43 : decode cL_would 43 = .ok (.iinc 7 1, 3) := by decide +kernel
theorem dL_would_46 : decode cL_would 46 = .ok (.goto (-34), 3) := by decide +kernel
theorem dL_would_49 : decode cL_would 49 = .ok (.aload_n 2, 1) := by decide +kernel
theorem dL_would_50 : decode cL_would 50 = .ok (.iconst 0, 1) := by decide +kernel
theorem dL_would_51 : decode cL_would 51 = .ok (.iload 5, 2) := by decide +kernel
theorem dL_would_53 : decode cL_would 53 = .ok (.iastore, 1) := by decide +kernel
theorem dL_would_54 : decode cL_would 54 = .ok (.aload_n 0, 1) := by decide +kernel
theorem dL_would_55 : decode cL_would 55 = .ok (.invokevirtual 54, 3) := by decide +kernel
theorem dL_would_58 : decode cL_would 58 = .ok (.iload 6, 2) := by decide +kernel
theorem dL_would_60 : decode cL_would 60 = .ok (.if_icmp .eq 5, 3) := by decide +kernel
theorem dL_would_63 : decode cL_would 63 = .ok (.iconst 0, 1) := by decide +kernel
theorem dL_would_64 : decode cL_would 64 = .ok (.ireturn, 1) := by decide +kernel
theorem dL_would_65 : decode cL_would 65 = .ok (.aload_n 2, 1) := by decide +kernel
theorem dL_would_66 : decode cL_would 66 = .ok (.iconst 4, 1) := by decide +kernel
theorem dL_would_67 : decode cL_would 67 = .ok (.iaload, 1) := by decide +kernel
theorem dL_would_68 : decode cL_would 68 = .ok (.ifCond .ne 5, 3) := by decide +kernel
theorem dL_would_71 : decode cL_would 71 = .ok (.iconst 1, 1) := by decide +kernel
theorem dL_would_72 : decode cL_would 72 = .ok (.ireturn, 1) := by decide +kernel
theorem dL_would_73 : decode cL_would 73 = .ok (.iload_n 1, 1) := by decide +kernel
theorem dL_would_74 : decode cL_would 74 = .ok (.aload_n 2, 1) := by decide +kernel
theorem dL_would_75 : decode cL_would 75 = .ok (.iconst 4, 1) := by decide +kernel
theorem dL_would_76 : decode cL_would 76 = .ok (.iaload, 1) := by decide +kernel
theorem dL_would_77 : decode cL_would 77 = .ok (.invokestatic 41, 3) := by decide +kernel
theorem dL_would_80 : decode cL_would 80 = .ok (.istore 7, 2) := by decide +kernel
theorem dL_would_82 : decode cL_would 82 = .ok (.aload_n 3, 1) := by decide +kernel
theorem dL_would_83 : decode cL_would 83 = .ok (.iconst 5, 1) := by decide +kernel
theorem dL_would_84 : decode cL_would 84 = .ok (.iload 7, 2) := by decide +kernel
theorem dL_would_86 : decode cL_would 86 = .ok (.imul, 1) := by decide +kernel
theorem dL_would_87 : decode cL_would 87 = .ok (.iconst 2, 1) := by decide +kernel
theorem dL_would_88 : decode cL_would 88 = .ok (.iadd, 1) := by decide +kernel
theorem dL_would_89 : decode cL_would 89 = .ok (.iaload, 1) := by decide +kernel
theorem dL_would_90 : decode cL_would 90 = .ok (.istore 8, 2) := by decide +kernel
theorem dL_would_92 : decode cL_would 92 = .ok (.iconst (-1), 1) := by decide +kernel
theorem dL_would_93 : decode cL_would 93 = .ok (.istore 9, 2) := by decide +kernel
theorem dL_would_95 : decode cL_would 95 = .ok (.sipush 999, 3) := by decide +kernel
theorem dL_would_98 : decode cL_would 98 = .ok (.istore 10, 2) := by decide +kernel
theorem dL_would_100 : decode cL_would 100 = .ok (.bipush 12, 2) := by decide +kernel
theorem dL_would_102 : decode cL_would 102 = .ok (.istore 11, 2) := by decide +kernel
theorem dL_would_104 : decode cL_would 104 = .ok (.iload 11, 2) := by decide +kernel
theorem dL_would_106 : decode cL_would 106 = .ok (.ifCond .lt 60, 3) := by decide +kernel
theorem dL_would_109 : decode cL_would 109 = .ok (.aload_n 3, 1) := by decide +kernel
theorem dL_would_110 : decode cL_would 110 = .ok (.iconst 5, 1) := by decide +kernel
theorem dL_would_111 : decode cL_would 111 = .ok (.iload 7, 2) := by decide +kernel
theorem dL_would_113 : decode cL_would 113 = .ok (.imul, 1) := by decide +kernel
theorem dL_would_114 : decode cL_would 114 = .ok (.iconst 2, 1) := by decide +kernel
theorem dL_would_115 : decode cL_would 115 = .ok (.iadd, 1) := by decide +kernel
theorem dL_would_116 : decode cL_would 116 = .ok (.iload 11, 2) := by decide +kernel
theorem dL_would_118 : decode cL_would 118 = .ok (.iastore, 1) := by decide +kernel
theorem dL_would_119 : decode cL_would 119 = .ok (.aload_n 2, 1) := by decide +kernel
theorem dL_would_120 : decode cL_would 120 = .ok (.aload_n 3, 1) := by decide +kernel
theorem dL_would_121 : decode cL_would 121 = .ok (.aload 4, 2) := by decide +kernel
theorem dL_would_123 : decode cL_would 123 = .ok (.invokestatic 24, 3) := by decide +kernel
theorem dL_would_126 : decode cL_would 126 = .ok (.istore 12, 2) := by decide +kernel
theorem dL_would_128 : decode cL_would 128 = .ok (.iload 12, 2) := by decide +kernel
theorem dL_would_130 : decode cL_would 130 = .ok (.iload 10, 2) := by decide +kernel
theorem dL_would_132 : decode cL_would 132 = .ok (.if_icmp .gt 8, 3) := by decide +kernel
theorem dL_would_135 : decode cL_would 135 = .ok (.iload 11, 2) := by decide +kernel
theorem dL_would_137 : decode cL_would 137 = .ok (.goto 5, 3) := by decide +kernel
theorem dL_would_140 : decode cL_would 140 = .ok (.iload 9, 2) := by decide +kernel
theorem dL_would_142 : decode cL_would 142 = .ok (.istore 9, 2) := by decide +kernel
theorem dL_would_144 : decode cL_would 144 = .ok (.iload 12, 2) := by decide +kernel
theorem dL_would_146 : decode cL_would 146 = .ok (.iload 10, 2) := by decide +kernel
theorem dL_would_148 : decode cL_would 148 = .ok (.if_icmp .gt 8, 3) := by decide +kernel
theorem dL_would_151 : decode cL_would 151 = .ok (.iload 12, 2) := by decide +kernel
theorem dL_would_153 : decode cL_would 153 = .ok (.goto 5, 3) := by decide +kernel
theorem dL_would_156 : decode cL_would 156 = .ok (.iload 10, 2) := by decide +kernel
theorem dL_would_158 : decode cL_would 158 = .ok (.istore 10, 2) := by decide +kernel
theorem dL_would_160 : decode cL_would 160 = .ok (.iinc 11 (-1), 3) := by decide +kernel
theorem dL_would_163 : decode cL_would 163 = .ok (.goto (-59), 3) := by decide +kernel
theorem dL_would_166 : decode cL_would 166 = .ok (.aload_n 3, 1) := by decide +kernel
theorem dL_would_167 : decode cL_would 167 = .ok (.iconst 5, 1) := by decide +kernel
theorem dL_would_168 : decode cL_would 168 = .ok (.iload 7, 2) := by decide +kernel
theorem dL_would_170 : decode cL_would 170 = .ok (.imul, 1) := by decide +kernel
theorem dL_would_171 : decode cL_would 171 = .ok (.iconst 2, 1) := by decide +kernel
theorem dL_would_172 : decode cL_would 172 = .ok (.iadd, 1) := by decide +kernel
theorem dL_would_173 : decode cL_would 173 = .ok (.iload 8, 2) := by decide +kernel
theorem dL_would_175 : decode cL_would 175 = .ok (.iastore, 1) := by decide +kernel
theorem dL_would_176 : decode cL_would 176 = .ok (.aload_n 0, 1) := by decide +kernel
theorem dL_would_177 : decode cL_would 177 = .ok (.iload 7, 2) := by decide +kernel
theorem dL_would_179 : decode cL_would 179 = .ok (.iconst 0, 1) := by decide +kernel
theorem dL_would_180 : decode cL_would 180 = .ok (.invokevirtual 58, 3) := by decide +kernel
theorem dL_would_183 : decode cL_would 183 = .ok (.iload 9, 2) := by decide +kernel
theorem dL_would_185 : decode cL_would 185 = .ok (.if_icmp .ne 19, 3) := by decide +kernel
theorem dL_would_188 : decode cL_would 188 = .ok (.aload_n 0, 1) := by decide +kernel
theorem dL_would_189 : decode cL_would 189 = .ok (.iload 7, 2) := by decide +kernel
theorem dL_would_191 : decode cL_would 191 = .ok (.iconst 1, 1) := by decide +kernel
theorem dL_would_192 : decode cL_would 192 = .ok (.invokevirtual 58, 3) := by decide +kernel
theorem dL_would_195 : decode cL_would 195 = .ok (.iload 10, 2) := by decide +kernel
theorem dL_would_197 : decode cL_would 197 = .ok (.if_icmp .ne 7, 3) := by decide +kernel
theorem dL_would_200 : decode cL_would 200 = .ok (.iconst 1, 1) := by decide +kernel
theorem dL_would_201 : decode cL_would 201 = .ok (.goto 4, 3) := by decide +kernel
theorem dL_would_204 : decode cL_would 204 = .ok (.iconst 0, 1) := by decide +kernel
theorem dL_would_205 : decode cL_would 205 = .ok (.ireturn, 1) := by decide +kernel
set_option maxRecDepth 20000 in
theorem ggL_law_X4_init : GoodIn wsL_law wsX4_init := goodIn_r _ [6, 7, 8, 9, 10, 11, 12, 13, 14, 15, 16, 17, 18, 19, 20, 21, 22, 23, 24, 25, 26, 27, 28, 29, 30, 31, 32, 33, 3, 34, 35, 36, 37, 38, 39, 40, 41, 42, 43, 44, 45, 46, 47, 48, 49, 50, 51, 52, 53, 54, 55, 56, 57, 58, 59, 60, 61, 62, 63, 64, 452, 453, 454, 455, 456, 457, 458, 445, 446, 447, 448, 449, 450, 451, 459, 460, 461, 462, 463, 464, 465, 466, 467, 468, 469, 470, 471, 472] (by decide +kernel) (by decide +kernel)
set_option maxRecDepth 20000 in
theorem gL_law_X4_init : GoodIn wsL_law (wsX4_init) := ggL_law_X4_init
set_option maxRecDepth 20000 in
theorem ggL_law_L_cell : GoodIn wsL_law wsL_cell := goodIn_r _ [68, 69, 70] (by decide +kernel) (by decide +kernel)
set_option maxRecDepth 20000 in
theorem gL_law_L_cell : GoodIn wsL_law (va_wsS RL 62 yL_cell wsL_cell) := goodIn_app (goodIn_of _ (by decide +kernel)) ggL_law_L_cell
set_option maxRecDepth 20000 in
theorem ggL_law_L_low : GoodIn wsL_law wsL_low := goodIn_r _ [73, 74] (by decide +kernel) (by decide +kernel)
set_option maxRecDepth 20000 in
theorem gL_law_L_low : GoodIn wsL_law (va_wsS RL 41 yL_low wsL_low) := goodIn_app (goodIn_of _ (by decide +kernel)) ggL_law_L_low
set_option maxRecDepth 20000 in
theorem ggL_law_L_taken : GoodIn wsL_law wsL_taken := goodIn_r _ [77] (by decide +kernel) (by decide +kernel)
set_option maxRecDepth 20000 in
theorem gL_law_L_taken : GoodIn wsL_law (va_wsS RL 66 yL_taken wsL_taken) := goodIn_app (goodIn_of _ (by decide +kernel)) ggL_law_L_taken
set_option maxRecDepth 20000 in
theorem ggL_law_X4_note : GoodIn wsL_law wsX4_note := goodIn_r _ [81, 13, 26, 82, 83, 2, 84, 85, 86, 87, 88, 89, 90, 91, 92, 93, 12, 94, 95, 96, 97, 98, 99, 100, 101, 102, 103, 104, 105, 106, 107, 35, 108, 109, 110, 111, 112, 113, 114, 115, 36, 116, 117, 118, 119, 37, 120, 121, 122, 25, 123, 63, 124, 125, 126, 127, 128, 129, 130, 131, 132, 133, 134, 135, 136, 137, 38, 39, 138, 139, 140, 141, 34, 40, 41, 42, 43, 142, 143, 144, 145, 146, 147, 148, 149, 150, 151, 152, 153, 445, 446, 447, 448, 449, 450, 451, 452, 453, 454, 455, 456, 457, 458, 470, 471, 472] (by decide +kernel) (by decide +kernel)
set_option maxRecDepth 20000 in
theorem gL_law_X4_note : GoodIn wsL_law (wsV RL 70 RX4 yX4_note wsX4_note) := goodIn_app (goodIn_of _ (by decide +kernel)) ggL_law_X4_note
set_option maxRecDepth 20000 in
theorem ggL_law_L_add : GoodIn wsL_law wsL_add := goodIn_r _ [156] (by decide +kernel) (by decide +kernel)
set_option maxRecDepth 20000 in
theorem gL_law_L_add : GoodIn wsL_law (va_wsS RL 73 yL_add wsL_add) := goodIn_app (goodIn_of _ (by decide +kernel)) ggL_law_L_add
set_option maxRecDepth 20000 in
theorem ggL_law_L_sort : GoodIn wsL_law wsL_sort := goodIn_r _ [159] (by decide +kernel) (by decide +kernel)
set_option maxRecDepth 20000 in
theorem gL_law_L_sort : GoodIn wsL_law (va_wsS RL 77 yL_sort wsL_sort) := goodIn_app (goodIn_of _ (by decide +kernel)) ggL_law_L_sort
set_option maxRecDepth 20000 in
theorem ggL_law_X4_drop : GoodIn wsL_law wsX4_drop := goodIn_r _ [163, 13, 26, 164, 109, 110, 12, 111, 95, 120, 121, 122, 25, 123, 63, 124, 125, 126, 127, 128, 129, 130, 131, 132, 133, 134, 135, 136, 137, 35, 36, 37, 38, 39, 138, 139, 140, 141, 34, 40, 41, 42, 43, 165, 166, 167, 168, 108, 150, 151, 152, 153, 86, 2, 87, 91, 92, 93, 94, 445, 446, 447, 448, 449, 450, 451, 452, 453, 454, 455, 456, 457, 458, 470, 471, 472] (by decide +kernel) (by decide +kernel)
set_option maxRecDepth 20000 in
theorem gL_law_X4_drop : GoodIn wsL_law (wsV RL 81 RX4 yX4_drop wsX4_drop) := goodIn_app (goodIn_of _ (by decide +kernel)) ggL_law_X4_drop
set_option maxRecDepth 20000 in
theorem ggL_law_X4_shift : GoodIn wsL_law wsX4_shift := goodIn_r _ [172, 13, 26, 164, 109, 110, 12, 111, 95, 85, 86, 2, 87, 173, 174, 175, 176, 38, 108, 120, 121, 122, 25, 123, 63, 124, 125, 126, 127, 128, 129, 130, 131, 132, 133, 134, 135, 136, 137, 35, 36, 37, 39, 138, 139, 140, 141, 34, 40, 41, 42, 43, 177, 178, 179, 180, 445, 446, 447, 448, 449, 450, 451, 452, 453, 454, 455, 456, 457, 458, 470, 471, 472] (by decide +kernel) (by decide +kernel)
set_option maxRecDepth 20000 in
theorem gL_law_X4_shift : GoodIn wsL_law (wsV RL 84 RX4 yX4_shift wsX4_shift) := goodIn_app (goodIn_of _ (by decide +kernel)) ggL_law_X4_shift
set_option maxRecDepth 20000 in
theorem ggL_law_X4_accent : GoodIn wsL_law wsX4_accent := goodIn_r _ [184, 13, 26, 164, 109, 110, 12, 111, 95, 185, 186, 187, 188, 39, 108, 120, 121, 122, 25, 123, 63, 124, 125, 126, 127, 128, 129, 130, 131, 132, 133, 134, 135, 136, 137, 35, 36, 37, 38, 138, 139, 140, 141, 34, 40, 41, 42, 43, 189, 190, 191, 192, 193, 194, 2, 195, 445, 446, 447, 448, 449, 450, 451, 452, 453, 454, 455, 456, 457, 458, 470, 471, 472] (by decide +kernel) (by decide +kernel)
set_option maxRecDepth 20000 in
theorem gL_law_X4_accent : GoodIn wsL_law (wsV RL 87 RX4 yX4_accent wsX4_accent) := goodIn_app (goodIn_of _ (by decide +kernel)) ggL_law_X4_accent
set_option maxRecDepth 20000 in
theorem ggL_law_X4_insert : GoodIn wsL_law wsX4_insert := goodIn_r _ [199, 13, 26, 88, 89, 2, 90, 85, 86, 87, 200, 201, 202, 12, 203, 95, 204, 205, 206, 207, 116, 117, 118, 119, 37, 108, 109, 110, 111, 120, 121, 122, 25, 123, 63, 124, 125, 126, 127, 128, 129, 130, 131, 132, 133, 134, 135, 136, 137, 35, 36, 38, 39, 138, 139, 140, 141, 34, 40, 41, 42, 43, 208, 209, 210, 211, 445, 446, 447, 448, 449, 450, 451, 452, 453, 454, 455, 456, 457, 458, 470, 471, 472] (by decide +kernel) (by decide +kernel)
set_option maxRecDepth 20000 in
theorem gL_law_X4_insert : GoodIn wsL_law (wsV RL 91 RX4 yX4_insert wsX4_insert) := goodIn_app (goodIn_of _ (by decide +kernel)) ggL_law_X4_insert
set_option maxRecDepth 20000 in
theorem ggL_law_X4_cut : GoodIn wsL_law wsX4_cut := goodIn_r _ [215, 13, 26, 14, 88, 89, 2, 90, 85, 86, 87, 91, 92, 93, 12, 94, 95, 120, 121, 122, 25, 123, 63, 124, 125, 126, 127, 128, 129, 130, 131, 132, 133, 134, 135, 136, 137, 35, 36, 37, 38, 39, 138, 139, 140, 141, 34, 40, 41, 42, 43, 216, 217, 218, 219, 220, 204, 205, 206, 207, 221, 222, 223, 224, 112, 113, 114, 115, 108, 109, 110, 111, 116, 117, 118, 119, 104, 105, 106, 107, 225, 174, 175, 176, 226, 186, 187, 188, 227, 143, 144, 145, 146, 147, 148, 149, 150, 151, 152, 153, 228, 445, 446, 447, 448, 449, 450, 451, 452, 453, 454, 455, 456, 457, 458, 470, 471, 472] (by decide +kernel) (by decide +kernel)
set_option maxRecDepth 20000 in
theorem gL_law_X4_cut : GoodIn wsL_law (wsV RL 94 RX4 yX4_cut wsX4_cut) := goodIn_app (goodIn_of _ (by decide +kernel)) ggL_law_X4_cut
set_option maxRecDepth 20000 in
theorem ggL_law_X4_copy : GoodIn wsL_law wsX4_copy := goodIn_r _ [232, 13, 26, 14, 233, 234, 2, 235, 88, 89, 90, 85, 86, 87, 236, 237, 238, 12, 239, 95, 240, 241, 242, 243, 108, 109, 110, 111, 112, 113, 114, 115, 36, 116, 117, 118, 119, 37, 91, 92, 93, 94, 244, 245, 246, 247, 248, 249, 250, 251, 105, 106, 107, 35, 96, 97, 98, 99, 100, 101, 102, 103, 104, 120, 121, 122, 25, 123, 63, 124, 125, 126, 127, 128, 129, 130, 131, 132, 133, 134, 135, 136, 137, 38, 39, 138, 139, 140, 141, 34, 40, 41, 42, 43, 228, 252, 253, 254, 255, 224, 225, 174, 175, 176, 226, 186, 187, 188, 227, 143, 144, 145, 146, 147, 148, 149, 150, 151, 152, 153, 445, 446, 447, 448, 449, 450, 451, 452, 453, 454, 455, 456, 457, 458, 470, 471, 472] (by decide +kernel) (by decide +kernel)
set_option maxRecDepth 20000 in
theorem gL_law_X4_copy : GoodIn wsL_law (wsV RL 97 RX4 yX4_copy wsX4_copy) := goodIn_app (goodIn_of _ (by decide +kernel)) ggL_law_X4_copy
set_option maxRecDepth 20000 in
theorem ggL_law_X4_set : GoodIn wsL_law wsX4_set := goodIn_r _ [259, 260, 261, 13, 26, 85, 86, 2, 87, 262, 263, 264, 12, 265, 34, 120, 121, 122, 25, 123, 63, 124, 125, 126, 127, 128, 129, 130, 131, 132, 133, 134, 135, 136, 137, 95, 35, 36, 37, 38, 39, 138, 139, 140, 141, 40, 41, 42, 43, 266, 267, 268, 269, 445, 446, 447, 448, 449, 450, 451, 452, 453, 454, 455, 456, 457, 458, 470, 471, 472] (by decide +kernel) (by decide +kernel)
set_option maxRecDepth 20000 in
theorem gL_law_X4_set : GoodIn wsL_law (wsV RL 100 RX4 yX4_set wsX4_set) := goodIn_app (goodIn_of _ (by decide +kernel)) ggL_law_X4_set
set_option maxRecDepth 20000 in
theorem ggL_law_L_same : GoodIn wsL_law wsL_same := goodIn_r _ [272, 273, 274, 67, 275, 276, 277, 278, 279, 280, 281, 282, 283, 284, 285, 286, 287, 288, 289, 290, 2, 291, 18, 13, 88, 89, 90, 85, 86, 87, 292, 293, 294, 17, 295, 296, 47, 297, 263, 264, 12, 265, 34, 298, 299, 300, 301, 302, 92, 93, 94, 95, 303, 105, 106, 107, 35, 108, 109, 110, 111, 304, 113, 114, 115, 36, 305, 117, 118, 119, 37, 306, 307, 308, 309, 112, 116, 225, 174, 175, 176, 38, 310, 311, 312, 313, 83, 84, 314, 186, 187, 188, 39, 315, 316, 317, 318, 319, 205, 206, 207, 48, 320, 321, 322, 323, 324, 325, 326, 327, 328, 329, 330, 331, 332, 104, 333, 334, 335, 336, 337, 338, 339, 340, 341, 193, 194, 195, 342, 343, 344, 345, 164, 251, 249, 250, 173, 185, 346, 347, 348, 349, 350, 351, 352, 353, 354, 204, 355, 356, 357, 358, 359, 360, 361, 362, 363, 71, 72, 73, 74, 364, 365, 366, 367, 82, 368, 369, 370, 371, 372, 373, 374, 375, 376, 377, 378, 379, 380, 381, 101, 102, 103, 382, 383, 384, 385, 91, 386, 387, 388, 389, 22, 26, 390, 391, 392, 393, 394, 395, 396, 397, 398, 399, 400, 401, 402, 403, 404, 405, 406, 407, 408, 409, 410, 411, 412, 413, 414, 415, 416, 417, 418, 419, 420, 421, 422, 423, 424, 200, 201, 202, 203, 262, 425, 426, 427, 21, 428, 429, 430, 431, 432, 25, 433, 124, 445, 446, 447, 448, 449, 450, 451, 459, 460, 461, 452, 453, 454, 455, 456, 457, 458, 462, 463, 464, 465, 466, 467, 468, 469, 470, 471, 472] (by decide +kernel) (by decide +kernel)
set_option maxRecDepth 20000 in
theorem gL_law_L_same : GoodIn wsL_law (va_wsS RL 103 yL_same wsL_same) := goodIn_app (goodIn_of _ (by decide +kernel)) ggL_law_L_same
set_option maxRecDepth 20000 in
theorem ggL_law_L_would : GoodIn wsL_law wsL_would := goodIn_r _ [436, 273, 274, 67, 275, 276, 277, 278, 279, 280, 281, 282, 283, 284, 437, 438, 439, 2, 440, 14, 13, 261, 260, 18, 228, 135, 136, 12, 137, 95, 35, 36, 37, 38, 39, 138, 139, 140, 141, 34, 40, 41, 42, 43, 266, 267, 268, 269, 86, 87, 292, 293, 294, 17, 295, 296, 47, 297, 263, 264, 265, 298, 299, 300, 301, 302, 92, 93, 94, 303, 105, 106, 107, 108, 109, 110, 111, 304, 113, 114, 115, 305, 117, 118, 119, 306, 307, 308, 309, 112, 116, 225, 174, 175, 176, 310, 311, 312, 313, 83, 84, 85, 89, 90, 314, 186, 187, 188, 315, 316, 317, 318, 319, 205, 206, 207, 48, 320, 321, 322, 323, 401, 402, 403, 404, 405, 338, 339, 340, 341, 334, 335, 336, 71, 72, 73, 74, 441, 442, 443, 444, 164, 177, 178, 179, 180, 445, 446, 447, 448, 449, 450, 451, 452, 453, 454, 455, 456, 457, 458, 459, 460, 461] (by decide +kernel) (by decide +kernel)
set_option maxRecDepth 20000 in
theorem gL_law_L_would : GoodIn wsL_law (va_wsS RL 107 yL_would wsL_would) := goodIn_app (goodIn_of _ (by decide +kernel)) ggL_law_L_would
theorem dL_law_0 : decode cL_law 0 = .ok (.new 33, 3) := by decide +kernel
theorem dL_law_3 : decode cL_law 3 = .ok (.dup, 1) := by decide +kernel
theorem dL_law_4 : decode cL_law 4 = .ok (.invokespecial 61, 3) := by decide +kernel
theorem dL_law_7 : decode cL_law 7 = .ok (.astore_n 1, 1) := by decide +kernel
theorem dL_law_8 : decode cL_law 8 = .ok (.iconst 5, 1) := by decide +kernel
theorem dL_law_9 : decode cL_law 9 = .ok (.newarray .int, 2) := by decide +kernel
theorem dL_law_11 : decode cL_law 11 = .ok (.astore_n 2, 1) := by decide +kernel
theorem dL_law_12 : decode cL_law 12 = .ok (.bipush 64, 2) := by decide +kernel
theorem dL_law_14 : decode cL_law 14 = .ok (.newarray .int, 2) := by decide +kernel
theorem dL_law_16 : decode cL_law 16 = .ok (.astore_n 3, 1) := by decide +kernel
theorem dL_law_17 : decode cL_law 17 = .ok (.bipush 64, 2) := by decide +kernel
theorem dL_law_19 : decode cL_law 19 = .ok (.newarray .int, 2) := by decide +kernel
theorem dL_law_21 : decode cL_law 21 = .ok (.astore 4, 2) := by decide +kernel
theorem dL_law_23 : decode cL_law 23 = .ok (.aload_n 2, 1) := by decide +kernel
theorem dL_law_24 : decode cL_law 24 = .ok (.iconst 0, 1) := by decide +kernel
theorem dL_law_25 : decode cL_law 25 = .ok (.iconst 3, 1) := by decide +kernel
theorem dL_law_26 : decode cL_law 26 = .ok (.iastore, 1) := by decide +kernel
theorem dL_law_27 : decode cL_law 27 = .ok (.aload_n 2, 1) := by decide +kernel
theorem dL_law_28 : decode cL_law 28 = .ok (.iconst 1, 1) := by decide +kernel
theorem dL_law_29 : decode cL_law 29 = .ok (.iconst 1, 1) := by decide +kernel
theorem dL_law_30 : decode cL_law 30 = .ok (.iastore, 1) := by decide +kernel
theorem dL_law_31 : decode cL_law 31 = .ok (.aload_n 2, 1) := by decide +kernel
theorem dL_law_32 : decode cL_law 32 = .ok (.iconst 2, 1) := by decide +kernel
theorem dL_law_33 : decode cL_law 33 = .ok (.iconst 1, 1) := by decide +kernel
theorem dL_law_34 : decode cL_law 34 = .ok (.iastore, 1) := by decide +kernel
theorem dL_law_35 : decode cL_law 35 = .ok (.aload_n 2, 1) := by decide +kernel
theorem dL_law_36 : decode cL_law 36 = .ok (.iconst 3, 1) := by decide +kernel
theorem dL_law_37 : decode cL_law 37 = .ok (.iconst 4, 1) := by decide +kernel
theorem dL_law_38 : decode cL_law 38 = .ok (.iastore, 1) := by decide +kernel
theorem dL_law_39 : decode cL_law 39 = .ok (.iconst 0, 1) := by decide +kernel
theorem dL_law_40 : decode cL_law 40 = .ok (.istore 5, 2) := by decide +kernel
theorem dL_law_42 : decode cL_law 42 = .ok (.iload 5, 2) := by decide +kernel
theorem dL_law_44 : decode cL_law 44 = .ok (.bipush 28, 2) := by decide +kernel
theorem dL_law_46 : decode cL_law 46 = .ok (.if_icmp .ge 1394, 3) := by decide +kernel
theorem dL_law_49 : decode cL_law 49 = .ok (.aload_n 0, 1) := by decide +kernel
theorem dL_law_50 : decode cL_law 50 = .ok (.iload 5, 2) := by decide +kernel
theorem dL_law_52 : decode cL_law 52 = .ok (.invokestatic 62, 3) := by decide +kernel
theorem dL_law_55 : decode cL_law 55 = .ok (.istore 6, 2) := by decide +kernel
theorem dL_law_57 : decode cL_law 57 = .ok (.iload 5, 2) := by decide +kernel
theorem dL_law_59 : decode cL_law 59 = .ok (.iconst 4, 1) := by decide +kernel
theorem dL_law_60 : decode cL_law 60 = .ok (.if_icmp .ge 7, 3) := by decide +kernel
theorem dL_law_63 : decode cL_law 63 = .ok (.iconst 0, 1) := by decide +kernel
theorem dL_law_64 : decode cL_law 64 = .ok (.goto 10, 3) := by decide +kernel
theorem dL_law_67 : decode cL_law 67 = .ok (.iload 6, 2) := by decide +kernel
theorem dL_law_69 : decode cL_law 69 = .ok (.bipush 11, 2) := by decide +kernel
theorem dL_law_71 : decode cL_law 71 = .ok (.invokestatic 41, 3) := by decide +kernel
theorem dL_law_74 : decode cL_law 74 = .ok (.istore 7, 2) := by decide +kernel
theorem dL_law_76 : decode cL_law 76 = .ok (.aload_n 2, 1) := by decide +kernel
theorem dL_law_77 : decode cL_law 77 = .ok (.iconst 4, 1) := by decide +kernel
theorem dL_law_78 : decode cL_law 78 = .ok (.iaload, 1) := by decide +kernel
theorem dL_law_79 : decode cL_law 79 = .ok (.ifCond .ne 7, 3) := by decide +kernel
theorem dL_law_82 : decode cL_law 82 = .ok (.iconst 0, 1) := by decide +kernel
theorem dL_law_83 : decode cL_law 83 = .ok (.goto 13, 3) := by decide +kernel
theorem dL_law_86 : decode cL_law 86 = .ok (.iload 6, 2) := by decide +kernel
theorem dL_law_88 : decode cL_law 88 = .ok (.iconst 4, 1) := by decide +kernel
theorem dL_law_89 : decode cL_law 89 = .ok (.ishr, 1) := by decide +kernel
theorem dL_law_90 : decode cL_law 90 = .ok (.aload_n 2, 1) := by decide +kernel
theorem dL_law_91 : decode cL_law 91 = .ok (.iconst 4, 1) := by decide +kernel
theorem dL_law_92 : decode cL_law 92 = .ok (.iaload, 1) := by decide +kernel
theorem dL_law_93 : decode cL_law 93 = .ok (.invokestatic 41, 3) := by decide +kernel
theorem dL_law_96 : decode cL_law 96 = .ok (.istore 8, 2) := by decide +kernel
theorem dL_law_98 : decode cL_law 98 = .ok (.iload 6, 2) := by decide +kernel
theorem dL_law_100 : decode cL_law 100 = .ok (.bipush 6, 2) := by decide +kernel
theorem dL_law_102 : decode cL_law 102 = .ok (.ishr, 1) := by decide +kernel
theorem dL_law_103 : decode cL_law 103 = .ok (.bipush 60, 2) := by decide +kernel
theorem dL_law_105 : decode cL_law 105 = .ok (.invokestatic 41, 3) := by decide +kernel
theorem dL_law_108 : decode cL_law 108 = .ok (.istore 9, 2) := by decide +kernel
theorem dL_law_110 : decode cL_law 110 = .ok (.iload 7, 2) := by decide +kernel
theorem dL_law_112 : decode cL_law 112 = .ok (.iconst 4, 1) := by decide +kernel
theorem dL_law_113 : decode cL_law 113 = .ok (.if_icmp .ge 200, 3) := by decide +kernel
theorem dL_law_116 : decode cL_law 116 = .ok (.iconst 0, 1) := by decide +kernel
theorem dL_law_117 : decode cL_law 117 = .ok (.istore 10, 2) := by decide +kernel
theorem dL_law_119 : decode cL_law 119 = .ok (.iload 10, 2) := by decide +kernel
theorem dL_law_121 : decode cL_law 121 = .ok (.iconst 2, 1) := by decide +kernel
theorem dL_law_122 : decode cL_law 122 = .ok (.if_icmp .ge 188, 3) := by decide +kernel
theorem dL_law_125 : decode cL_law 125 = .ok (.aload_n 2, 1) := by decide +kernel
theorem dL_law_126 : decode cL_law 126 = .ok (.iconst 4, 1) := by decide +kernel
theorem dL_law_127 : decode cL_law 127 = .ok (.iaload, 1) := by decide +kernel
theorem dL_law_128 : decode cL_law 128 = .ok (.bipush 12, 2) := by decide +kernel
theorem dL_law_130 : decode cL_law 130 = .ok (.if_icmp .ge 180, 3) := by decide +kernel
theorem dL_law_133 : decode cL_law 133 = .ok (.iload 6, 2) := by decide +kernel
theorem dL_law_135 : decode cL_law 135 = .ok (.iconst 4, 1) := by decide +kernel
theorem dL_law_136 : decode cL_law 136 = .ok (.iconst 3, 1) := by decide +kernel
theorem dL_law_137 : decode cL_law 137 = .ok (.iload 10, 2) := by decide +kernel
theorem dL_law_139 : decode cL_law 139 = .ok (.imul, 1) := by decide +kernel
theorem dL_law_140 : decode cL_law 140 = .ok (.iadd, 1) := by decide +kernel
theorem dL_law_141 : decode cL_law 141 = .ok (.ishr, 1) := by decide +kernel
theorem dL_law_142 : decode cL_law 142 = .ok (.bipush 12, 2) := by decide +kernel
theorem dL_law_144 : decode cL_law 144 = .ok (.invokestatic 41, 3) := by decide +kernel
theorem dL_law_147 : decode cL_law 147 = .ok (.istore 11, 2) := by decide +kernel
theorem dL_law_149 : decode cL_law 149 = .ok (.iload 6, 2) := by decide +kernel
theorem dL_law_151 : decode cL_law 151 = .ok (.bipush 7, 2) := by decide +kernel
theorem dL_law_153 : decode cL_law 153 = .ok (.iconst 3, 1) := by decide +kernel
theorem dL_law_154 : decode cL_law 154 = .ok (.iload 10, 2) := by decide +kernel
theorem dL_law_156 : decode cL_law 156 = .ok (.imul, 1) := by decide +kernel
theorem dL_law_157 : decode cL_law 157 = .ok (.iadd, 1) := by decide +kernel
theorem dL_law_158 : decode cL_law 158 = .ok (.ishr, 1) := by decide +kernel
theorem dL_law_159 : decode cL_law 159 = .ok (.bipush 44, 2) := by decide +kernel
theorem dL_law_161 : decode cL_law 161 = .ok (.invokestatic 41, 3) := by decide +kernel
theorem dL_law_164 : decode cL_law 164 = .ok (.istore 12, 2) := by decide +kernel
theorem dL_law_166 : decode cL_law 166 = .ok (.iload 12, 2) := by decide +kernel
theorem dL_law_168 : decode cL_law 168 = .ok (.iload 6, 2) := by decide +kernel
theorem dL_law_170 : decode cL_law 170 = .ok (.bipush 9, 2) := by decide +kernel
theorem dL_law_172 : decode cL_law 172 = .ok (.iconst 3, 1) := by decide +kernel
theorem dL_law_173 : decode cL_law 173 = .ok (.iload 10, 2) := by decide +kernel
theorem dL_law_175 : decode cL_law 175 = .ok (.imul, 1) := by decide +kernel
theorem dL_law_176 : decode cL_law 176 = .ok (.iadd, 1) := by decide +kernel
theorem dL_law_177 : decode cL_law 177 = .ok (.ishr, 1) := by decide +kernel
theorem dL_law_178 : decode cL_law 178 = .ok (.bipush 12, 2) := by decide +kernel
theorem dL_law_180 : decode cL_law 180 = .ok (.invokestatic 41, 3) := by decide +kernel
theorem dL_law_183 : decode cL_law 183 = .ok (.iadd, 1) := by decide +kernel
theorem dL_law_184 : decode cL_law 184 = .ok (.istore 13, 2) := by decide +kernel
theorem dL_law_186 : decode cL_law 186 = .ok (.iload 11, 2) := by decide +kernel
theorem dL_law_188 : decode cL_law 188 = .ok (.iload 12, 2) := by decide +kernel
theorem dL_law_190 : decode cL_law 190 = .ok (.iload 13, 2) := by decide +kernel
theorem dL_law_192 : decode cL_law 192 = .ok (.aload_n 2, 1) := by decide +kernel
theorem dL_law_193 : decode cL_law 193 = .ok (.aload_n 3, 1) := by decide +kernel
theorem dL_law_194 : decode cL_law 194 = .ok (.invokestatic 66, 3) := by decide +kernel
theorem dL_law_197 : decode cL_law 197 = .ok (.ifCond .ne 7, 3) := by decide +kernel
theorem dL_law_200 : decode cL_law 200 = .ok (.iconst 1, 1) := by decide +kernel
theorem dL_law_201 : decode cL_law 201 = .ok (.goto 4, 3) := by decide +kernel
theorem dL_law_204 : decode cL_law 204 = .ok (.iconst 0, 1) := by decide +kernel
theorem dL_law_205 : decode cL_law 205 = .ok (.istore 14, 2) := by decide +kernel
theorem dL_law_207 : decode cL_law 207 = .ok (.iconst 0, 1) := by decide +kernel
theorem dL_law_208 : decode cL_law 208 = .ok (.istore 15, 2) := by decide +kernel
theorem dL_law_210 : decode cL_law 210 = .ok (.iconst 0, 1) := by decide +kernel
theorem dL_law_211 : decode cL_law 211 = .ok (.istore 16, 2) := by decide +kernel
theorem dL_law_213 : decode cL_law 213 = .ok (.iload 16, 2) := by decide +kernel
theorem dL_law_215 : decode cL_law 215 = .ok (.aload_n 2, 1) := by decide +kernel
theorem dL_law_216 : decode cL_law 216 = .ok (.iconst 4, 1) := by decide +kernel
theorem dL_law_217 : decode cL_law 217 = .ok (.iaload, 1) := by decide +kernel
theorem dL_law_218 : decode cL_law 218 = .ok (.if_icmp .ge 36, 3) := by decide +kernel
theorem dL_law_221 : decode cL_law 221 = .ok (.iload 15, 2) := by decide +kernel
theorem dL_law_223 : decode cL_law 223 = .ok (.aload_n 3, 1) := by decide +kernel
theorem dL_law_224 : decode cL_law 224 = .ok (.iconst 5, 1) := by decide +kernel
theorem dL_law_225 : decode cL_law 225 = .ok (.iload 16, 2) := by decide +kernel
theorem dL_law_227 : decode cL_law 227 = .ok (.imul, 1) := by decide +kernel
theorem dL_law_228 : decode cL_law 228 = .ok (.iaload, 1) := by decide +kernel
theorem dL_law_229 : decode cL_law 229 = .ok (.bipush 100, 2) := by decide +kernel
theorem dL_law_231 : decode cL_law 231 = .ok (.iload 12, 2) := by decide +kernel
theorem dL_law_233 : decode cL_law 233 = .ok (.imul, 1) := by decide +kernel
theorem dL_law_234 : decode cL_law 234 = .ok (.iload 11, 2) := by decide +kernel
theorem dL_law_236 : decode cL_law 236 = .ok (.iadd, 1) := by decide +kernel
theorem dL_law_237 : decode cL_law 237 = .ok (.if_icmp .ge 7, 3) := by decide +kernel
theorem dL_law_240 : decode cL_law 240 = .ok (.iconst 1, 1) := by decide +kernel
theorem dL_law_241 : decode cL_law 241 = .ok (.goto 4, 3) := by decide +kernel
theorem dL_law_244 : decode cL_law 244 = .ok (.iconst 0, 1) := by decide +kernel
theorem dL_law_245 : decode cL_law 245 = .ok (.iadd, 1) := by decide +kernel
theorem dL_law_246 : decode cL_law 246 = .ok (.istore 15, 2) := by decide +kernel
theorem dL_law_248 : decode cL_law 248 = .ok (.iinc 16 1, 3) := by decide +kernel
theorem dL_law_251 : decode cL_law 251 = .ok (.goto (-38), 3) := by decide +kernel
theorem dL_law_254 : decode cL_law 254 = .ok (.aload_n 1, 1) := by decide +kernel
theorem dL_law_255 : decode cL_law 255 = .ok (.iload 11, 2) := by decide +kernel
theorem dL_law_257 : decode cL_law 257 = .ok (.iload 12, 2) := by decide +kernel
theorem dL_law_259 : decode cL_law 259 = .ok (.iload 13, 2) := by decide +kernel
theorem dL_law_261 : decode cL_law 261 = .ok (.invokevirtual 70, 3) := by decide +kernel
theorem dL_law_264 : decode cL_law 264 = .ok (.iload 14, 2) := by decide +kernel
theorem dL_law_266 : decode cL_law 266 = .ok (.ifCond .eq 8, 3) := by decide +kernel
theorem dL_law_269 : decode cL_law 269 = .ok (.iload 15, 2) := by decide +kernel
theorem dL_law_271 : decode cL_law 271 = .ok (.goto 5, 3) := by decide +kernel
theorem dL_law_274 : decode cL_law 274 = .ok (.bipush (-5), 2) := by decide +kernel
theorem dL_law_276 : decode cL_law 276 = .ok (.if_icmp .eq 5, 3) := by decide +kernel
theorem dL_law_279 : decode cL_law 279 = .ok (.iconst 0, 1) := by decide +kernel
theorem dL_law_280 : decode cL_law 280 = .ok (.ireturn, 1) := by decide +kernel
theorem dL_law_281 : decode cL_law 281 = .ok (.iload 14, 2) := by decide +kernel
theorem dL_law_283 : decode cL_law 283 = .ok (.ifCond .eq 16, 3) := by decide +kernel
theorem dL_law_286 : decode cL_law 286 = .ok (.iload 11, 2) := by decide +kernel
theorem dL_law_288 : decode cL_law 288 = .ok (.iload 12, 2) := by decide +kernel
theorem dL_law_290 : decode cL_law 290 = .ok (.iload 13, 2) := by decide +kernel
theorem dL_law_292 : decode cL_law 292 = .ok (.iconst 0, 1) := by decide +kernel
theorem dL_law_293 : decode cL_law 293 = .ok (.iconst 0, 1) := by decide +kernel
theorem dL_law_294 : decode cL_law 294 = .ok (.aload_n 2, 1) := by decide +kernel
theorem dL_law_295 : decode cL_law 295 = .ok (.aload_n 3, 1) := by decide +kernel
theorem dL_law_296 : decode cL_law 296 = .ok (.invokestatic 73, 3) := by decide +kernel
theorem dL_law_299 : decode cL_law 299 = .ok (.aload_n 2, 1) := by decide +kernel
theorem dL_law_300 : decode cL_law 300 = .ok (.aload_n 3, 1) := by decide +kernel
theorem dL_law_301 : decode cL_law 301 = .ok (.invokestatic 77, 3) := by decide +kernel
theorem dL_law_304 : decode cL_law 304 = .ok (.iinc 10 1, 3) := by decide +kernel
theorem dL_law_307 : decode cL_law 307 = .ok (.goto (-188), 3) := by decide +kernel
theorem dL_law_310 : decode cL_law 310 = .ok (.goto 1080, 3) := by decide +kernel
theorem dL_law_313 : decode cL_law 313 = .ok (.iload 7, 2) := by decide +kernel
theorem dL_law_315 : decode cL_law 315 = .ok (.iconst 4, 1) := by decide +kernel
theorem dL_law_316 : decode cL_law 316 = .ok (.if_icmp .ne 79, 3) := by decide +kernel
theorem dL_law_319 : decode cL_law 319 = .ok (.aload_n 1, 1) := by decide +kernel
theorem dL_law_320 : decode cL_law 320 = .ok (.iload 8, 2) := by decide +kernel
theorem dL_law_322 : decode cL_law 322 = .ok (.invokevirtual 81, 3) := by decide +kernel
theorem dL_law_325 : decode cL_law 325 = .ok (.aload_n 2, 1) := by decide +kernel
theorem dL_law_326 : decode cL_law 326 = .ok (.iconst 4, 1) := by decide +kernel
theorem dL_law_327 : decode cL_law 327 = .ok (.iaload, 1) := by decide +kernel
theorem dL_law_328 : decode cL_law 328 = .ok (.ifCond .ne 7, 3) := by decide +kernel
theorem dL_law_331 : decode cL_law 331 = .ok (.iconst (-1), 1) := by decide +kernel
theorem dL_law_332 : decode cL_law 332 = .ok (.goto 8, 3) := by decide +kernel
theorem dL_law_335 : decode cL_law 335 = .ok (.aload_n 2, 1) := by decide +kernel
theorem dL_law_336 : decode cL_law 336 = .ok (.iconst 4, 1) := by decide +kernel
theorem dL_law_337 : decode cL_law 337 = .ok (.iaload, 1) := by decide +kernel
theorem dL_law_338 : decode cL_law 338 = .ok (.iconst 1, 1) := by decide +kernel
theorem dL_law_339 : decode cL_law 339 = .ok (.isub, 1) := by decide +kernel
theorem dL_law_340 : decode cL_law 340 = .ok (.if_icmp .eq 5, 3) := by decide +kernel
theorem dL_law_343 : decode cL_law 343 = .ok (.iconst 0, 1) := by decide +kernel
theorem dL_law_344 : decode cL_law 344 = .ok (.ireturn, 1) := by decide +kernel
theorem dL_law_345 : decode cL_law 345 = .ok (.aload_n 2, 1) := by decide +kernel
theorem dL_law_346 : decode cL_law 346 = .ok (.iconst 4, 1) := by decide +kernel
theorem dL_law_347 : decode cL_law 347 = .ok (.iaload, 1) := by decide +kernel
theorem dL_law_348 : decode cL_law 348 = .ok (.ifCond .le 1042, 3) := by decide +kernel
theorem dL_law_351 : decode cL_law 351 = .ok (.iconst 5, 1) := by decide +kernel
theorem dL_law_352 : decode cL_law 352 = .ok (.iload 8, 2) := by decide +kernel
theorem dL_law_354 : decode cL_law 354 = .ok (.imul, 1) := by decide +kernel
theorem dL_law_355 : decode cL_law 355 = .ok (.istore 10, 2) := by decide +kernel
theorem dL_law_357 : decode cL_law 357 = .ok (.iload 10, 2) := by decide +kernel
theorem dL_law_359 : decode cL_law 359 = .ok (.iconst 5, 1) := by decide +kernel
theorem dL_law_360 : decode cL_law 360 = .ok (.iadd, 1) := by decide +kernel
theorem dL_law_361 : decode cL_law 361 = .ok (.iconst 5, 1) := by decide +kernel
theorem dL_law_362 : decode cL_law 362 = .ok (.aload_n 2, 1) := by decide +kernel
theorem dL_law_363 : decode cL_law 363 = .ok (.iconst 4, 1) := by decide +kernel
theorem dL_law_364 : decode cL_law 364 = .ok (.iaload, 1) := by decide +kernel
theorem dL_law_365 : decode cL_law 365 = .ok (.imul, 1) := by decide +kernel
theorem dL_law_366 : decode cL_law 366 = .ok (.if_icmp .ge 19, 3) := by decide +kernel
theorem dL_law_369 : decode cL_law 369 = .ok (.aload_n 3, 1) := by decide +kernel
theorem dL_law_370 : decode cL_law 370 = .ok (.iload 10, 2) := by decide +kernel
theorem dL_law_372 : decode cL_law 372 = .ok (.aload_n 3, 1) := by decide +kernel
theorem dL_law_373 : decode cL_law 373 = .ok (.iload 10, 2) := by decide +kernel
theorem dL_law_375 : decode cL_law 375 = .ok (.iconst 5, 1) := by decide +kernel
theorem dL_law_376 : decode cL_law 376 = .ok (.iadd, 1) := by decide +kernel
theorem dL_law_377 : decode cL_law 377 = .ok (.iaload, 1) := by decide +kernel
theorem dL_law_378 : decode cL_law 378 = .ok (.iastore, 1) := by decide +kernel
theorem dL_law_379 : decode cL_law 379 = .ok (.iinc 10 1, 3) := by decide +kernel
theorem dL_law_382 : decode cL_law 382 = .ok (.goto (-25), 3) := by decide +kernel
theorem dL_law_385 : decode cL_law 385 = .ok (.aload_n 2, 1) := by decide +kernel
theorem dL_law_386 : decode cL_law 386 = .ok (.iconst 4, 1) := by decide +kernel
theorem dL_law_387 : decode cL_law 387 = .ok (.dup2, 1) := by decide +kernel
theorem dL_law_388 : decode cL_law 388 = .ok (.iaload, 1) := by decide +kernel
theorem dL_law_389 : decode cL_law 389 = .ok (.iconst 1, 1) := by decide +kernel
theorem dL_law_390 : decode cL_law 390 = .ok (.isub, 1) := by decide +kernel
theorem dL_law_391 : decode cL_law 391 = .ok (.iastore, 1) := by decide +kernel
theorem dL_law_392 : decode cL_law 392 = .ok (.goto 998, 3) := by decide +kernel
theorem dL_law_395 : decode cL_law 395 = .ok (.iload 7, 2) := by decide +kernel
theorem dL_law_397 : decode cL_law 397 = .ok (.iconst 5, 1) := by decide +kernel
theorem dL_law_398 : decode cL_law 398 = .ok (.if_icmp .ne 111, 3) := by decide +kernel
theorem dL_law_401 : decode cL_law 401 = .ok (.aload_n 2, 1) := by decide +kernel
theorem dL_law_402 : decode cL_law 402 = .ok (.iconst 4, 1) := by decide +kernel
theorem dL_law_403 : decode cL_law 403 = .ok (.iaload, 1) := by decide +kernel
theorem dL_law_404 : decode cL_law 404 = .ok (.ifCond .le 105, 3) := by decide +kernel
theorem dL_law_407 : decode cL_law 407 = .ok (.iload 6, 2) := by decide +kernel
theorem dL_law_409 : decode cL_law 409 = .ok (.bipush 8, 2) := by decide +kernel
theorem dL_law_411 : decode cL_law 411 = .ok (.ishr, 1) := by decide +kernel
theorem dL_law_412 : decode cL_law 412 = .ok (.bipush 13, 2) := by decide +kernel
theorem dL_law_414 : decode cL_law 414 = .ok (.invokestatic 41, 3) := by decide +kernel
theorem dL_law_417 : decode cL_law 417 = .ok (.istore 10, 2) := by decide +kernel
theorem dL_law_419 : decode cL_law 419 = .ok (.iload 6, 2) := by decide +kernel
theorem dL_law_421 : decode cL_law 421 = .ok (.bipush 10, 2) := by decide +kernel
theorem dL_law_423 : decode cL_law 423 = .ok (.ishr, 1) := by decide +kernel
theorem dL_law_424 : decode cL_law 424 = .ok (.iconst 2, 1) := by decide +kernel
theorem dL_law_425 : decode cL_law 425 = .ok (.invokestatic 41, 3) := by decide +kernel
theorem dL_law_428 : decode cL_law 428 = .ok (.ifCond .ne 7, 3) := by decide +kernel
theorem dL_law_431 : decode cL_law 431 = .ok (.iconst 1, 1) := by decide +kernel
theorem dL_law_432 : decode cL_law 432 = .ok (.goto 4, 3) := by decide +kernel
theorem dL_law_435 : decode cL_law 435 = .ok (.iconst 0, 1) := by decide +kernel
theorem dL_law_436 : decode cL_law 436 = .ok (.istore 11, 2) := by decide +kernel
theorem dL_law_438 : decode cL_law 438 = .ok (.aload_n 1, 1) := by decide +kernel
theorem dL_law_439 : decode cL_law 439 = .ok (.iload 8, 2) := by decide +kernel
theorem dL_law_441 : decode cL_law 441 = .ok (.iload 10, 2) := by decide +kernel
theorem dL_law_443 : decode cL_law 443 = .ok (.invokevirtual 84, 3) := by decide +kernel
theorem dL_law_446 : decode cL_law 446 = .ok (.aload_n 3, 1) := by decide +kernel
theorem dL_law_447 : decode cL_law 447 = .ok (.iconst 5, 1) := by decide +kernel
theorem dL_law_448 : decode cL_law 448 = .ok (.iload 8, 2) := by decide +kernel
theorem dL_law_450 : decode cL_law 450 = .ok (.imul, 1) := by decide +kernel
theorem dL_law_451 : decode cL_law 451 = .ok (.iconst 2, 1) := by decide +kernel
theorem dL_law_452 : decode cL_law 452 = .ok (.iadd, 1) := by decide +kernel
theorem dL_law_453 : decode cL_law 453 = .ok (.iaload, 1) := by decide +kernel
theorem dL_law_454 : decode cL_law 454 = .ok (.if_icmp .ne 22, 3) := by decide +kernel
theorem dL_law_457 : decode cL_law 457 = .ok (.aload_n 1, 1) := by decide +kernel
theorem dL_law_458 : decode cL_law 458 = .ok (.iload 8, 2) := by decide +kernel
theorem dL_law_460 : decode cL_law 460 = .ok (.iload 11, 2) := by decide +kernel
theorem dL_law_462 : decode cL_law 462 = .ok (.invokevirtual 87, 3) := by decide +kernel
theorem dL_law_465 : decode cL_law 465 = .ok (.aload_n 3, 1) := by decide +kernel
theorem dL_law_466 : decode cL_law 466 = .ok (.iconst 5, 1) := by decide +kernel
theorem dL_law_467 : decode cL_law 467 = .ok (.iload 8, 2) := by decide +kernel
theorem dL_law_469 : decode cL_law 469 = .ok (.imul, 1) := by decide +kernel
theorem dL_law_470 : decode cL_law 470 = .ok (.iconst 3, 1) := by decide +kernel
theorem dL_law_471 : decode cL_law 471 = .ok (.iadd, 1) := by decide +kernel
theorem dL_law_472 : decode cL_law 472 = .ok (.iaload, 1) := by decide +kernel
theorem dL_law_473 : decode cL_law 473 = .ok (.if_icmp .eq 5, 3) := by decide +kernel
theorem dL_law_476 : decode cL_law 476 = .ok (.iconst 0, 1) := by decide +kernel
theorem dL_law_477 : decode cL_law 477 = .ok (.ireturn, 1) := by decide +kernel
theorem dL_law_478 : decode cL_law 478 = .ok (.aload_n 3, 1) := by decide +kernel
theorem dL_law_479 : decode cL_law 479 = .ok (.iconst 5, 1) := by decide +kernel
theorem dL_law_480 : decode cL_law 480 = .ok (.iload 8, 2) := by decide +kernel
theorem dL_law_482 : decode cL_law 482 = .ok (.imul, 1) := by decide +kernel
theorem dL_law_483 : decode cL_law 483 = .ok (.iconst 2, 1) := by decide +kernel
theorem dL_law_484 : decode cL_law 484 = .ok (.iadd, 1) := by decide +kernel
theorem dL_law_485 : decode cL_law 485 = .ok (.iload 10, 2) := by decide +kernel
theorem dL_law_487 : decode cL_law 487 = .ok (.iastore, 1) := by decide +kernel
theorem dL_law_488 : decode cL_law 488 = .ok (.aload_n 3, 1) := by decide +kernel
theorem dL_law_489 : decode cL_law 489 = .ok (.iconst 5, 1) := by decide +kernel
theorem dL_law_490 : decode cL_law 490 = .ok (.iload 8, 2) := by decide +kernel
theorem dL_law_492 : decode cL_law 492 = .ok (.imul, 1) := by decide +kernel
theorem dL_law_493 : decode cL_law 493 = .ok (.iconst 3, 1) := by decide +kernel
theorem dL_law_494 : decode cL_law 494 = .ok (.iadd, 1) := by decide +kernel
theorem dL_law_495 : decode cL_law 495 = .ok (.iload 11, 2) := by decide +kernel
theorem dL_law_497 : decode cL_law 497 = .ok (.ifCond .eq 7, 3) := by decide +kernel
theorem dL_law_500 : decode cL_law 500 = .ok (.iconst 1, 1) := by decide +kernel
theorem dL_law_501 : decode cL_law 501 = .ok (.goto 4, 3) := by decide +kernel
theorem dL_law_504 : decode cL_law 504 = .ok (.iconst 0, 1) := by decide +kernel
theorem dL_law_505 : decode cL_law 505 = .ok (.iastore, 1) := by decide +kernel
theorem dL_law_506 : decode cL_law 506 = .ok (.goto 884, 3) := by decide +kernel
theorem dL_law_509 : decode cL_law 509 = .ok (.iload 7, 2) := by decide +kernel
theorem dL_law_511 : decode cL_law 511 = .ok (.bipush 6, 2) := by decide +kernel
theorem dL_law_513 : decode cL_law 513 = .ok (.if_icmp .ne 186, 3) := by decide +kernel
theorem dL_law_516 : decode cL_law 516 = .ok (.iconst 1, 1) := by decide +kernel
theorem dL_law_517 : decode cL_law 517 = .ok (.iload 6, 2) := by decide +kernel
theorem dL_law_519 : decode cL_law 519 = .ok (.bipush 11, 2) := by decide +kernel
theorem dL_law_521 : decode cL_law 521 = .ok (.ishr, 1) := by decide +kernel
theorem dL_law_522 : decode cL_law 522 = .ok (.iconst 5, 1) := by decide +kernel
theorem dL_law_523 : decode cL_law 523 = .ok (.invokestatic 41, 3) := by decide +kernel
theorem dL_law_526 : decode cL_law 526 = .ok (.iadd, 1) := by decide +kernel
theorem dL_law_527 : decode cL_law 527 = .ok (.istore 10, 2) := by decide +kernel
theorem dL_law_529 : decode cL_law 529 = .ok (.iconst 0, 1) := by decide +kernel
theorem dL_law_530 : decode cL_law 530 = .ok (.istore 11, 2) := by decide +kernel
theorem dL_law_532 : decode cL_law 532 = .ok (.iconst 0, 1) := by decide +kernel
theorem dL_law_533 : decode cL_law 533 = .ok (.istore 12, 2) := by decide +kernel
theorem dL_law_535 : decode cL_law 535 = .ok (.iconst 0, 1) := by decide +kernel
theorem dL_law_536 : decode cL_law 536 = .ok (.istore 13, 2) := by decide +kernel
theorem dL_law_538 : decode cL_law 538 = .ok (.iload 13, 2) := by decide +kernel
theorem dL_law_540 : decode cL_law 540 = .ok (.aload_n 2, 1) := by decide +kernel
theorem dL_law_541 : decode cL_law 541 = .ok (.iconst 4, 1) := by decide +kernel
theorem dL_law_542 : decode cL_law 542 = .ok (.iaload, 1) := by decide +kernel
theorem dL_law_543 : decode cL_law 543 = .ok (.if_icmp .ge 50, 3) := by decide +kernel
theorem dL_law_546 : decode cL_law 546 = .ok (.iload 11, 2) := by decide +kernel
theorem dL_law_548 : decode cL_law 548 = .ok (.ifCond .ne 32, 3) := by decide +kernel
theorem dL_law_551 : decode cL_law 551 = .ok (.aload_n 3, 1) := by decide +kernel
theorem dL_law_552 : decode cL_law 552 = .ok (.iconst 5, 1) := by decide +kernel
theorem dL_law_553 : decode cL_law 553 = .ok (.iload 13, 2) := by decide +kernel
theorem dL_law_555 : decode cL_law 555 = .ok (.imul, 1) := by decide +kernel
theorem dL_law_556 : decode cL_law 556 = .ok (.iconst 1, 1) := by decide +kernel
theorem dL_law_557 : decode cL_law 557 = .ok (.iadd, 1) := by decide +kernel
theorem dL_law_558 : decode cL_law 558 = .ok (.iaload, 1) := by decide +kernel
theorem dL_law_559 : decode cL_law 559 = .ok (.iload 9, 2) := by decide +kernel
theorem dL_law_561 : decode cL_law 561 = .ok (.if_icmp .lt 23, 3) := by decide +kernel
theorem dL_law_564 : decode cL_law 564 = .ok (.aload_n 3, 1) := by decide +kernel
theorem dL_law_565 : decode cL_law 565 = .ok (.iconst 5, 1) := by decide +kernel
theorem dL_law_566 : decode cL_law 566 = .ok (.iload 13, 2) := by decide +kernel
theorem dL_law_568 : decode cL_law 568 = .ok (.imul, 1) := by decide +kernel
theorem dL_law_569 : decode cL_law 569 = .ok (.iconst 1, 1) := by decide +kernel
theorem dL_law_570 : decode cL_law 570 = .ok (.iadd, 1) := by decide +kernel
theorem dL_law_571 : decode cL_law 571 = .ok (.iaload, 1) := by decide +kernel
theorem dL_law_572 : decode cL_law 572 = .ok (.iload 10, 2) := by decide +kernel
theorem dL_law_574 : decode cL_law 574 = .ok (.iadd, 1) := by decide +kernel
theorem dL_law_575 : decode cL_law 575 = .ok (.bipush 59, 2) := by decide +kernel
theorem dL_law_577 : decode cL_law 577 = .ok (.if_icmp .le 7, 3) := by decide +kernel
theorem dL_law_580 : decode cL_law 580 = .ok (.iconst 1, 1) := by decide +kernel
theorem dL_law_581 : decode cL_law 581 = .ok (.goto 4, 3) := by decide +kernel
theorem dL_law_584 : decode cL_law 584 = .ok (.iconst 0, 1) := by decide +kernel
theorem dL_law_585 : decode cL_law 585 = .ok (.istore 11, 2) := by decide +kernel
theorem dL_law_587 : decode cL_law 587 = .ok (.iinc 13 1, 3) := by decide +kernel
theorem dL_law_590 : decode cL_law 590 = .ok (.goto (-52), 3) := by decide +kernel
theorem dL_law_593 : decode cL_law 593 = .ok (.iload 11, 2) := by decide +kernel
theorem dL_law_595 : decode cL_law 595 = .ok (.ifCond .eq 6, 3) := by decide +kernel
theorem dL_law_598 : decode cL_law 598 = .ok (.goto 836, 3) := by decide +kernel
theorem dL_law_601 : decode cL_law 601 = .ok (.iconst 0, 1) := by decide +kernel
theorem dL_law_602 : decode cL_law 602 = .ok (.istore 13, 2) := by decide +kernel
theorem dL_law_604 : decode cL_law 604 = .ok (.iload 13, 2) := by decide +kernel
theorem dL_law_606 : decode cL_law 606 = .ok (.aload_n 2, 1) := by decide +kernel
theorem dL_law_607 : decode cL_law 607 = .ok (.iconst 4, 1) := by decide +kernel
theorem dL_law_608 : decode cL_law 608 = .ok (.iaload, 1) := by decide +kernel
theorem dL_law_609 : decode cL_law 609 = .ok (.if_icmp .ge 72, 3) := by decide +kernel
theorem dL_law_612 : decode cL_law 612 = .ok (.aload_n 3, 1) := by decide +kernel
theorem dL_law_613 : decode cL_law 613 = .ok (.iconst 5, 1) := by decide +kernel
theorem dL_law_614 : decode cL_law 614 = .ok (.iload 13, 2) := by decide +kernel
theorem dL_law_616 : decode cL_law 616 = .ok (.imul, 1) := by decide +kernel
theorem dL_law_617 : decode cL_law 617 = .ok (.iconst 1, 1) := by decide +kernel
theorem dL_law_618 : decode cL_law 618 = .ok (.iadd, 1) := by decide +kernel
theorem dL_law_619 : decode cL_law 619 = .ok (.iaload, 1) := by decide +kernel
theorem dL_law_620 : decode cL_law 620 = .ok (.iload 9, 2) := by decide +kernel
theorem dL_law_622 : decode cL_law 622 = .ok (.if_icmp .ge 6, 3) := by decide +kernel
theorem dL_law_625 : decode cL_law 625 = .ok (.goto 50, 3) := by decide +kernel
theorem dL_law_628 : decode cL_law 628 = .ok (.aload_n 3, 1) := by decide +kernel
theorem dL_law_629 : decode cL_law 629 = .ok (.iconst 5, 1) := by decide +kernel
theorem dL_law_630 : decode cL_law 630 = .ok (.iload 13, 2) := by decide +kernel
theorem dL_law_632 : decode cL_law 632 = .ok (.imul, 1) := by decide +kernel
theorem dL_law_633 : decode cL_law 633 = .ok (.iconst 1, 1) := by decide +kernel
theorem dL_law_634 : decode cL_law 634 = .ok (.iadd, 1) := by decide +kernel
theorem dL_law_635 : decode cL_law 635 = .ok (.dup2, 1) := by decide +kernel
theorem dL_law_636 : decode cL_law 636 = .ok (.iaload, 1) := by decide +kernel
theorem dL_law_637 : decode cL_law 637 = .ok (.iload 10, 2) := by decide +kernel
theorem dL_law_639 : decode cL_law 639 = .ok (.iadd, 1) := by decide +kernel
theorem dL_law_640 : decode cL_law 640 = .ok (.iastore, 1) := by decide +kernel
theorem dL_law_641 : decode cL_law 641 = .ok (.aload_n 3, 1) := by decide +kernel
theorem dL_law_642 : decode cL_law 642 = .ok (.iconst 5, 1) := by decide +kernel
theorem dL_law_643 : decode cL_law 643 = .ok (.iload 13, 2) := by decide +kernel
theorem dL_law_645 : decode cL_law 645 = .ok (.imul, 1) := by decide +kernel
theorem dL_law_646 : decode cL_law 646 = .ok (.iaload, 1) := by decide +kernel
theorem dL_law_647 : decode cL_law 647 = .ok (.bipush 100, 2) := by decide +kernel
theorem dL_law_649 : decode cL_law 649 = .ok (.idiv, 1) := by decide +kernel
theorem dL_law_650 : decode cL_law 650 = .ok (.iload 9, 2) := by decide +kernel
theorem dL_law_652 : decode cL_law 652 = .ok (.if_icmp .lt 20, 3) := by decide +kernel
theorem dL_law_655 : decode cL_law 655 = .ok (.aload_n 3, 1) := by decide +kernel
theorem dL_law_656 : decode cL_law 656 = .ok (.iconst 5, 1) := by decide +kernel
theorem dL_law_657 : decode cL_law 657 = .ok (.iload 13, 2) := by decide +kernel
theorem dL_law_659 : decode cL_law 659 = .ok (.imul, 1) := by decide +kernel
theorem dL_law_660 : decode cL_law 660 = .ok (.dup2, 1) := by decide +kernel
theorem dL_law_661 : decode cL_law 661 = .ok (.iaload, 1) := by decide +kernel
theorem dL_law_662 : decode cL_law 662 = .ok (.bipush 100, 2) := by decide +kernel
theorem dL_law_664 : decode cL_law 664 = .ok (.iload 10, 2) := by decide +kernel
theorem dL_law_666 : decode cL_law 666 = .ok (.imul, 1) := by decide +kernel
theorem dL_law_667 : decode cL_law 667 = .ok (.iadd, 1) := by decide +kernel
theorem dL_law_668 : decode cL_law 668 = .ok (.iastore, 1) := by decide +kernel
theorem dL_law_669 : decode cL_law 669 = .ok (.goto 6, 3) := by decide +kernel
theorem dL_law_672 : decode cL_law 672 = .ok (.iinc 12 1, 3) := by decide +kernel
theorem dL_law_675 : decode cL_law 675 = .ok (.iinc 13 1, 3) := by decide +kernel
theorem dL_law_678 : decode cL_law 678 = .ok (.goto (-74), 3) := by decide +kernel
theorem dL_law_681 : decode cL_law 681 = .ok (.aload_n 1, 1) := by decide +kernel
theorem dL_law_682 : decode cL_law 682 = .ok (.iload 9, 2) := by decide +kernel
theorem dL_law_684 : decode cL_law 684 = .ok (.iload 10, 2) := by decide +kernel
theorem dL_law_686 : decode cL_law 686 = .ok (.invokevirtual 91, 3) := by decide +kernel
theorem dL_law_689 : decode cL_law 689 = .ok (.iload 12, 2) := by decide +kernel
theorem dL_law_691 : decode cL_law 691 = .ok (.if_icmp .eq 5, 3) := by decide +kernel
theorem dL_law_694 : decode cL_law 694 = .ok (.iconst 0, 1) := by decide +kernel
theorem dL_law_695 : decode cL_law 695 = .ok (.ireturn, 1) := by decide +kernel
theorem dL_law_696 : decode cL_law 696 = .ok (.goto 694, 3) := by decide +kernel
theorem dL_law_699 : decode cL_law 699 = .ok (.iload 7, 2) := by decide +kernel
theorem dL_law_701 : decode cL_law 701 = .ok (.bipush 7, 2) := by decide +kernel
theorem dL_law_703 : decode cL_law 703 = .ok (.if_icmp .ne 240, 3) := by decide +kernel
theorem dL_law_706 : decode cL_law 706 = .ok (.iconst 1, 1) := by decide +kernel
theorem dL_law_707 : decode cL_law 707 = .ok (.iload 6, 2) := by decide +kernel
theorem dL_law_709 : decode cL_law 709 = .ok (.bipush 11, 2) := by decide +kernel
theorem dL_law_711 : decode cL_law 711 = .ok (.ishr, 1) := by decide +kernel
theorem dL_law_712 : decode cL_law 712 = .ok (.bipush 8, 2) := by decide +kernel
theorem dL_law_714 : decode cL_law 714 = .ok (.invokestatic 41, 3) := by decide +kernel
theorem dL_law_717 : decode cL_law 717 = .ok (.iadd, 1) := by decide +kernel
theorem dL_law_718 : decode cL_law 718 = .ok (.istore 10, 2) := by decide +kernel
theorem dL_law_720 : decode cL_law 720 = .ok (.iconst 0, 1) := by decide +kernel
theorem dL_law_721 : decode cL_law 721 = .ok (.istore 11, 2) := by decide +kernel
theorem dL_law_723 : decode cL_law 723 = .ok (.iconst 0, 1) := by decide +kernel
theorem dL_law_724 : decode cL_law 724 = .ok (.istore 12, 2) := by decide +kernel
theorem dL_law_726 : decode cL_law 726 = .ok (.iload 12, 2) := by decide +kernel
theorem dL_law_728 : decode cL_law 728 = .ok (.aload_n 2, 1) := by decide +kernel
theorem dL_law_729 : decode cL_law 729 = .ok (.iconst 4, 1) := by decide +kernel
theorem dL_law_730 : decode cL_law 730 = .ok (.iaload, 1) := by decide +kernel
theorem dL_law_731 : decode cL_law 731 = .ok (.if_icmp .ge 180, 3) := by decide +kernel
theorem dL_law_734 : decode cL_law 734 = .ok (.iconst (-1), 1) := by decide +kernel
theorem dL_law_735 : decode cL_law 735 = .ok (.istore 13, 2) := by decide +kernel
theorem dL_law_737 : decode cL_law 737 = .ok (.iconst (-1), 1) := by decide +kernel
theorem dL_law_738 : decode cL_law 738 = .ok (.istore 14, 2) := by decide +kernel
theorem dL_law_740 : decode cL_law 740 = .ok (.aload_n 3, 1) := by decide +kernel
theorem dL_law_741 : decode cL_law 741 = .ok (.iconst 5, 1) := by decide +kernel
theorem dL_law_742 : decode cL_law 742 = .ok (.iload 12, 2) := by decide +kernel
theorem dL_law_744 : decode cL_law 744 = .ok (.imul, 1) := by decide +kernel
theorem dL_law_745 : decode cL_law 745 = .ok (.iaload, 1) := by decide +kernel
theorem dL_law_746 : decode cL_law 746 = .ok (.bipush 100, 2) := by decide +kernel
theorem dL_law_748 : decode cL_law 748 = .ok (.idiv, 1) := by decide +kernel
theorem dL_law_749 : decode cL_law 749 = .ok (.istore 15, 2) := by decide +kernel
theorem dL_law_751 : decode cL_law 751 = .ok (.iload 15, 2) := by decide +kernel
theorem dL_law_753 : decode cL_law 753 = .ok (.aload_n 3, 1) := by decide +kernel
theorem dL_law_754 : decode cL_law 754 = .ok (.iconst 5, 1) := by decide +kernel
theorem dL_law_755 : decode cL_law 755 = .ok (.iload 12, 2) := by decide +kernel
theorem dL_law_757 : decode cL_law 757 = .ok (.imul, 1) := by decide +kernel
theorem dL_law_758 : decode cL_law 758 = .ok (.iconst 1, 1) := by decide +kernel
theorem dL_law_759 : decode cL_law 759 = .ok (.iadd, 1) := by decide +kernel
theorem dL_law_760 : decode cL_law 760 = .ok (.iaload, 1) := by decide +kernel
theorem dL_law_761 : decode cL_law 761 = .ok (.if_icmp .gt 66, 3) := by decide +kernel
theorem dL_law_764 : decode cL_law 764 = .ok (.iload 15, 2) := by decide +kernel
theorem dL_law_766 : decode cL_law 766 = .ok (.iload 9, 2) := by decide +kernel
theorem dL_law_768 : decode cL_law 768 = .ok (.if_icmp .lt 16, 3) := by decide +kernel
theorem dL_law_771 : decode cL_law 771 = .ok (.iload 15, 2) := by decide +kernel
theorem dL_law_773 : decode cL_law 773 = .ok (.iload 9, 2) := by decide +kernel
theorem dL_law_775 : decode cL_law 775 = .ok (.iload 10, 2) := by decide +kernel
theorem dL_law_777 : decode cL_law 777 = .ok (.iadd, 1) := by decide +kernel
theorem dL_law_778 : decode cL_law 778 = .ok (.if_icmp .ge 6, 3) := by decide +kernel
theorem dL_law_781 : decode cL_law 781 = .ok (.goto 40, 3) := by decide +kernel
theorem dL_law_784 : decode cL_law 784 = .ok (.iload 15, 2) := by decide +kernel
theorem dL_law_786 : decode cL_law 786 = .ok (.iload 9, 2) := by decide +kernel
theorem dL_law_788 : decode cL_law 788 = .ok (.if_icmp .ge 8, 3) := by decide +kernel
theorem dL_law_791 : decode cL_law 791 = .ok (.iload 15, 2) := by decide +kernel
theorem dL_law_793 : decode cL_law 793 = .ok (.goto 8, 3) := by decide +kernel
theorem dL_law_796 : decode cL_law 796 = .ok (.iload 15, 2) := by decide +kernel
theorem dL_law_798 : decode cL_law 798 = .ok (.iload 10, 2) := by decide +kernel
theorem dL_law_800 : decode cL_law 800 = .ok (.isub, 1) := by decide +kernel
theorem dL_law_801 : decode cL_law 801 = .ok (.istore 16, 2) := by decide +kernel
theorem dL_law_803 : decode cL_law 803 = .ok (.iload 13, 2) := by decide +kernel
theorem dL_law_805 : decode cL_law 805 = .ok (.ifCond .ge 8, 3) := by decide +kernel
theorem dL_law_808 : decode cL_law 808 = .ok (.iload 16, 2) := by decide +kernel
theorem dL_law_810 : decode cL_law 810 = .ok (.goto 5, 3) := by decide +kernel
theorem dL_law_813 : decode cL_law 813 = .ok (.iload 13, 2) := by decide +kernel
theorem dL_law_815 : decode cL_law 815 = .ok (.istore 13, 2) := by decide +kernel
theorem dL_law_817 : decode cL_law 817 = .ok (.iload 16, 2) := by decide +kernel
theorem dL_law_819 : decode cL_law 819 = .ok (.istore 14, 2) := by decide +kernel
theorem dL_law_821 : decode cL_law 821 = .ok (.iinc 15 1, 3) := by decide +kernel
theorem dL_law_824 : decode cL_law 824 = .ok (.goto (-73), 3) := by decide +kernel
theorem dL_law_827 : decode cL_law 827 = .ok (.iload 13, 2) := by decide +kernel
theorem dL_law_829 : decode cL_law 829 = .ok (.ifCond .ge 6, 3) := by decide +kernel
theorem dL_law_832 : decode cL_law 832 = .ok (.goto 73, 3) := by decide +kernel
theorem dL_law_835 : decode cL_law 835 = .ok (.aload_n 3, 1) := by decide +kernel
theorem dL_law_836 : decode cL_law 836 = .ok (.iconst 5, 1) := by decide +kernel
theorem dL_law_837 : decode cL_law 837 = .ok (.iload 12, 2) := by decide +kernel
theorem dL_law_839 : decode cL_law 839 = .ok (.imul, 1) := by decide +kernel
theorem dL_law_840 : decode cL_law 840 = .ok (.iaload, 1) := by decide +kernel
theorem dL_law_841 : decode cL_law 841 = .ok (.bipush 100, 2) := by decide +kernel
theorem dL_law_843 : decode cL_law 843 = .ok (.irem, 1) := by decide +kernel
theorem dL_law_844 : decode cL_law 844 = .ok (.istore 15, 2) := by decide +kernel
theorem dL_law_846 : decode cL_law 846 = .ok (.aload_n 3, 1) := by decide +kernel
theorem dL_law_847 : decode cL_law 847 = .ok (.iconst 5, 1) := by decide +kernel
theorem dL_law_848 : decode cL_law 848 = .ok (.iload 11, 2) := by decide +kernel
theorem dL_law_850 : decode cL_law 850 = .ok (.imul, 1) := by decide +kernel
theorem dL_law_851 : decode cL_law 851 = .ok (.iconst 2, 1) := by decide +kernel
theorem dL_law_852 : decode cL_law 852 = .ok (.iadd, 1) := by decide +kernel
theorem dL_law_853 : decode cL_law 853 = .ok (.aload_n 3, 1) := by decide +kernel
theorem dL_law_854 : decode cL_law 854 = .ok (.iconst 5, 1) := by decide +kernel
theorem dL_law_855 : decode cL_law 855 = .ok (.iload 12, 2) := by decide +kernel
theorem dL_law_857 : decode cL_law 857 = .ok (.imul, 1) := by decide +kernel
theorem dL_law_858 : decode cL_law 858 = .ok (.iconst 2, 1) := by decide +kernel
theorem dL_law_859 : decode cL_law 859 = .ok (.iadd, 1) := by decide +kernel
theorem dL_law_860 : decode cL_law 860 = .ok (.iaload, 1) := by decide +kernel
theorem dL_law_861 : decode cL_law 861 = .ok (.iastore, 1) := by decide +kernel
theorem dL_law_862 : decode cL_law 862 = .ok (.aload_n 3, 1) := by decide +kernel
theorem dL_law_863 : decode cL_law 863 = .ok (.iconst 5, 1) := by decide +kernel
theorem dL_law_864 : decode cL_law 864 = .ok (.iload 11, 2) := by decide +kernel
theorem dL_law_866 : decode cL_law 866 = .ok (.imul, 1) := by decide +kernel
theorem dL_law_867 : decode cL_law 867 = .ok (.iconst 3, 1) := by decide +kernel
theorem dL_law_868 : decode cL_law 868 = .ok (.iadd, 1) := by decide +kernel
theorem dL_law_869 : decode cL_law 869 = .ok (.aload_n 3, 1) := by decide +kernel
theorem dL_law_870 : decode cL_law 870 = .ok (.iconst 5, 1) := by decide +kernel
theorem dL_law_871 : decode cL_law 871 = .ok (.iload 12, 2) := by decide +kernel
theorem dL_law_873 : decode cL_law 873 = .ok (.imul, 1) := by decide +kernel
theorem dL_law_874 : decode cL_law 874 = .ok (.iconst 3, 1) := by decide +kernel
theorem dL_law_875 : decode cL_law 875 = .ok (.iadd, 1) := by decide +kernel
theorem dL_law_876 : decode cL_law 876 = .ok (.iaload, 1) := by decide +kernel
theorem dL_law_877 : decode cL_law 877 = .ok (.iastore, 1) := by decide +kernel
theorem dL_law_878 : decode cL_law 878 = .ok (.aload_n 3, 1) := by decide +kernel
theorem dL_law_879 : decode cL_law 879 = .ok (.iconst 5, 1) := by decide +kernel
theorem dL_law_880 : decode cL_law 880 = .ok (.iload 11, 2) := by decide +kernel
theorem dL_law_882 : decode cL_law 882 = .ok (.imul, 1) := by decide +kernel
theorem dL_law_883 : decode cL_law 883 = .ok (.bipush 100, 2) := by decide +kernel
theorem dL_law_885 : decode cL_law 885 = .ok (.iload 13, 2) := by decide +kernel
theorem dL_law_887 : decode cL_law 887 = .ok (.imul, 1) := by decide +kernel
theorem dL_law_888 : decode cL_law 888 = .ok (.iload 15, 2) := by decide +kernel
theorem dL_law_890 : decode cL_law 890 = .ok (.iadd, 1) := by decide +kernel
theorem dL_law_891 : decode cL_law 891 = .ok (.iastore, 1) := by decide +kernel
theorem dL_law_892 : decode cL_law 892 = .ok (.aload_n 3, 1) := by decide +kernel
theorem dL_law_893 : decode cL_law 893 = .ok (.iconst 5, 1) := by decide +kernel
theorem dL_law_894 : decode cL_law 894 = .ok (.iload 11, 2) := by decide +kernel
theorem dL_law_896 : decode cL_law 896 = .ok (.iinc 11 1, 3) := by decide +kernel
theorem dL_law_899 : decode cL_law 899 = .ok (.imul, 1) := by decide +kernel
theorem dL_law_900 : decode cL_law 900 = .ok (.iconst 1, 1) := by decide +kernel
theorem dL_law_901 : decode cL_law 901 = .ok (.iadd, 1) := by decide +kernel
theorem dL_law_902 : decode cL_law 902 = .ok (.iload 14, 2) := by decide +kernel
theorem dL_law_904 : decode cL_law 904 = .ok (.iastore, 1) := by decide +kernel
theorem dL_law_905 : decode cL_law 905 = .ok (.iinc 12 1, 3) := by decide +kernel
theorem dL_law_908 : decode cL_law 908 = .ok (.goto (-182), 3) := by decide +kernel
theorem dL_law_911 : decode cL_law 911 = .ok (.aload_n 1, 1) := by decide +kernel
theorem dL_law_912 : decode cL_law 912 = .ok (.iload 9, 2) := by decide +kernel
theorem dL_law_914 : decode cL_law 914 = .ok (.iload 10, 2) := by decide +kernel
theorem dL_law_916 : decode cL_law 916 = .ok (.invokevirtual 94, 3) := by decide +kernel
theorem dL_law_919 : decode cL_law 919 = .ok (.aload_n 2, 1) := by decide +kernel
theorem dL_law_920 : decode cL_law 920 = .ok (.iconst 4, 1) := by decide +kernel
theorem dL_law_921 : decode cL_law 921 = .ok (.iaload, 1) := by decide +kernel
theorem dL_law_922 : decode cL_law 922 = .ok (.iload 11, 2) := by decide +kernel
theorem dL_law_924 : decode cL_law 924 = .ok (.isub, 1) := by decide +kernel
theorem dL_law_925 : decode cL_law 925 = .ok (.if_icmp .eq 5, 3) := by decide +kernel
theorem dL_law_928 : decode cL_law 928 = .ok (.iconst 0, 1) := by decide +kernel
theorem dL_law_929 : decode cL_law 929 = .ok (.ireturn, 1) := by decide +kernel
theorem dL_law_930 : decode cL_law 930 = .ok (.aload_n 2, 1) := by decide +kernel
theorem dL_law_931 : decode cL_law 931 = .ok (.iconst 4, 1) := by decide +kernel
theorem dL_law_932 : decode cL_law 932 = .ok (.iload 11, 2) := by decide +kernel
theorem dL_law_934 : decode cL_law 934 = .ok (.iastore, 1) := by decide +kernel
theorem dL_law_935 : decode cL_law 935 = .ok (.aload_n 2, 1) := by decide +kernel
theorem dL_law_936 : decode cL_law 936 = .ok (.aload_n 3, 1) := by decide +kernel
theorem dL_law_937 : decode cL_law 937 = .ok (.invokestatic 77, 3) := by decide +kernel
theorem dL_law_940 : decode cL_law 940 = .ok (.goto 450, 3) := by decide +kernel
theorem dL_law_943 : decode cL_law 943 = .ok (.iload 7, 2) := by decide +kernel
theorem dL_law_945 : decode cL_law 945 = .ok (.bipush 8, 2) := by decide +kernel
theorem dL_law_947 : decode cL_law 947 = .ok (.if_icmp .ne 339, 3) := by decide +kernel
theorem dL_law_950 : decode cL_law 950 = .ok (.iload 9, 2) := by decide +kernel
theorem dL_law_952 : decode cL_law 952 = .ok (.iload 6, 2) := by decide +kernel
theorem dL_law_954 : decode cL_law 954 = .ok (.bipush 11, 2) := by decide +kernel
theorem dL_law_956 : decode cL_law 956 = .ok (.ishr, 1) := by decide +kernel
theorem dL_law_957 : decode cL_law 957 = .ok (.bipush 20, 2) := by decide +kernel
theorem dL_law_959 : decode cL_law 959 = .ok (.invokestatic 41, 3) := by decide +kernel
theorem dL_law_962 : decode cL_law 962 = .ok (.iadd, 1) := by decide +kernel
theorem dL_law_963 : decode cL_law 963 = .ok (.istore 10, 2) := by decide +kernel
theorem dL_law_965 : decode cL_law 965 = .ok (.iload 6, 2) := by decide +kernel
theorem dL_law_967 : decode cL_law 967 = .ok (.bipush 13, 2) := by decide +kernel
theorem dL_law_969 : decode cL_law 969 = .ok (.ishr, 1) := by decide +kernel
theorem dL_law_970 : decode cL_law 970 = .ok (.bipush 44, 2) := by decide +kernel
theorem dL_law_972 : decode cL_law 972 = .ok (.invokestatic 41, 3) := by decide +kernel
theorem dL_law_975 : decode cL_law 975 = .ok (.istore 11, 2) := by decide +kernel
theorem dL_law_977 : decode cL_law 977 = .ok (.iconst 0, 1) := by decide +kernel
theorem dL_law_978 : decode cL_law 978 = .ok (.istore 12, 2) := by decide +kernel
theorem dL_law_980 : decode cL_law 980 = .ok (.iconst 0, 1) := by decide +kernel
theorem dL_law_981 : decode cL_law 981 = .ok (.istore 13, 2) := by decide +kernel
theorem dL_law_983 : decode cL_law 983 = .ok (.iconst 1, 1) := by decide +kernel
theorem dL_law_984 : decode cL_law 984 = .ok (.istore 14, 2) := by decide +kernel
theorem dL_law_986 : decode cL_law 986 = .ok (.aload_n 2, 1) := by decide +kernel
theorem dL_law_987 : decode cL_law 987 = .ok (.iconst 4, 1) := by decide +kernel
theorem dL_law_988 : decode cL_law 988 = .ok (.iaload, 1) := by decide +kernel
theorem dL_law_989 : decode cL_law 989 = .ok (.istore 15, 2) := by decide +kernel
theorem dL_law_991 : decode cL_law 991 = .ok (.iconst 0, 1) := by decide +kernel
theorem dL_law_992 : decode cL_law 992 = .ok (.istore 16, 2) := by decide +kernel
theorem dL_law_994 : decode cL_law 994 = .ok (.iload 16, 2) := by decide +kernel
theorem dL_law_996 : decode cL_law 996 = .ok (.iload 15, 2) := by decide +kernel
theorem dL_law_998 : decode cL_law 998 = .ok (.if_icmp .ge 131, 3) := by decide +kernel
theorem dL_law_1001 : decode cL_law 1001 = .ok (.aload_n 3, 1) := by decide +kernel
theorem dL_law_1002 : decode cL_law 1002 = .ok (.iconst 5, 1) := by decide +kernel
theorem dL_law_1003 : decode cL_law 1003 = .ok (.iload 16, 2) := by decide +kernel
theorem dL_law_1005 : decode cL_law 1005 = .ok (.imul, 1) := by decide +kernel
theorem dL_law_1006 : decode cL_law 1006 = .ok (.iaload, 1) := by decide +kernel
theorem dL_law_1007 : decode cL_law 1007 = .ok (.bipush 100, 2) := by decide +kernel
theorem dL_law_1009 : decode cL_law 1009 = .ok (.idiv, 1) := by decide +kernel
theorem dL_law_1010 : decode cL_law 1010 = .ok (.iload 9, 2) := by decide +kernel
theorem dL_law_1012 : decode cL_law 1012 = .ok (.if_icmp .lt 111, 3) := by decide +kernel
theorem dL_law_1015 : decode cL_law 1015 = .ok (.aload_n 3, 1) := by decide +kernel
theorem dL_law_1016 : decode cL_law 1016 = .ok (.iconst 5, 1) := by decide +kernel
theorem dL_law_1017 : decode cL_law 1017 = .ok (.iload 16, 2) := by decide +kernel
theorem dL_law_1019 : decode cL_law 1019 = .ok (.imul, 1) := by decide +kernel
theorem dL_law_1020 : decode cL_law 1020 = .ok (.iconst 1, 1) := by decide +kernel
theorem dL_law_1021 : decode cL_law 1021 = .ok (.iadd, 1) := by decide +kernel
theorem dL_law_1022 : decode cL_law 1022 = .ok (.iaload, 1) := by decide +kernel
theorem dL_law_1023 : decode cL_law 1023 = .ok (.iload 10, 2) := by decide +kernel
theorem dL_law_1025 : decode cL_law 1025 = .ok (.if_icmp .le 6, 3) := by decide +kernel
theorem dL_law_1028 : decode cL_law 1028 = .ok (.goto 95, 3) := by decide +kernel
theorem dL_law_1031 : decode cL_law 1031 = .ok (.iinc 12 1, 3) := by decide +kernel
theorem dL_law_1034 : decode cL_law 1034 = .ok (.iload 13, 2) := by decide +kernel
theorem dL_law_1036 : decode cL_law 1036 = .ok (.ifCond .ne 22, 3) := by decide +kernel
theorem dL_law_1039 : decode cL_law 1039 = .ok (.aload_n 3, 1) := by decide +kernel
theorem dL_law_1040 : decode cL_law 1040 = .ok (.iconst 5, 1) := by decide +kernel
theorem dL_law_1041 : decode cL_law 1041 = .ok (.iload 16, 2) := by decide +kernel
theorem dL_law_1043 : decode cL_law 1043 = .ok (.imul, 1) := by decide +kernel
theorem dL_law_1044 : decode cL_law 1044 = .ok (.iconst 1, 1) := by decide +kernel
theorem dL_law_1045 : decode cL_law 1045 = .ok (.iadd, 1) := by decide +kernel
theorem dL_law_1046 : decode cL_law 1046 = .ok (.iaload, 1) := by decide +kernel
theorem dL_law_1047 : decode cL_law 1047 = .ok (.iload 11, 2) := by decide +kernel
theorem dL_law_1049 : decode cL_law 1049 = .ok (.iadd, 1) := by decide +kernel
theorem dL_law_1050 : decode cL_law 1050 = .ok (.iload 9, 2) := by decide +kernel
theorem dL_law_1052 : decode cL_law 1052 = .ok (.isub, 1) := by decide +kernel
theorem dL_law_1053 : decode cL_law 1053 = .ok (.bipush 59, 2) := by decide +kernel
theorem dL_law_1055 : decode cL_law 1055 = .ok (.if_icmp .le 7, 3) := by decide +kernel
theorem dL_law_1058 : decode cL_law 1058 = .ok (.iconst 1, 1) := by decide +kernel
theorem dL_law_1059 : decode cL_law 1059 = .ok (.goto 4, 3) := by decide +kernel
theorem dL_law_1062 : decode cL_law 1062 = .ok (.iconst 0, 1) := by decide +kernel
theorem dL_law_1063 : decode cL_law 1063 = .ok (.istore 13, 2) := by decide +kernel
theorem dL_law_1065 : decode cL_law 1065 = .ok (.iload 14, 2) := by decide +kernel
theorem dL_law_1067 : decode cL_law 1067 = .ok (.ifCond .eq 53, 3) := by decide +kernel
theorem dL_law_1070 : decode cL_law 1070 = .ok (.aload_n 3, 1) := by decide +kernel
theorem dL_law_1071 : decode cL_law 1071 = .ok (.iconst 5, 1) := by decide +kernel
theorem dL_law_1072 : decode cL_law 1072 = .ok (.iload 16, 2) := by decide +kernel
theorem dL_law_1074 : decode cL_law 1074 = .ok (.imul, 1) := by decide +kernel
theorem dL_law_1075 : decode cL_law 1075 = .ok (.iaload, 1) := by decide +kernel
theorem dL_law_1076 : decode cL_law 1076 = .ok (.bipush 100, 2) := by decide +kernel
theorem dL_law_1078 : decode cL_law 1078 = .ok (.irem, 1) := by decide +kernel
theorem dL_law_1079 : decode cL_law 1079 = .ok (.aload_n 3, 1) := by decide +kernel
theorem dL_law_1080 : decode cL_law 1080 = .ok (.iconst 5, 1) := by decide +kernel
theorem dL_law_1081 : decode cL_law 1081 = .ok (.iload 16, 2) := by decide +kernel
theorem dL_law_1083 : decode cL_law 1083 = .ok (.imul, 1) := by decide +kernel
theorem dL_law_1084 : decode cL_law 1084 = .ok (.iaload, 1) := by decide +kernel
theorem dL_law_1085 : decode cL_law 1085 = .ok (.bipush 100, 2) := by decide +kernel
theorem dL_law_1087 : decode cL_law 1087 = .ok (.idiv, 1) := by decide +kernel
theorem dL_law_1088 : decode cL_law 1088 = .ok (.iload 11, 2) := by decide +kernel
theorem dL_law_1090 : decode cL_law 1090 = .ok (.iadd, 1) := by decide +kernel
theorem dL_law_1091 : decode cL_law 1091 = .ok (.iload 9, 2) := by decide +kernel
theorem dL_law_1093 : decode cL_law 1093 = .ok (.isub, 1) := by decide +kernel
theorem dL_law_1094 : decode cL_law 1094 = .ok (.aload_n 3, 1) := by decide +kernel
theorem dL_law_1095 : decode cL_law 1095 = .ok (.iconst 5, 1) := by decide +kernel
theorem dL_law_1096 : decode cL_law 1096 = .ok (.iload 16, 2) := by decide +kernel
theorem dL_law_1098 : decode cL_law 1098 = .ok (.imul, 1) := by decide +kernel
theorem dL_law_1099 : decode cL_law 1099 = .ok (.iconst 1, 1) := by decide +kernel
theorem dL_law_1100 : decode cL_law 1100 = .ok (.iadd, 1) := by decide +kernel
theorem dL_law_1101 : decode cL_law 1101 = .ok (.iaload, 1) := by decide +kernel
theorem dL_law_1102 : decode cL_law 1102 = .ok (.iload 11, 2) := by decide +kernel
theorem dL_law_1104 : decode cL_law 1104 = .ok (.iadd, 1) := by decide +kernel
theorem dL_law_1105 : decode cL_law 1105 = .ok (.iload 9, 2) := by decide +kernel
theorem dL_law_1107 : decode cL_law 1107 = .ok (.isub, 1) := by decide +kernel
theorem dL_law_1108 : decode cL_law 1108 = .ok (.aload_n 2, 1) := by decide +kernel
theorem dL_law_1109 : decode cL_law 1109 = .ok (.aload_n 3, 1) := by decide +kernel
theorem dL_law_1110 : decode cL_law 1110 = .ok (.invokestatic 66, 3) := by decide +kernel
theorem dL_law_1113 : decode cL_law 1113 = .ok (.ifCond .ne 7, 3) := by decide +kernel
theorem dL_law_1116 : decode cL_law 1116 = .ok (.iconst 1, 1) := by decide +kernel
theorem dL_law_1117 : decode cL_law 1117 = .ok (.goto 4, 3) := by decide +kernel
theorem dL_law_1120 : decode cL_law 1120 = .ok (.iconst 0, 1) := by decide +kernel
theorem dL_law_1121 : decode cL_law 1121 = .ok (.istore 14, 2) := by decide +kernel
theorem dL_law_1123 : decode cL_law 1123 = .ok (.iinc 16 1, 3) := by decide +kernel
theorem dL_law_1126 : decode cL_law 1126 = .ok (.goto (-132), 3) := by decide +kernel
theorem dL_law_1129 : decode cL_law 1129 = .ok (.iload 13, 2) := by decide +kernel
theorem dL_law_1131 : decode cL_law 1131 = .ok (.ifCond .ne 303, 3) := by decide +kernel
theorem dL_law_1134 : decode cL_law 1134 = .ok (.iload 15, 2) := by decide +kernel
theorem dL_law_1136 : decode cL_law 1136 = .ok (.iload 12, 2) := by decide +kernel
theorem dL_law_1138 : decode cL_law 1138 = .ok (.iadd, 1) := by decide +kernel
theorem dL_law_1139 : decode cL_law 1139 = .ok (.bipush 12, 2) := by decide +kernel
theorem dL_law_1141 : decode cL_law 1141 = .ok (.if_icmp .le 6, 3) := by decide +kernel
theorem dL_law_1144 : decode cL_law 1144 = .ok (.goto 290, 3) := by decide +kernel
theorem dL_law_1147 : decode cL_law 1147 = .ok (.aload_n 1, 1) := by decide +kernel
theorem dL_law_1148 : decode cL_law 1148 = .ok (.iload 9, 2) := by decide +kernel
theorem dL_law_1150 : decode cL_law 1150 = .ok (.iload 10, 2) := by decide +kernel
theorem dL_law_1152 : decode cL_law 1152 = .ok (.iload 11, 2) := by decide +kernel
theorem dL_law_1154 : decode cL_law 1154 = .ok (.invokevirtual 97, 3) := by decide +kernel
theorem dL_law_1157 : decode cL_law 1157 = .ok (.iload 14, 2) := by decide +kernel
theorem dL_law_1159 : decode cL_law 1159 = .ok (.ifCond .eq 8, 3) := by decide +kernel
theorem dL_law_1162 : decode cL_law 1162 = .ok (.iload 12, 2) := by decide +kernel
theorem dL_law_1164 : decode cL_law 1164 = .ok (.goto 5, 3) := by decide +kernel
theorem dL_law_1167 : decode cL_law 1167 = .ok (.bipush (-5), 2) := by decide +kernel
theorem dL_law_1169 : decode cL_law 1169 = .ok (.if_icmp .eq 5, 3) := by decide +kernel
theorem dL_law_1172 : decode cL_law 1172 = .ok (.iconst 0, 1) := by decide +kernel
theorem dL_law_1173 : decode cL_law 1173 = .ok (.ireturn, 1) := by decide +kernel
theorem dL_law_1174 : decode cL_law 1174 = .ok (.iconst 0, 1) := by decide +kernel
theorem dL_law_1175 : decode cL_law 1175 = .ok (.istore 16, 2) := by decide +kernel
theorem dL_law_1177 : decode cL_law 1177 = .ok (.iload 16, 2) := by decide +kernel
theorem dL_law_1179 : decode cL_law 1179 = .ok (.iload 15, 2) := by decide +kernel
theorem dL_law_1181 : decode cL_law 1181 = .ok (.if_icmp .ge 97, 3) := by decide +kernel
theorem dL_law_1184 : decode cL_law 1184 = .ok (.iload 14, 2) := by decide +kernel
theorem dL_law_1186 : decode cL_law 1186 = .ok (.ifCond .eq 92, 3) := by decide +kernel
theorem dL_law_1189 : decode cL_law 1189 = .ok (.aload_n 3, 1) := by decide +kernel
theorem dL_law_1190 : decode cL_law 1190 = .ok (.iconst 5, 1) := by decide +kernel
theorem dL_law_1191 : decode cL_law 1191 = .ok (.iload 16, 2) := by decide +kernel
theorem dL_law_1193 : decode cL_law 1193 = .ok (.imul, 1) := by decide +kernel
theorem dL_law_1194 : decode cL_law 1194 = .ok (.iaload, 1) := by decide +kernel
theorem dL_law_1195 : decode cL_law 1195 = .ok (.bipush 100, 2) := by decide +kernel
theorem dL_law_1197 : decode cL_law 1197 = .ok (.idiv, 1) := by decide +kernel
theorem dL_law_1198 : decode cL_law 1198 = .ok (.istore 17, 2) := by decide +kernel
theorem dL_law_1200 : decode cL_law 1200 = .ok (.iload 17, 2) := by decide +kernel
theorem dL_law_1202 : decode cL_law 1202 = .ok (.iload 9, 2) := by decide +kernel
theorem dL_law_1204 : decode cL_law 1204 = .ok (.if_icmp .lt 68, 3) := by decide +kernel
theorem dL_law_1207 : decode cL_law 1207 = .ok (.aload_n 3, 1) := by decide +kernel
theorem dL_law_1208 : decode cL_law 1208 = .ok (.iconst 5, 1) := by decide +kernel
theorem dL_law_1209 : decode cL_law 1209 = .ok (.iload 16, 2) := by decide +kernel
theorem dL_law_1211 : decode cL_law 1211 = .ok (.imul, 1) := by decide +kernel
theorem dL_law_1212 : decode cL_law 1212 = .ok (.iconst 1, 1) := by decide +kernel
theorem dL_law_1213 : decode cL_law 1213 = .ok (.iadd, 1) := by decide +kernel
theorem dL_law_1214 : decode cL_law 1214 = .ok (.iaload, 1) := by decide +kernel
theorem dL_law_1215 : decode cL_law 1215 = .ok (.iload 10, 2) := by decide +kernel
theorem dL_law_1217 : decode cL_law 1217 = .ok (.if_icmp .gt 55, 3) := by decide +kernel
theorem dL_law_1220 : decode cL_law 1220 = .ok (.aload_n 3, 1) := by decide +kernel
theorem dL_law_1221 : decode cL_law 1221 = .ok (.iconst 5, 1) := by decide +kernel
theorem dL_law_1222 : decode cL_law 1222 = .ok (.iload 16, 2) := by decide +kernel
theorem dL_law_1224 : decode cL_law 1224 = .ok (.imul, 1) := by decide +kernel
theorem dL_law_1225 : decode cL_law 1225 = .ok (.iaload, 1) := by decide +kernel
theorem dL_law_1226 : decode cL_law 1226 = .ok (.bipush 100, 2) := by decide +kernel
theorem dL_law_1228 : decode cL_law 1228 = .ok (.irem, 1) := by decide +kernel
theorem dL_law_1229 : decode cL_law 1229 = .ok (.iload 17, 2) := by decide +kernel
theorem dL_law_1231 : decode cL_law 1231 = .ok (.iload 11, 2) := by decide +kernel
theorem dL_law_1233 : decode cL_law 1233 = .ok (.iadd, 1) := by decide +kernel
theorem dL_law_1234 : decode cL_law 1234 = .ok (.iload 9, 2) := by decide +kernel
theorem dL_law_1236 : decode cL_law 1236 = .ok (.isub, 1) := by decide +kernel
theorem dL_law_1237 : decode cL_law 1237 = .ok (.aload_n 3, 1) := by decide +kernel
theorem dL_law_1238 : decode cL_law 1238 = .ok (.iconst 5, 1) := by decide +kernel
theorem dL_law_1239 : decode cL_law 1239 = .ok (.iload 16, 2) := by decide +kernel
theorem dL_law_1241 : decode cL_law 1241 = .ok (.imul, 1) := by decide +kernel
theorem dL_law_1242 : decode cL_law 1242 = .ok (.iconst 1, 1) := by decide +kernel
theorem dL_law_1243 : decode cL_law 1243 = .ok (.iadd, 1) := by decide +kernel
theorem dL_law_1244 : decode cL_law 1244 = .ok (.iaload, 1) := by decide +kernel
theorem dL_law_1245 : decode cL_law 1245 = .ok (.iload 11, 2) := by decide +kernel
theorem dL_law_1247 : decode cL_law 1247 = .ok (.iadd, 1) := by decide +kernel
theorem dL_law_1248 : decode cL_law 1248 = .ok (.iload 9, 2) := by decide +kernel
theorem dL_law_1250 : decode cL_law 1250 = .ok (.isub, 1) := by decide +kernel
theorem dL_law_1251 : decode cL_law 1251 = .ok (.aload_n 3, 1) := by decide +kernel
theorem dL_law_1252 : decode cL_law 1252 = .ok (.iconst 5, 1) := by decide +kernel
theorem dL_law_1253 : decode cL_law 1253 = .ok (.iload 16, 2) := by decide +kernel
theorem dL_law_1255 : decode cL_law 1255 = .ok (.imul, 1) := by decide +kernel
theorem dL_law_1256 : decode cL_law 1256 = .ok (.iconst 2, 1) := by decide +kernel
theorem dL_law_1257 : decode cL_law 1257 = .ok (.iadd, 1) := by decide +kernel
theorem dL_law_1258 : decode cL_law 1258 = .ok (.iaload, 1) := by decide +kernel
theorem dL_law_1259 : decode cL_law 1259 = .ok (.aload_n 3, 1) := by decide +kernel
theorem dL_law_1260 : decode cL_law 1260 = .ok (.iconst 5, 1) := by decide +kernel
theorem dL_law_1261 : decode cL_law 1261 = .ok (.iload 16, 2) := by decide +kernel
theorem dL_law_1263 : decode cL_law 1263 = .ok (.imul, 1) := by decide +kernel
theorem dL_law_1264 : decode cL_law 1264 = .ok (.iconst 3, 1) := by decide +kernel
theorem dL_law_1265 : decode cL_law 1265 = .ok (.iadd, 1) := by decide +kernel
theorem dL_law_1266 : decode cL_law 1266 = .ok (.iaload, 1) := by decide +kernel
theorem dL_law_1267 : decode cL_law 1267 = .ok (.aload_n 2, 1) := by decide +kernel
theorem dL_law_1268 : decode cL_law 1268 = .ok (.aload_n 3, 1) := by decide +kernel
theorem dL_law_1269 : decode cL_law 1269 = .ok (.invokestatic 73, 3) := by decide +kernel
theorem dL_law_1272 : decode cL_law 1272 = .ok (.iinc 16 1, 3) := by decide +kernel
theorem dL_law_1275 : decode cL_law 1275 = .ok (.goto (-98), 3) := by decide +kernel
theorem dL_law_1278 : decode cL_law 1278 = .ok (.aload_n 2, 1) := by decide +kernel
theorem dL_law_1279 : decode cL_law 1279 = .ok (.aload_n 3, 1) := by decide +kernel
theorem dL_law_1280 : decode cL_law 1280 = .ok (.invokestatic 77, 3) := by decide +kernel
theorem dL_law_1283 : decode cL_law 1283 = .ok (.goto 107, 3) := by decide +kernel
theorem dL_law_1286 : decode cL_law 1286 = .ok (.iload 6, 2) := by decide +kernel
theorem dL_law_1288 : decode cL_law 1288 = .ok (.iconst 4, 1) := by decide +kernel
theorem dL_law_1289 : decode cL_law 1289 = .ok (.ishr, 1) := by decide +kernel
theorem dL_law_1290 : decode cL_law 1290 = .ok (.iconst 4, 1) := by decide +kernel
theorem dL_law_1291 : decode cL_law 1291 = .ok (.invokestatic 41, 3) := by decide +kernel
theorem dL_law_1294 : decode cL_law 1294 = .ok (.istore 10, 2) := by decide +kernel
theorem dL_law_1296 : decode cL_law 1296 = .ok (.iload 10, 2) := by decide +kernel
theorem dL_law_1298 : decode cL_law 1298 = .ok (.ifCond .ne 18, 3) := by decide +kernel
theorem dL_law_1301 : decode cL_law 1301 = .ok (.iconst 1, 1) := by decide +kernel
theorem dL_law_1302 : decode cL_law 1302 = .ok (.iload 6, 2) := by decide +kernel
theorem dL_law_1304 : decode cL_law 1304 = .ok (.bipush 8, 2) := by decide +kernel
theorem dL_law_1306 : decode cL_law 1306 = .ok (.ishr, 1) := by decide +kernel
theorem dL_law_1307 : decode cL_law 1307 = .ok (.bipush 9, 2) := by decide +kernel
theorem dL_law_1309 : decode cL_law 1309 = .ok (.invokestatic 41, 3) := by decide +kernel
theorem dL_law_1312 : decode cL_law 1312 = .ok (.iadd, 1) := by decide +kernel
theorem dL_law_1313 : decode cL_law 1313 = .ok (.goto 52, 3) := by decide +kernel
theorem dL_law_1316 : decode cL_law 1316 = .ok (.iload 10, 2) := by decide +kernel
theorem dL_law_1318 : decode cL_law 1318 = .ok (.iconst 1, 1) := by decide +kernel
theorem dL_law_1319 : decode cL_law 1319 = .ok (.if_icmp .ne 17, 3) := by decide +kernel
theorem dL_law_1322 : decode cL_law 1322 = .ok (.iconst 1, 1) := by decide +kernel
theorem dL_law_1323 : decode cL_law 1323 = .ok (.iload 6, 2) := by decide +kernel
theorem dL_law_1325 : decode cL_law 1325 = .ok (.bipush 8, 2) := by decide +kernel
theorem dL_law_1327 : decode cL_law 1327 = .ok (.ishr, 1) := by decide +kernel
theorem dL_law_1328 : decode cL_law 1328 = .ok (.iconst 4, 1) := by decide +kernel
theorem dL_law_1329 : decode cL_law 1329 = .ok (.invokestatic 41, 3) := by decide +kernel
theorem dL_law_1332 : decode cL_law 1332 = .ok (.iadd, 1) := by decide +kernel
theorem dL_law_1333 : decode cL_law 1333 = .ok (.goto 32, 3) := by decide +kernel
theorem dL_law_1336 : decode cL_law 1336 = .ok (.iload 10, 2) := by decide +kernel
theorem dL_law_1338 : decode cL_law 1338 = .ok (.iconst 2, 1) := by decide +kernel
theorem dL_law_1339 : decode cL_law 1339 = .ok (.if_icmp .ne 15, 3) := by decide +kernel
theorem dL_law_1342 : decode cL_law 1342 = .ok (.iload 6, 2) := by decide +kernel
theorem dL_law_1344 : decode cL_law 1344 = .ok (.bipush 8, 2) := by decide +kernel
theorem dL_law_1346 : decode cL_law 1346 = .ok (.ishr, 1) := by decide +kernel
theorem dL_law_1347 : decode cL_law 1347 = .ok (.iconst 5, 1) := by decide +kernel
theorem dL_law_1348 : decode cL_law 1348 = .ok (.invokestatic 41, 3) := by decide +kernel
theorem dL_law_1351 : decode cL_law 1351 = .ok (.goto 14, 3) := by decide +kernel
theorem dL_law_1354 : decode cL_law 1354 = .ok (.iconst 2, 1) := by decide +kernel
theorem dL_law_1355 : decode cL_law 1355 = .ok (.iload 6, 2) := by decide +kernel
theorem dL_law_1357 : decode cL_law 1357 = .ok (.bipush 8, 2) := by decide +kernel
theorem dL_law_1359 : decode cL_law 1359 = .ok (.ishr, 1) := by decide +kernel
theorem dL_law_1360 : decode cL_law 1360 = .ok (.iconst 4, 1) := by decide +kernel
theorem dL_law_1361 : decode cL_law 1361 = .ok (.invokestatic 41, 3) := by decide +kernel
theorem dL_law_1364 : decode cL_law 1364 = .ok (.iadd, 1) := by decide +kernel
theorem dL_law_1365 : decode cL_law 1365 = .ok (.istore 11, 2) := by decide +kernel
theorem dL_law_1367 : decode cL_law 1367 = .ok (.aload_n 1, 1) := by decide +kernel
theorem dL_law_1368 : decode cL_law 1368 = .ok (.iload 10, 2) := by decide +kernel
theorem dL_law_1370 : decode cL_law 1370 = .ok (.iload 11, 2) := by decide +kernel
theorem dL_law_1372 : decode cL_law 1372 = .ok (.invokevirtual 100, 3) := by decide +kernel
theorem dL_law_1375 : decode cL_law 1375 = .ok (.aload_n 2, 1) := by decide +kernel
theorem dL_law_1376 : decode cL_law 1376 = .ok (.iload 10, 2) := by decide +kernel
theorem dL_law_1378 : decode cL_law 1378 = .ok (.iaload, 1) := by decide +kernel
theorem dL_law_1379 : decode cL_law 1379 = .ok (.if_icmp .eq 5, 3) := by decide +kernel
theorem dL_law_1382 : decode cL_law 1382 = .ok (.iconst 0, 1) := by decide +kernel
theorem dL_law_1383 : decode cL_law 1383 = .ok (.ireturn, 1) := by decide +kernel
theorem dL_law_1384 : decode cL_law 1384 = .ok (.aload_n 2, 1) := by decide +kernel
theorem dL_law_1385 : decode cL_law 1385 = .ok (.iload 10, 2) := by decide +kernel
theorem dL_law_1387 : decode cL_law 1387 = .ok (.iload 11, 2) := by decide +kernel
theorem dL_law_1389 : decode cL_law 1389 = .ok (.iastore, 1) := by decide +kernel
theorem dL_law_1390 : decode cL_law 1390 = .ok (.aload_n 1, 1) := by decide +kernel
theorem dL_law_1391 : decode cL_law 1391 = .ok (.iload 6, 2) := by decide +kernel
theorem dL_law_1393 : decode cL_law 1393 = .ok (.iconst 3, 1) := by decide +kernel
theorem dL_law_1394 : decode cL_law 1394 = .ok (.ishr, 1) := by decide +kernel
theorem dL_law_1395 : decode cL_law 1395 = .ok (.aload_n 2, 1) := by decide +kernel
theorem dL_law_1396 : decode cL_law 1396 = .ok (.aload_n 3, 1) := by decide +kernel
theorem dL_law_1397 : decode cL_law 1397 = .ok (.aload 4, 2) := by decide +kernel
theorem dL_law_1399 : decode cL_law 1399 = .ok (.invokestatic 103, 3) := by decide +kernel
theorem dL_law_1402 : decode cL_law 1402 = .ok (.ifCond .eq 30, 3) := by decide +kernel
theorem dL_law_1405 : decode cL_law 1405 = .ok (.iload 6, 2) := by decide +kernel
theorem dL_law_1407 : decode cL_law 1407 = .ok (.bipush 14, 2) := by decide +kernel
theorem dL_law_1409 : decode cL_law 1409 = .ok (.ishr, 1) := by decide +kernel
theorem dL_law_1410 : decode cL_law 1410 = .ok (.iconst 4, 1) := by decide +kernel
theorem dL_law_1411 : decode cL_law 1411 = .ok (.invokestatic 41, 3) := by decide +kernel
theorem dL_law_1414 : decode cL_law 1414 = .ok (.ifCond .ne 20, 3) := by decide +kernel
theorem dL_law_1417 : decode cL_law 1417 = .ok (.aload_n 1, 1) := by decide +kernel
theorem dL_law_1418 : decode cL_law 1418 = .ok (.iload 6, 2) := by decide +kernel
theorem dL_law_1420 : decode cL_law 1420 = .ok (.iconst 2, 1) := by decide +kernel
theorem dL_law_1421 : decode cL_law 1421 = .ok (.ishr, 1) := by decide +kernel
theorem dL_law_1422 : decode cL_law 1422 = .ok (.aload_n 2, 1) := by decide +kernel
theorem dL_law_1423 : decode cL_law 1423 = .ok (.aload_n 3, 1) := by decide +kernel
theorem dL_law_1424 : decode cL_law 1424 = .ok (.aload 4, 2) := by decide +kernel
theorem dL_law_1426 : decode cL_law 1426 = .ok (.invokestatic 107, 3) := by decide +kernel
theorem dL_law_1429 : decode cL_law 1429 = .ok (.ifCond .ne 5, 3) := by decide +kernel
theorem dL_law_1432 : decode cL_law 1432 = .ok (.iconst 0, 1) := by decide +kernel
theorem dL_law_1433 : decode cL_law 1433 = .ok (.ireturn, 1) := by decide +kernel
theorem dL_law_1434 : decode cL_law 1434 = .ok (.iinc 5 1, 3) := by decide +kernel
theorem dL_law_1437 : decode cL_law 1437 = .ok (.goto (-1395), 3) := by decide +kernel
theorem dL_law_1440 : decode cL_law 1440 = .ok (.iconst 1, 1) := by decide +kernel
theorem dL_law_1441 : decode cL_law 1441 = .ok (.ireturn, 1) := by decide +kernel
abbrev vwCl : List vw_C := [(RX0, TX0, 3), (RX1, TX1, 8), (RX2, TX2, 3), (RX3, TX3, 7), (RX4, TX4, 7)]
end
section
section JZ
variable {p : Program} {l : Launch} {e : Env} {R : Room} {s : State} {m : MethodId} {args : Array Value} {below : List Frame} {meth : Method} {c : Code} {H : Heap} {locs : List Loc} {cells slots : Nat} {Q : State → Prop}
variable {cc : ByteArray} {pc : Nat} {ls : Array Slot} {rest : List Value}
theorem jx_idiv (hx : p.tables.exec = Jvm.exec) (hb : c.code = cc) {α : Type} {u v : Int} {X : Option α} {r : α} (h : jre u v X = some r) (hdg : decode cc pc = .ok (.idiv, 1)) (k : X = some r → W p l e R s m args below meth c H locs cells slots Q (F0 m (pc + 1) ls (.int (jI (u / v)) :: rest))) : W p l e R s m args below meth c H locs cells slots Q (F0 m pc ls (.int (jI v) :: .int (jI u) :: rest)) := by
  obtain ⟨⟨h1, h2, h3, h4⟩, hX⟩ := jre_i h
  have eu : jI u = nI u.toNat := by show Int32.ofInt u = Int32.ofInt (u.toNat : Int); rw [Int.toNat_of_nonneg h1]
  have ev : jI v = nI v.toNat := by show Int32.ofInt v = Int32.ofInt (v.toNat : Int); rw [Int.toNat_of_nonneg (by omega)]
  have er : jI (u / v) = nI (u.toNat / v.toNat) := by
    show Int32.ofInt (u / v) = Int32.ofInt ((u.toNat / v.toNat : Nat) : Int)
    rw [Int.natCast_ediv, Int.toNat_of_nonneg h1, Int.toNat_of_nonneg (by omega)]
  refine lv_idiv hx hb hdg ?_ ?_
  · rw [ev]; exact nI_ne0 (by omega) (by omega)
  · rw [eu, ev, pk_div (by omega) (by omega) (by omega), ← er]
    exact k hX
end JZ
end
section
def wAr (y : Nat → ClassId) (ad n : Nat) (f : Int → Int) : va_W := [(ad, .inl (y 0, n, .inl (jA f)))]
def wRo (y : Nat → ClassId) (a : Nat → Nat) (se tr fi la sh ac : Int → Int) (no : Int) : va_W := [(a 0, .inr (3, [.ref (a 1), .ref (a 2), .ref (a 3), .ref (a 4), .ref (a 5), .ref (a 6), .int (jI no)])), (a 1, .inl (y 0, 4, .inl (jA se))), (a 2, .inl (y 0, 40, .inl (jA tr))), (a 3, .inl (y 0, 40, .inl (jA fi))), (a 4, .inl (y 0, 40, .inl (jA la))), (a 5, .inl (y 0, 40, .inl (jA sh))), (a 6, .inl (y 1, 40, .inl (jA ac)))]
def wPa (y : Nat → ClassId) (a : Nat → Nat) (eh : Int → Int) (we : Int) : va_W := [(a 0, .inr (2, [.ref (a 2), .ref (a 1), .int (jI we)])), (a 1, .inl (y 0, 100, .inl (jA eh)))]
def wPd (y : Nat → ClassId) (a : Nat → Nat) (tx : Int → Int) (le po : Int) (pt pf pl pa : Int → Int) (fo : Int) : va_W := [(a 0, .inr (1, [.ref (a 1), .int (jI le), .int (jI po), .ref (a 2), .ref (a 3), .ref (a 4), .ref (a 5), .int (jI fo)])), (a 1, .inl (y 2, 60, .inl (jA tx))), (a 2, .inl (y 0, 10, .inl (jA pt))), (a 3, .inl (y 0, 10, .inl (jA pf))), (a 4, .inl (y 0, 10, .inl (jA pl))), (a 5, .inl (y 1, 10, .inl (jA pa)))]
def jRf (aK : Nat → Nat → Nat) : Nat → Option Nat := fun k => some (aK k 0)
def wHi (y : Nat → ClassId) (a : Nat → Nat) (aK : Nat → Nat → Nat) (ol si : Int) : va_W := [(a 0, .inr (0, [.ref (a 1), .int (jI ol), .int (jI si)])), (a 1, .inl (y 3, 6, .inr (.inr (.inr (.inr (jRf aK))))))]
def wMh (y : Nat → ClassId) (aM aR aU aP aD aG : Nat → Nat) (aS : Nat → Nat → Nat) (sv : Int → Int) : va_W := [(aM 0, .inr (4, [.ref (aR 0), .ref (aU 0), .ref (aP 0), .ref (aD 0), .ref (aG 0), .ref (aM 1), .ref (aM 2)])), (aM 1, .inl (y 3, 2, .inr (.inr (.inr (.inr (jRf aS)))))), (aM 2, .inl (y 1, 2, .inl (jA sv)))]
def f_X4_isIn (fu : Nat) (x0 : Int) (x1 : Int) (x2 : Int) : Option (Int) :=
  jck x0 x1 (if x0 < x1 then jbo 0 (some 0) else jck x0 x2 (if x2 < x0 then jbo 0 (some 0) else jbo 1 (some 1)))
def f_X3_settingOf (fu : Nat) (se : Int → Int) (x1 : Int) : Option (Int) :=
  jb (f_X4_isIn fu x1 0 3) (fun v1 => jck v1 0 (if v1 = 0 then some 0 else jix 4 x1 (some (se x1))))
def f_J9_floorMod_7cf53 (fu : Nat) (x0 : Int) (x1 : Int) : Option (Int) :=
  jre x0 x1 (jck (jxor x0 x1) 0 (if 0 ≤ (jxor x0 x1) then some (x0 % x1) else jck (x0 % x1) 0 (if (x0 % x1) = 0 then some (x0 % x1) else some ((x0 % x1) + x1))))
def f_X0_placeOf (fu : Nat) (ol : Int) (x1 : Int) : Option (Int) :=
  jb (f_J9_floorMod_7cf53 fu (ol + x1) 6) (fun v1 => some v1)
def f_X3_takeSettings (fu : Nat) (se : Int → Int) (o_se : Int → Int) : Option ((Int → Int)) :=
  some (jcpy o_se se 4)
def f_X3_become_X87 (fu : Nat)  (se_m2 : Int → Int) (tr_m3 : Int → Int) (fi_m4 : Int → Int) (la_m5 : Int → Int) (sh_m6 : Int → Int) (ac_m7 : Int → Int) (no_m8 : Int) : Option ((Int → Int) × (Int → Int) × (Int → Int) × (Int → Int) × (Int → Int) × (Int → Int) × Int) :=
  some (se_m2, tr_m3, fi_m4, la_m5, sh_m6, ac_m7, no_m8)
def f_X3_become_L15_b (fu : Nat) (o_tr : Int → Int) (o_fi : Int → Int) (o_la : Int → Int) (o_sh : Int → Int) (o_ac : Int → Int) (k15_ : (Int → Int) → (Int → Int) → (Int → Int) → (Int → Int) → (Int → Int) → (Int → Int) → Int → Option ((Int → Int) × (Int → Int) × (Int → Int) × (Int → Int) × (Int → Int) × (Int → Int) × Int)) (j15_ : (Int → Int) → (Int → Int) → (Int → Int) → (Int → Int) → (Int → Int) → (Int → Int) → Int → Int → Option ((Int → Int) × (Int → Int) × (Int → Int) × (Int → Int) × (Int → Int) × (Int → Int) × Int)) (se_m9 : Int → Int) (tr_m10 : Int → Int) (fi_m11 : Int → Int) (la_m12 : Int → Int) (sh_m13 : Int → Int) (ac_m14 : Int → Int) (no_m15 : Int) (v16 : Int) : Option ((Int → Int) × (Int → Int) × (Int → Int) × (Int → Int) × (Int → Int) × (Int → Int) × Int) :=
  jck v16 40 (if 40 ≤ v16 then k15_ se_m9 tr_m10 fi_m11 la_m12 sh_m13 ac_m14 no_m15 else jix 40 v16 (jix 40 v16 (jix 40 v16 (jix 40 v16 (jix 40 v16 (jix 40 v16 (jix 40 v16 (jix 40 v16 (jix 40 v16 (jix 40 v16 (jbo (o_ac v16) (j15_ se_m9 (uI tr_m10 v16 (o_tr v16)) (uI fi_m11 v16 (o_fi v16)) (uI la_m12 v16 (o_la v16)) (uI sh_m13 v16 (o_sh v16)) (uI ac_m14 v16 (o_ac v16)) no_m15 (v16 + 1)))))))))))))
def f_X3_become_L15 (fu : Nat) (o_tr : Int → Int) (o_fi : Int → Int) (o_la : Int → Int) (o_sh : Int → Int) (o_ac : Int → Int) (k15_ : (Int → Int) → (Int → Int) → (Int → Int) → (Int → Int) → (Int → Int) → (Int → Int) → Int → Option ((Int → Int) × (Int → Int) × (Int → Int) × (Int → Int) × (Int → Int) × (Int → Int) × Int)) : Nat → (Int → Int) → (Int → Int) → (Int → Int) → (Int → Int) → (Int → Int) → (Int → Int) → Int → Int → Option ((Int → Int) × (Int → Int) × (Int → Int) × (Int → Int) × (Int → Int) × (Int → Int) × Int)
  | 0 => fun _ _ _ _ _ _ _ _ => none
  | n + 1 => f_X3_become_L15_b fu o_tr o_fi o_la o_sh o_ac k15_ (f_X3_become_L15 fu o_tr o_fi o_la o_sh o_ac k15_ n)
def f_X3_become (fu : Nat) (se : Int → Int) (tr : Int → Int) (fi : Int → Int) (la : Int → Int) (sh : Int → Int) (ac : Int → Int) (no : Int) (o_se : Int → Int) (o_tr : Int → Int) (o_fi : Int → Int) (o_la : Int → Int) (o_sh : Int → Int) (o_ac : Int → Int) (o_no : Int) : Option ((Int → Int) × (Int → Int) × (Int → Int) × (Int → Int) × (Int → Int) × (Int → Int) × Int) :=
  jb (f_X3_takeSettings fu se o_se) (fun se_m1 => f_X3_become_L15 fu o_tr o_fi o_la o_sh o_ac (f_X3_become_X87 fu) fu se_m1 tr fi la sh ac o_no 0)
def f_X0_record (fu : Nat) (ol : Int) (si : Int) (k_se : Int → Int → Int) (k_tr : Int → Int → Int) (k_fi : Int → Int → Int) (k_la : Int → Int → Int) (k_sh : Int → Int → Int) (k_ac : Int → Int → Int) (k_no : Int → Int) (o_se : Int → Int) (o_tr : Int → Int) (o_fi : Int → Int) (o_la : Int → Int) (o_sh : Int → Int) (o_ac : Int → Int) (o_no : Int) : Option (Int × Int × (Int → Int → Int) × (Int → Int → Int) × (Int → Int → Int) × (Int → Int → Int) × (Int → Int → Int) × (Int → Int → Int) × (Int → Int)) :=
  jb (f_X0_placeOf fu ol si) (fun v1 => jix 6 v1 (if v1 = 0 then jb7 (f_X3_become fu (k_se 0) (k_tr 0) (k_fi 0) (k_la 0) (k_sh 0) (k_ac 0) (k_no 0) o_se o_tr o_fi o_la o_sh o_ac o_no) (fun se_m2 tr_m3 fi_m4 la_m5 sh_m6 ac_m7 no_m8 => jck si 6 (if 6 ≤ si then jb (f_X0_placeOf fu ol 1) (fun v9 => some (v9, si, (uI k_se 0 se_m2), (uI k_tr 0 tr_m3), (uI k_fi 0 fi_m4), (uI k_la 0 la_m5), (uI k_sh 0 sh_m6), (uI k_ac 0 ac_m7), (uI k_no 0 no_m8))) else some (ol, (si + 1), (uI k_se 0 se_m2), (uI k_tr 0 tr_m3), (uI k_fi 0 fi_m4), (uI k_la 0 la_m5), (uI k_sh 0 sh_m6), (uI k_ac 0 ac_m7), (uI k_no 0 no_m8)))) else if v1 = 1 then jb7 (f_X3_become fu (k_se 1) (k_tr 1) (k_fi 1) (k_la 1) (k_sh 1) (k_ac 1) (k_no 1) o_se o_tr o_fi o_la o_sh o_ac o_no) (fun se_m10 tr_m11 fi_m12 la_m13 sh_m14 ac_m15 no_m16 => jck si 6 (if 6 ≤ si then jb (f_X0_placeOf fu ol 1) (fun v17 => some (v17, si, (uI k_se 1 se_m10), (uI k_tr 1 tr_m11), (uI k_fi 1 fi_m12), (uI k_la 1 la_m13), (uI k_sh 1 sh_m14), (uI k_ac 1 ac_m15), (uI k_no 1 no_m16))) else some (ol, (si + 1), (uI k_se 1 se_m10), (uI k_tr 1 tr_m11), (uI k_fi 1 fi_m12), (uI k_la 1 la_m13), (uI k_sh 1 sh_m14), (uI k_ac 1 ac_m15), (uI k_no 1 no_m16)))) else if v1 = 2 then jb7 (f_X3_become fu (k_se 2) (k_tr 2) (k_fi 2) (k_la 2) (k_sh 2) (k_ac 2) (k_no 2) o_se o_tr o_fi o_la o_sh o_ac o_no) (fun se_m18 tr_m19 fi_m20 la_m21 sh_m22 ac_m23 no_m24 => jck si 6 (if 6 ≤ si then jb (f_X0_placeOf fu ol 1) (fun v25 => some (v25, si, (uI k_se 2 se_m18), (uI k_tr 2 tr_m19), (uI k_fi 2 fi_m20), (uI k_la 2 la_m21), (uI k_sh 2 sh_m22), (uI k_ac 2 ac_m23), (uI k_no 2 no_m24))) else some (ol, (si + 1), (uI k_se 2 se_m18), (uI k_tr 2 tr_m19), (uI k_fi 2 fi_m20), (uI k_la 2 la_m21), (uI k_sh 2 sh_m22), (uI k_ac 2 ac_m23), (uI k_no 2 no_m24)))) else if v1 = 3 then jb7 (f_X3_become fu (k_se 3) (k_tr 3) (k_fi 3) (k_la 3) (k_sh 3) (k_ac 3) (k_no 3) o_se o_tr o_fi o_la o_sh o_ac o_no) (fun se_m26 tr_m27 fi_m28 la_m29 sh_m30 ac_m31 no_m32 => jck si 6 (if 6 ≤ si then jb (f_X0_placeOf fu ol 1) (fun v33 => some (v33, si, (uI k_se 3 se_m26), (uI k_tr 3 tr_m27), (uI k_fi 3 fi_m28), (uI k_la 3 la_m29), (uI k_sh 3 sh_m30), (uI k_ac 3 ac_m31), (uI k_no 3 no_m32))) else some (ol, (si + 1), (uI k_se 3 se_m26), (uI k_tr 3 tr_m27), (uI k_fi 3 fi_m28), (uI k_la 3 la_m29), (uI k_sh 3 sh_m30), (uI k_ac 3 ac_m31), (uI k_no 3 no_m32)))) else if v1 = 4 then jb7 (f_X3_become fu (k_se 4) (k_tr 4) (k_fi 4) (k_la 4) (k_sh 4) (k_ac 4) (k_no 4) o_se o_tr o_fi o_la o_sh o_ac o_no) (fun se_m34 tr_m35 fi_m36 la_m37 sh_m38 ac_m39 no_m40 => jck si 6 (if 6 ≤ si then jb (f_X0_placeOf fu ol 1) (fun v41 => some (v41, si, (uI k_se 4 se_m34), (uI k_tr 4 tr_m35), (uI k_fi 4 fi_m36), (uI k_la 4 la_m37), (uI k_sh 4 sh_m38), (uI k_ac 4 ac_m39), (uI k_no 4 no_m40))) else some (ol, (si + 1), (uI k_se 4 se_m34), (uI k_tr 4 tr_m35), (uI k_fi 4 fi_m36), (uI k_la 4 la_m37), (uI k_sh 4 sh_m38), (uI k_ac 4 ac_m39), (uI k_no 4 no_m40)))) else jb7 (f_X3_become fu (k_se 5) (k_tr 5) (k_fi 5) (k_la 5) (k_sh 5) (k_ac 5) (k_no 5) o_se o_tr o_fi o_la o_sh o_ac o_no) (fun se_m42 tr_m43 fi_m44 la_m45 sh_m46 ac_m47 no_m48 => jck si 6 (if 6 ≤ si then jb (f_X0_placeOf fu ol 1) (fun v49 => some (v49, si, (uI k_se 5 se_m42), (uI k_tr 5 tr_m43), (uI k_fi 5 fi_m44), (uI k_la 5 la_m45), (uI k_sh 5 sh_m46), (uI k_ac 5 ac_m47), (uI k_no 5 no_m48))) else some (ol, (si + 1), (uI k_se 5 se_m42), (uI k_tr 5 tr_m43), (uI k_fi 5 fi_m44), (uI k_la 5 la_m45), (uI k_sh 5 sh_m46), (uI k_ac 5 ac_m47), (uI k_no 5 no_m48))))))
def f_X3_giveSetting (fu : Nat) (se : Int → Int) (x1 : Int) (x2 : Int) : Option ((Int → Int)) :=
  jb (f_X4_isIn fu x1 0 3) (fun v1 => jck v1 0 (if v1 = 0 then some se else jix 4 x1 (some (uI se x1 x2))))
def f_X4_set (fu : Nat) (r_se : Int → Int) (r_tr : Int → Int) (r_fi : Int → Int) (r_la : Int → Int) (r_sh : Int → Int) (r_ac : Int → Int) (r_no : Int) (g_ol : Int) (g_si : Int) (k_se : Int → Int → Int) (k_tr : Int → Int → Int) (k_fi : Int → Int → Int) (k_la : Int → Int → Int) (k_sh : Int → Int → Int) (k_ac : Int → Int → Int) (k_no : Int → Int) (x1 : Int) (x2 : Int) : Option (Int × (Int → Int) × Int × Int × (Int → Int → Int) × (Int → Int → Int) × (Int → Int → Int) × (Int → Int → Int) × (Int → Int → Int) × (Int → Int → Int) × (Int → Int)) :=
  jb (f_X4_isIn fu x1 0 3) (fun v1 => jck v1 0 (if v1 = 0 then some ((-2), r_se, g_ol, g_si, k_se, k_tr, k_fi, k_la, k_sh, k_ac, k_no) else jix 4 x1 (jix 4 x1 (jb (f_X4_isIn fu x2 (jL (Int.toNat x1)) (jG (Int.toNat x1))) (fun v2 => jck v2 0 (if v2 ≠ 0 then jb (f_X3_settingOf fu r_se x1) (fun v3 => jb9 (f_X0_record fu g_ol g_si k_se k_tr k_fi k_la k_sh k_ac k_no r_se r_tr r_fi r_la r_sh r_ac r_no) (fun ol_m4 si_m5 k_se_m6 k_tr_m7 k_fi_m8 k_la_m9 k_sh_m10 k_ac_m11 k_no_m12 => jb (f_X3_giveSetting fu r_se x1 x2) (fun se_m13 => some (v3, se_m13, ol_m4, si_m5, k_se_m6, k_tr_m7, k_fi_m8, k_la_m9, k_sh_m10, k_ac_m11, k_no_m12)))) else some ((-2), r_se, g_ol, g_si, k_se, k_tr, k_fi, k_la, k_sh, k_ac, k_no)))))))
def f_X4_isTrack (fu : Nat) (x0 : Int) : Option (Int) :=
  jb (f_X4_isIn fu x0 0 11) (fun v1 => jbo v1 (some v1))
def f_X4_isStep (fu : Nat) (x0 : Int) : Option (Int) :=
  jb (f_X4_isIn fu x0 0 99) (fun v1 => jbo v1 (some v1))
def f_X3_size (fu : Nat) (no : Int) : Option (Int) :=
  some no
def f_X3_has (fu : Nat) (no : Int) (x1 : Int) : Option (Int) :=
  jck x1 0 (if x1 < 0 then jbo 0 (some 0) else jck x1 no (if no ≤ x1 then jbo 0 (some 0) else jck x1 40 (if 40 ≤ x1 then jbo 0 (some 0) else jbo 1 (some 1))))
def f_X3_trackOf (fu : Nat) (tr : Int → Int) (no : Int) (x1 : Int) : Option (Int) :=
  jb (f_X3_has fu no x1) (fun v1 => jck v1 0 (if v1 = 0 then some 0 else jix 40 x1 (some (tr x1))))
def f_X3_firstOf (fu : Nat) (fi : Int → Int) (no : Int) (x1 : Int) : Option (Int) :=
  jb (f_X3_has fu no x1) (fun v1 => jck v1 0 (if v1 = 0 then some 0 else jix 40 x1 (some (fi x1))))
def f_X3_lastOf (fu : Nat) (la : Int → Int) (no : Int) (x1 : Int) : Option (Int) :=
  jb (f_X3_has fu no x1) (fun v1 => jck v1 0 (if v1 = 0 then some 0 else jix 40 x1 (some (la x1))))
def f_X3_touching_X54 (fu : Nat)  (v1 : Int) : Option (Int) :=
  some v1
def f_X3_touching_L6_b (fu : Nat) (tr : Int → Int) (fi : Int → Int) (la : Int → Int) (no : Int) (x1 : Int) (x2 : Int) (x3 : Int) (k6_ : Int → Option (Int)) (j6_ : Int → Int → Option (Int)) (v2 : Int) (v3 : Int) : Option (Int) :=
  jck v3 no (if no ≤ v3 then k6_ v2 else jb (f_X3_trackOf fu tr no v3) (fun v4 => jck v4 x1 (if v4 ≠ x1 then j6_ v2 (v3 + 1) else jb (f_X3_firstOf fu fi no v3) (fun v5 => jck v5 x3 (if x3 < v5 then j6_ v2 (v3 + 1) else jb (f_X3_lastOf fu la no v3) (fun v6 => jck v6 x2 (if v6 < x2 then j6_ v2 (v3 + 1) else j6_ (v2 + 1) (v3 + 1))))))))
def f_X3_touching_L6 (fu : Nat) (tr : Int → Int) (fi : Int → Int) (la : Int → Int) (no : Int) (x1 : Int) (x2 : Int) (x3 : Int) (k6_ : Int → Option (Int)) : Nat → Int → Int → Option (Int)
  | 0 => fun _ _ => none
  | n + 1 => f_X3_touching_L6_b fu tr fi la no x1 x2 x3 k6_ (f_X3_touching_L6 fu tr fi la no x1 x2 x3 k6_ n)
def f_X3_touching (fu : Nat) (tr : Int → Int) (fi : Int → Int) (la : Int → Int) (no : Int) (x1 : Int) (x2 : Int) (x3 : Int) : Option (Int) :=
  f_X3_touching_L6 fu tr fi la no x1 x2 x3 (f_X3_touching_X54 fu) fu 0 0
def f_X3_isTaken (fu : Nat) (tr : Int → Int) (fi : Int → Int) (la : Int → Int) (no : Int) (x1 : Int) (x2 : Int) (x3 : Int) : Option (Int) :=
  jb (f_X3_touching fu tr fi la no x1 x2 x3) (fun v1 => jck v1 0 (if v1 ≤ 0 then jbo 0 (some 0) else jbo 1 (some 1)))
def f_X3_placeFor_X53 (fu : Nat)  (v1 : Int) : Option (Int) :=
  some v1
def f_X3_placeFor_L5_b (fu : Nat) (tr : Int → Int) (fi : Int → Int) (no : Int) (x1 : Int) (x2 : Int) (k5_ : Int → Option (Int)) (j5_ : Int → Int → Option (Int)) (v2 : Int) (v3 : Int) : Option (Int) :=
  jck v3 no (if no ≤ v3 then k5_ v2 else jb (f_X3_firstOf fu fi no v3) (fun v4 => jck v4 x2 (if v4 < x2 then j5_ (v2 + 1) (v3 + 1) else jb (f_X3_firstOf fu fi no v3) (fun v5 => jck v5 x2 (if v5 ≠ x2 then j5_ v2 (v3 + 1) else jb (f_X3_trackOf fu tr no v3) (fun v6 => jck v6 x1 (if x1 ≤ v6 then j5_ v2 (v3 + 1) else j5_ (v2 + 1) (v3 + 1))))))))
def f_X3_placeFor_L5 (fu : Nat) (tr : Int → Int) (fi : Int → Int) (no : Int) (x1 : Int) (x2 : Int) (k5_ : Int → Option (Int)) : Nat → Int → Int → Option (Int)
  | 0 => fun _ _ => none
  | n + 1 => f_X3_placeFor_L5_b fu tr fi no x1 x2 k5_ (f_X3_placeFor_L5 fu tr fi no x1 x2 k5_ n)
def f_X3_placeFor (fu : Nat) (tr : Int → Int) (fi : Int → Int) (no : Int) (x1 : Int) (x2 : Int) : Option (Int) :=
  f_X3_placeFor_L5 fu tr fi no x1 x2 (f_X3_placeFor_X53 fu) fu 0 0
def f_X3_move (fu : Nat) (tr : Int → Int) (fi : Int → Int) (la : Int → Int) (sh : Int → Int) (ac : Int → Int) (x1 : Int) (x2 : Int) : Option ((Int → Int) × (Int → Int) × (Int → Int) × (Int → Int) × (Int → Int)) :=
  jb (f_X4_isIn fu x1 0 39) (fun v1 => jck v1 0 (if v1 = 0 then some (tr, fi, la, sh, ac) else jb (f_X4_isIn fu x2 0 39) (fun v2 => jck v2 0 (if v2 = 0 then some (tr, fi, la, sh, ac) else jix 40 x1 (jix 40 x2 (jix 40 x1 (jix 40 x2 (jix 40 x1 (jix 40 x2 (jix 40 x1 (jix 40 x2 (jix 40 x1 (jix 40 x2 (jbo (ac x1) (some ((uI tr x2 (tr x1)), (uI fi x2 (fi x1)), (uI la x2 (la x1)), (uI sh x2 (sh x1)), (uI ac x2 (ac x1))))))))))))))))))
def f_X3_add_J102 (fu : Nat) (v1 : Int) (tr_m9 : Int → Int) (fi_m10 : Int → Int) (la_m11 : Int → Int) (sh_m12 : Int → Int) (ac_m13 : Int → Int) (no_m14 : Int) : Option (Int × (Int → Int) × (Int → Int) × (Int → Int) × (Int → Int) × (Int → Int) × Int) :=
  some (v1, tr_m9, fi_m10, la_m11, sh_m12, ac_m13, (no_m14 + 1))
def f_X3_add_X49 (fu : Nat) (x1 : Int) (x2 : Int) (x3 : Int) (x4 : Int) (x5 : Int) (v1 : Int) (tr_m2 : Int → Int) (fi_m3 : Int → Int) (la_m4 : Int → Int) (sh_m5 : Int → Int) (ac_m6 : Int → Int) (no_m7 : Int) : Option (Int × (Int → Int) × (Int → Int) × (Int → Int) × (Int → Int) × (Int → Int) × Int) :=
  jb (f_X4_isIn fu v1 0 39) (fun v8 => jck v8 0 (if v8 = 0 then f_X3_add_J102 fu v1 tr_m2 fi_m3 la_m4 sh_m5 ac_m6 no_m7 else jix 40 v1 (jix 40 v1 (jix 40 v1 (jix 40 v1 (jix 40 v1 (jbo x5 (f_X3_add_J102 fu v1 (uI tr_m2 v1 x1) (uI fi_m3 v1 x2) (uI la_m4 v1 x3) (uI sh_m5 v1 x4) (uI ac_m6 v1 x5) no_m7))))))))
def f_X3_add_L26_b (fu : Nat) (v1 : Int) (k26_ : (Int → Int) → (Int → Int) → (Int → Int) → (Int → Int) → (Int → Int) → Int → Option (Int × (Int → Int) × (Int → Int) × (Int → Int) × (Int → Int) × (Int → Int) × Int)) (j26_ : (Int → Int) → (Int → Int) → (Int → Int) → (Int → Int) → (Int → Int) → Int → Int → Option (Int × (Int → Int) × (Int → Int) × (Int → Int) × (Int → Int) × (Int → Int) × Int)) (tr_m15 : Int → Int) (fi_m16 : Int → Int) (la_m17 : Int → Int) (sh_m18 : Int → Int) (ac_m19 : Int → Int) (no_m20 : Int) (v21 : Int) : Option (Int × (Int → Int) × (Int → Int) × (Int → Int) × (Int → Int) × (Int → Int) × Int) :=
  jck v21 v1 (if v21 ≤ v1 then k26_ tr_m15 fi_m16 la_m17 sh_m18 ac_m19 no_m20 else jb5 (f_X3_move fu tr_m15 fi_m16 la_m17 sh_m18 ac_m19 (v21 - 1) v21) (fun tr_m22 fi_m23 la_m24 sh_m25 ac_m26 => j26_ tr_m22 fi_m23 la_m24 sh_m25 ac_m26 no_m20 (v21 + (-1))))
def f_X3_add_L26 (fu : Nat) (v1 : Int) (k26_ : (Int → Int) → (Int → Int) → (Int → Int) → (Int → Int) → (Int → Int) → Int → Option (Int × (Int → Int) × (Int → Int) × (Int → Int) × (Int → Int) × (Int → Int) × Int)) : Nat → (Int → Int) → (Int → Int) → (Int → Int) → (Int → Int) → (Int → Int) → Int → Int → Option (Int × (Int → Int) × (Int → Int) × (Int → Int) × (Int → Int) × (Int → Int) × Int)
  | 0 => fun _ _ _ _ _ _ _ => none
  | n + 1 => f_X3_add_L26_b fu v1 k26_ (f_X3_add_L26 fu v1 k26_ n)
def f_X3_add (fu : Nat) (tr : Int → Int) (fi : Int → Int) (la : Int → Int) (sh : Int → Int) (ac : Int → Int) (no : Int) (x1 : Int) (x2 : Int) (x3 : Int) (x4 : Int) (x5 : Int) : Option (Int × (Int → Int) × (Int → Int) × (Int → Int) × (Int → Int) × (Int → Int) × Int) :=
  jck no 40 (if no < 40 then jb (f_X3_placeFor fu tr fi no x1 x2) (fun v1 => f_X3_add_L26 fu v1 (f_X3_add_X49 fu x1 x2 x3 x4 x5 v1) fu tr fi la sh ac no no) else some ((-4), tr, fi, la, sh, ac, no))
def f_X4_note (fu : Nat) (r_se : Int → Int) (r_tr : Int → Int) (r_fi : Int → Int) (r_la : Int → Int) (r_sh : Int → Int) (r_ac : Int → Int) (r_no : Int) (g_ol : Int) (g_si : Int) (k_se : Int → Int → Int) (k_tr : Int → Int → Int) (k_fi : Int → Int → Int) (k_la : Int → Int → Int) (k_sh : Int → Int → Int) (k_ac : Int → Int → Int) (k_no : Int → Int) (x1 : Int) (x2 : Int) (x3 : Int) : Option (Int × (Int → Int) × (Int → Int) × (Int → Int) × (Int → Int) × (Int → Int) × Int × Int × Int × (Int → Int → Int) × (Int → Int → Int) × (Int → Int → Int) × (Int → Int → Int) × (Int → Int → Int) × (Int → Int → Int) × (Int → Int)) :=
  jb (f_X4_isTrack fu x1) (fun v1 => jck v1 0 (if v1 ≠ 0 then jb (f_X4_isStep fu x2) (fun v2 => jck v2 0 (if v2 = 0 then some ((-2), r_tr, r_fi, r_la, r_sh, r_ac, r_no, g_ol, g_si, k_se, k_tr, k_fi, k_la, k_sh, k_ac, k_no) else jb (f_X4_isStep fu x3) (fun v3 => jck v3 0 (if v3 = 0 then some ((-2), r_tr, r_fi, r_la, r_sh, r_ac, r_no, g_ol, g_si, k_se, k_tr, k_fi, k_la, k_sh, k_ac, k_no) else jck x3 x2 (if x2 ≤ x3 then jb (f_X3_size fu r_no) (fun v4 => jck v4 40 (if v4 < 40 then jb (f_X3_isTaken fu r_tr r_fi r_la r_no x1 x2 x3) (fun v5 => jck v5 0 (if v5 = 0 then jb9 (f_X0_record fu g_ol g_si k_se k_tr k_fi k_la k_sh k_ac k_no r_se r_tr r_fi r_la r_sh r_ac r_no) (fun ol_m6 si_m7 k_se_m8 k_tr_m9 k_fi_m10 k_la_m11 k_sh_m12 k_ac_m13 k_no_m14 => jb7 (f_X3_add fu r_tr r_fi r_la r_sh r_ac r_no x1 x2 x3 0 0) (fun v15 tr_m16 fi_m17 la_m18 sh_m19 ac_m20 no_m21 => some (v15, tr_m16, fi_m17, la_m18, sh_m19, ac_m20, no_m21, ol_m6, si_m7, k_se_m8, k_tr_m9, k_fi_m10, k_la_m11, k_sh_m12, k_ac_m13, k_no_m14))) else some ((-5), r_tr, r_fi, r_la, r_sh, r_ac, r_no, g_ol, g_si, k_se, k_tr, k_fi, k_la, k_sh, k_ac, k_no))) else some ((-4), r_tr, r_fi, r_la, r_sh, r_ac, r_no, g_ol, g_si, k_se, k_tr, k_fi, k_la, k_sh, k_ac, k_no))) else some ((-2), r_tr, r_fi, r_la, r_sh, r_ac, r_no, g_ol, g_si, k_se, k_tr, k_fi, k_la, k_sh, k_ac, k_no)))))) else some ((-1), r_tr, r_fi, r_la, r_sh, r_ac, r_no, g_ol, g_si, k_se, k_tr, k_fi, k_la, k_sh, k_ac, k_no)))
def f_X3_remove_X34 (fu : Nat)  (tr_m2 : Int → Int) (fi_m3 : Int → Int) (la_m4 : Int → Int) (sh_m5 : Int → Int) (ac_m6 : Int → Int) (no_m7 : Int) : Option ((Int → Int) × (Int → Int) × (Int → Int) × (Int → Int) × (Int → Int) × Int) :=
  some (tr_m2, fi_m3, la_m4, sh_m5, ac_m6, (no_m7 - 1))
def f_X3_remove_L12_b (fu : Nat) (k12_ : (Int → Int) → (Int → Int) → (Int → Int) → (Int → Int) → (Int → Int) → Int → Option ((Int → Int) × (Int → Int) × (Int → Int) × (Int → Int) × (Int → Int) × Int)) (j12_ : (Int → Int) → (Int → Int) → (Int → Int) → (Int → Int) → (Int → Int) → Int → Int → Option ((Int → Int) × (Int → Int) × (Int → Int) × (Int → Int) × (Int → Int) × Int)) (tr_m8 : Int → Int) (fi_m9 : Int → Int) (la_m10 : Int → Int) (sh_m11 : Int → Int) (ac_m12 : Int → Int) (no_m13 : Int) (v14 : Int) : Option ((Int → Int) × (Int → Int) × (Int → Int) × (Int → Int) × (Int → Int) × Int) :=
  jck v14 no_m13 (if no_m13 ≤ v14 then k12_ tr_m8 fi_m9 la_m10 sh_m11 ac_m12 no_m13 else jb5 (f_X3_move fu tr_m8 fi_m9 la_m10 sh_m11 ac_m12 v14 (v14 - 1)) (fun tr_m15 fi_m16 la_m17 sh_m18 ac_m19 => j12_ tr_m15 fi_m16 la_m17 sh_m18 ac_m19 no_m13 (v14 + 1)))
def f_X3_remove_L12 (fu : Nat) (k12_ : (Int → Int) → (Int → Int) → (Int → Int) → (Int → Int) → (Int → Int) → Int → Option ((Int → Int) × (Int → Int) × (Int → Int) × (Int → Int) × (Int → Int) × Int)) : Nat → (Int → Int) → (Int → Int) → (Int → Int) → (Int → Int) → (Int → Int) → Int → Int → Option ((Int → Int) × (Int → Int) × (Int → Int) × (Int → Int) × (Int → Int) × Int)
  | 0 => fun _ _ _ _ _ _ _ => none
  | n + 1 => f_X3_remove_L12_b fu k12_ (f_X3_remove_L12 fu k12_ n)
def f_X3_remove (fu : Nat) (tr : Int → Int) (fi : Int → Int) (la : Int → Int) (sh : Int → Int) (ac : Int → Int) (no : Int) (x1 : Int) : Option ((Int → Int) × (Int → Int) × (Int → Int) × (Int → Int) × (Int → Int) × Int) :=
  jb (f_X3_has fu no x1) (fun v1 => jck v1 0 (if v1 = 0 then some (tr, fi, la, sh, ac, no) else f_X3_remove_L12 fu (f_X3_remove_X34 fu) fu tr fi la sh ac no (x1 + 1)))
def f_X4_drop (fu : Nat) (r_se : Int → Int) (r_tr : Int → Int) (r_fi : Int → Int) (r_la : Int → Int) (r_sh : Int → Int) (r_ac : Int → Int) (r_no : Int) (g_ol : Int) (g_si : Int) (k_se : Int → Int → Int) (k_tr : Int → Int → Int) (k_fi : Int → Int → Int) (k_la : Int → Int → Int) (k_sh : Int → Int → Int) (k_ac : Int → Int → Int) (k_no : Int → Int) (x1 : Int) : Option (Int × (Int → Int) × (Int → Int) × (Int → Int) × (Int → Int) × (Int → Int) × Int × Int × Int × (Int → Int → Int) × (Int → Int → Int) × (Int → Int → Int) × (Int → Int → Int) × (Int → Int → Int) × (Int → Int → Int) × (Int → Int)) :=
  jb (f_X3_has fu r_no x1) (fun v1 => jck v1 0 (if v1 ≠ 0 then jb9 (f_X0_record fu g_ol g_si k_se k_tr k_fi k_la k_sh k_ac k_no r_se r_tr r_fi r_la r_sh r_ac r_no) (fun ol_m2 si_m3 k_se_m4 k_tr_m5 k_fi_m6 k_la_m7 k_sh_m8 k_ac_m9 k_no_m10 => jb6 (f_X3_remove fu r_tr r_fi r_la r_sh r_ac r_no x1) (fun tr_m11 fi_m12 la_m13 sh_m14 ac_m15 no_m16 => jb (f_X3_size fu no_m16) (fun v17 => some (v17, tr_m11, fi_m12, la_m13, sh_m14, ac_m15, no_m16, ol_m2, si_m3, k_se_m4, k_tr_m5, k_fi_m6, k_la_m7, k_sh_m8, k_ac_m9, k_no_m10)))) else some ((-1), r_tr, r_fi, r_la, r_sh, r_ac, r_no, g_ol, g_si, k_se, k_tr, k_fi, k_la, k_sh, k_ac, k_no)))
def f_X3_shiftOf (fu : Nat) (sh : Int → Int) (no : Int) (x1 : Int) : Option (Int) :=
  jb (f_X3_has fu no x1) (fun v1 => jck v1 0 (if v1 = 0 then some 0 else jix 40 x1 (some (sh x1))))
def f_X3_giveShift (fu : Nat) (sh : Int → Int) (no : Int) (x1 : Int) (x2 : Int) : Option ((Int → Int)) :=
  jb (f_X3_has fu no x1) (fun v1 => jck v1 0 (if v1 = 0 then some sh else jix 40 x1 (some (uI sh x1 x2))))
def f_X4_shift (fu : Nat) (r_se : Int → Int) (r_tr : Int → Int) (r_fi : Int → Int) (r_la : Int → Int) (r_sh : Int → Int) (r_ac : Int → Int) (r_no : Int) (g_ol : Int) (g_si : Int) (k_se : Int → Int → Int) (k_tr : Int → Int → Int) (k_fi : Int → Int → Int) (k_la : Int → Int → Int) (k_sh : Int → Int → Int) (k_ac : Int → Int → Int) (k_no : Int → Int) (x1 : Int) (x2 : Int) : Option (Int × (Int → Int) × Int × Int × (Int → Int → Int) × (Int → Int → Int) × (Int → Int → Int) × (Int → Int → Int) × (Int → Int → Int) × (Int → Int → Int) × (Int → Int)) :=
  jb (f_X3_has fu r_no x1) (fun v1 => jck v1 0 (if v1 ≠ 0 then jb (f_X4_isIn fu x2 0 12) (fun v2 => jck v2 0 (if v2 ≠ 0 then jb (f_X3_shiftOf fu r_sh r_no x1) (fun v3 => jb9 (f_X0_record fu g_ol g_si k_se k_tr k_fi k_la k_sh k_ac k_no r_se r_tr r_fi r_la r_sh r_ac r_no) (fun ol_m4 si_m5 k_se_m6 k_tr_m7 k_fi_m8 k_la_m9 k_sh_m10 k_ac_m11 k_no_m12 => jb (f_X3_giveShift fu r_sh r_no x1 x2) (fun sh_m13 => some (v3, sh_m13, ol_m4, si_m5, k_se_m6, k_tr_m7, k_fi_m8, k_la_m9, k_sh_m10, k_ac_m11, k_no_m12)))) else some ((-2), r_sh, g_ol, g_si, k_se, k_tr, k_fi, k_la, k_sh, k_ac, k_no))) else some ((-1), r_sh, g_ol, g_si, k_se, k_tr, k_fi, k_la, k_sh, k_ac, k_no)))
def f_X3_hasAccent (fu : Nat) (ac : Int → Int) (no : Int) (x1 : Int) : Option (Int) :=
  jb (f_X3_has fu no x1) (fun v1 => jck v1 0 (if v1 = 0 then jbo 0 (some 0) else jix 40 x1 (jck (ac x1) 0 (if (ac x1) = 0 then jbo 0 (some 0) else jbo 1 (some 1)))))
def f_X3_giveAccent (fu : Nat) (ac : Int → Int) (no : Int) (x1 : Int) (x2 : Int) : Option ((Int → Int)) :=
  jb (f_X3_has fu no x1) (fun v1 => jck v1 0 (if v1 = 0 then some ac else jix 40 x1 (jbo x2 (some (uI ac x1 x2)))))
def f_X4_asNumber (fu : Nat) (x0 : Int) : Option (Int) :=
  jck x0 0 (if x0 = 0 then some 0 else some 1)
def f_X4_accent (fu : Nat) (r_se : Int → Int) (r_tr : Int → Int) (r_fi : Int → Int) (r_la : Int → Int) (r_sh : Int → Int) (r_ac : Int → Int) (r_no : Int) (g_ol : Int) (g_si : Int) (k_se : Int → Int → Int) (k_tr : Int → Int → Int) (k_fi : Int → Int → Int) (k_la : Int → Int → Int) (k_sh : Int → Int → Int) (k_ac : Int → Int → Int) (k_no : Int → Int) (x1 : Int) (x2 : Int) : Option (Int × (Int → Int) × Int × Int × (Int → Int → Int) × (Int → Int → Int) × (Int → Int → Int) × (Int → Int → Int) × (Int → Int → Int) × (Int → Int → Int) × (Int → Int)) :=
  jb (f_X3_has fu r_no x1) (fun v1 => jck v1 0 (if v1 ≠ 0 then jb (f_X3_hasAccent fu r_ac r_no x1) (fun v2 => jb9 (f_X0_record fu g_ol g_si k_se k_tr k_fi k_la k_sh k_ac k_no r_se r_tr r_fi r_la r_sh r_ac r_no) (fun ol_m3 si_m4 k_se_m5 k_tr_m6 k_fi_m7 k_la_m8 k_sh_m9 k_ac_m10 k_no_m11 => jb (f_X3_giveAccent fu r_ac r_no x1 x2) (fun ac_m12 => jb (f_X4_asNumber fu v2) (fun v13 => some (v13, ac_m12, ol_m3, si_m4, k_se_m5, k_tr_m6, k_fi_m7, k_la_m8, k_sh_m9, k_ac_m10, k_no_m11))))) else some ((-1), r_ac, g_ol, g_si, k_se, k_tr, k_fi, k_la, k_sh, k_ac, k_no)))
def f_X3_greatestLast_X28 (fu : Nat)  (v1 : Int) : Option (Int) :=
  some v1
def f_X3_greatestLast_L4_b (fu : Nat) (la : Int → Int) (no : Int) (k4_ : Int → Option (Int)) (j4_ : Int → Int → Option (Int)) (v2 : Int) (v3 : Int) : Option (Int) :=
  jck v3 no (if no ≤ v3 then k4_ v2 else jb (f_X3_lastOf fu la no v3) (fun v4 => jck v2 v4 (j4_ (jmax v2 v4) (v3 + 1))))
def f_X3_greatestLast_L4 (fu : Nat) (la : Int → Int) (no : Int) (k4_ : Int → Option (Int)) : Nat → Int → Int → Option (Int)
  | 0 => fun _ _ => none
  | n + 1 => f_X3_greatestLast_L4_b fu la no k4_ (f_X3_greatestLast_L4 fu la no k4_ n)
def f_X3_greatestLast (fu : Nat) (la : Int → Int) (no : Int) : Option (Int) :=
  f_X3_greatestLast_L4 fu la no (f_X3_greatestLast_X28 fu) fu (-1) 0
def f_X3_lengthen_X88 (fu : Nat)  (fi_m1 : Int → Int) (la_m2 : Int → Int) (v3 : Int) : Option (Int × (Int → Int) × (Int → Int)) :=
  some (v3, fi_m1, la_m2)
def f_X3_lengthen_L5_b (fu : Nat) (no : Int) (x1 : Int) (x2 : Int) (k5_ : (Int → Int) → (Int → Int) → Int → Option (Int × (Int → Int) × (Int → Int))) (j5_ : (Int → Int) → (Int → Int) → Int → Int → Option (Int × (Int → Int) × (Int → Int))) (fi_m4 : Int → Int) (la_m5 : Int → Int) (v6 : Int) (v7 : Int) : Option (Int × (Int → Int) × (Int → Int)) :=
  jck v7 no (if no ≤ v7 then k5_ fi_m4 la_m5 v6 else jck v7 40 (if 40 ≤ v7 then k5_ fi_m4 la_m5 v6 else jix 40 v7 (jck (fi_m4 v7) x1 (if (fi_m4 v7) < x1 then jix 40 v7 (jck (la_m5 v7) x1 (if (la_m5 v7) < x1 then j5_ fi_m4 la_m5 v6 (v7 + 1) else jix 40 v7 (jix 40 v7 (j5_ fi_m4 (uI la_m5 v7 ((la_m5 v7) + x2)) (v6 + 1) (v7 + 1))))) else jix 40 v7 (jix 40 v7 (jix 40 v7 (jix 40 v7 (j5_ (uI fi_m4 v7 ((fi_m4 v7) + x2)) (uI la_m5 v7 ((la_m5 v7) + x2)) v6 (v7 + 1)))))))))
def f_X3_lengthen_L5 (fu : Nat) (no : Int) (x1 : Int) (x2 : Int) (k5_ : (Int → Int) → (Int → Int) → Int → Option (Int × (Int → Int) × (Int → Int))) : Nat → (Int → Int) → (Int → Int) → Int → Int → Option (Int × (Int → Int) × (Int → Int))
  | 0 => fun _ _ _ _ => none
  | n + 1 => f_X3_lengthen_L5_b fu no x1 x2 k5_ (f_X3_lengthen_L5 fu no x1 x2 k5_ n)
def f_X3_lengthen (fu : Nat) (fi : Int → Int) (la : Int → Int) (no : Int) (x1 : Int) (x2 : Int) : Option (Int × (Int → Int) × (Int → Int)) :=
  f_X3_lengthen_L5 fu no x1 x2 (f_X3_lengthen_X88 fu) fu fi la 0 0
def f_X4_insert_J44 (fu : Nat) (r_se : Int → Int) (r_tr : Int → Int) (r_fi : Int → Int) (r_la : Int → Int) (r_sh : Int → Int) (r_ac : Int → Int) (r_no : Int) (g_ol : Int) (g_si : Int) (k_se : Int → Int → Int) (k_tr : Int → Int → Int) (k_fi : Int → Int → Int) (k_la : Int → Int → Int) (k_sh : Int → Int → Int) (k_ac : Int → Int → Int) (k_no : Int → Int) (x1 : Int) (x2 : Int)  : Option (Int × (Int → Int) × (Int → Int) × Int × Int × (Int → Int → Int) × (Int → Int → Int) × (Int → Int → Int) × (Int → Int → Int) × (Int → Int → Int) × (Int → Int → Int) × (Int → Int)) :=
  jb9 (f_X0_record fu g_ol g_si k_se k_tr k_fi k_la k_sh k_ac k_no r_se r_tr r_fi r_la r_sh r_ac r_no) (fun ol_m4 si_m5 k_se_m6 k_tr_m7 k_fi_m8 k_la_m9 k_sh_m10 k_ac_m11 k_no_m12 => jb3 (f_X3_lengthen fu r_fi r_la r_no x1 x2) (fun v13 fi_m14 la_m15 => some (v13, fi_m14, la_m15, ol_m4, si_m5, k_se_m6, k_tr_m7, k_fi_m8, k_la_m9, k_sh_m10, k_ac_m11, k_no_m12)))
def f_X4_insert (fu : Nat) (r_se : Int → Int) (r_tr : Int → Int) (r_fi : Int → Int) (r_la : Int → Int) (r_sh : Int → Int) (r_ac : Int → Int) (r_no : Int) (g_ol : Int) (g_si : Int) (k_se : Int → Int → Int) (k_tr : Int → Int → Int) (k_fi : Int → Int → Int) (k_la : Int → Int → Int) (k_sh : Int → Int → Int) (k_ac : Int → Int → Int) (k_no : Int → Int) (x1 : Int) (x2 : Int) : Option (Int × (Int → Int) × (Int → Int) × Int × Int × (Int → Int → Int) × (Int → Int → Int) × (Int → Int → Int) × (Int → Int → Int) × (Int → Int → Int) × (Int → Int → Int) × (Int → Int)) :=
  jb (f_X4_isStep fu x1) (fun v1 => jck v1 0 (if v1 = 0 then some ((-2), r_fi, r_la, g_ol, g_si, k_se, k_tr, k_fi, k_la, k_sh, k_ac, k_no) else jb (f_X4_isIn fu x2 1 50) (fun v2 => jck v2 0 (if v2 ≠ 0 then jb (f_X3_greatestLast fu r_la r_no) (fun v3 => jck v3 x1 (if v3 < x1 then f_X4_insert_J44 fu r_se r_tr r_fi r_la r_sh r_ac r_no g_ol g_si k_se k_tr k_fi k_la k_sh k_ac k_no x1 x2 else jck (v3 + x2) 100 (if (v3 + x2) < 100 then f_X4_insert_J44 fu r_se r_tr r_fi r_la r_sh r_ac r_no g_ol g_si k_se k_tr k_fi k_la k_sh k_ac k_no x1 x2 else some ((-5), r_fi, r_la, g_ol, g_si, k_se, k_tr, k_fi, k_la, k_sh, k_ac, k_no)))) else some ((-2), r_fi, r_la, g_ol, g_si, k_se, k_tr, k_fi, k_la, k_sh, k_ac, k_no)))))
def f_X3_takeCut_X130 (fu : Nat)  (tr_m1 : Int → Int) (fi_m2 : Int → Int) (la_m3 : Int → Int) (sh_m4 : Int → Int) (ac_m5 : Int → Int) (no_m6 : Int) : Option ((Int → Int) × (Int → Int) × (Int → Int) × (Int → Int) × (Int → Int) × Int) :=
  some (tr_m1, fi_m2, la_m3, sh_m4, ac_m5, no_m6)
def f_X3_takeCut_J95 (fu : Nat) (o_tr : Int → Int) (o_sh : Int → Int) (o_ac : Int → Int) (o_no : Int) (tr_m7 : Int → Int) (fi_m8 : Int → Int) (la_m9 : Int → Int) (sh_m10 : Int → Int) (ac_m11 : Int → Int) (no_m12 : Int) (v13 : Int) (v14 : Int) (v18 : Int) (j13_ : (Int → Int) → (Int → Int) → (Int → Int) → (Int → Int) → (Int → Int) → Int → Int → Int → Option ((Int → Int) × (Int → Int) × (Int → Int) × (Int → Int) × (Int → Int) × Int)) (v19 : Int) : Option ((Int → Int) × (Int → Int) × (Int → Int) × (Int → Int) × (Int → Int) × Int) :=
  jb (f_X3_trackOf fu o_tr o_no v14) (fun v20 => jb (f_X3_shiftOf fu o_sh o_no v14) (fun v21 => jb (f_X3_hasAccent fu o_ac o_no v14) (fun v22 => jb7 (f_X3_add fu tr_m7 fi_m8 la_m9 sh_m10 ac_m11 no_m12 v20 v18 v19 v21 v22) (fun v23 tr_m24 fi_m25 la_m26 sh_m27 ac_m28 no_m29 => j13_ tr_m24 fi_m25 la_m26 sh_m27 ac_m28 no_m29 v13 (v14 + 1)))))
def f_X3_takeCut_J71 (fu : Nat) (o_tr : Int → Int) (o_sh : Int → Int) (o_ac : Int → Int) (o_no : Int) (x2 : Int) (x3 : Int) (tr_m7 : Int → Int) (fi_m8 : Int → Int) (la_m9 : Int → Int) (sh_m10 : Int → Int) (ac_m11 : Int → Int) (no_m12 : Int) (v13 : Int) (v14 : Int) (v17 : Int) (j13_ : (Int → Int) → (Int → Int) → (Int → Int) → (Int → Int) → (Int → Int) → Int → Int → Int → Option ((Int → Int) × (Int → Int) × (Int → Int) × (Int → Int) × (Int → Int) × Int)) (v18 : Int) : Option ((Int → Int) × (Int → Int) × (Int → Int) × (Int → Int) × (Int → Int) × Int) :=
  jck v17 v13 (if v13 ≤ v17 then f_X3_takeCut_J95 fu o_tr o_sh o_ac o_no tr_m7 fi_m8 la_m9 sh_m10 ac_m11 no_m12 v13 v14 v18 j13_ (v17 - x3) else jck v17 (x2 - 1) (f_X3_takeCut_J95 fu o_tr o_sh o_ac o_no tr_m7 fi_m8 la_m9 sh_m10 ac_m11 no_m12 v13 v14 v18 j13_ (jmin v17 (x2 - 1))))
def f_X3_takeCut_J51 (fu : Nat) (o_tr : Int → Int) (o_sh : Int → Int) (o_ac : Int → Int) (o_no : Int) (x2 : Int) (x3 : Int) (tr_m7 : Int → Int) (fi_m8 : Int → Int) (la_m9 : Int → Int) (sh_m10 : Int → Int) (ac_m11 : Int → Int) (no_m12 : Int) (v13 : Int) (v14 : Int) (v16 : Int) (v17 : Int) (j13_ : (Int → Int) → (Int → Int) → (Int → Int) → (Int → Int) → (Int → Int) → Int → Int → Int → Option ((Int → Int) × (Int → Int) × (Int → Int) × (Int → Int) × (Int → Int) × Int))  : Option ((Int → Int) × (Int → Int) × (Int → Int) × (Int → Int) × (Int → Int) × Int) :=
  jck v16 x2 (if x2 ≤ v16 then jck v16 v13 (f_X3_takeCut_J71 fu o_tr o_sh o_ac o_no x2 x3 tr_m7 fi_m8 la_m9 sh_m10 ac_m11 no_m12 v13 v14 v17 j13_ ((jmax v16 v13) - x3)) else f_X3_takeCut_J71 fu o_tr o_sh o_ac o_no x2 x3 tr_m7 fi_m8 la_m9 sh_m10 ac_m11 no_m12 v13 v14 v17 j13_ v16)
def f_X3_takeCut_L13_b (fu : Nat) (o_tr : Int → Int) (o_fi : Int → Int) (o_la : Int → Int) (o_sh : Int → Int) (o_ac : Int → Int) (o_no : Int) (x2 : Int) (x3 : Int) (k13_ : (Int → Int) → (Int → Int) → (Int → Int) → (Int → Int) → (Int → Int) → Int → Option ((Int → Int) × (Int → Int) × (Int → Int) × (Int → Int) × (Int → Int) × Int)) (j13_ : (Int → Int) → (Int → Int) → (Int → Int) → (Int → Int) → (Int → Int) → Int → Int → Int → Option ((Int → Int) × (Int → Int) × (Int → Int) × (Int → Int) × (Int → Int) × Int)) (tr_m7 : Int → Int) (fi_m8 : Int → Int) (la_m9 : Int → Int) (sh_m10 : Int → Int) (ac_m11 : Int → Int) (no_m12 : Int) (v13 : Int) (v14 : Int) : Option ((Int → Int) × (Int → Int) × (Int → Int) × (Int → Int) × (Int → Int) × Int) :=
  jb (f_X3_size fu o_no) (fun v15 => jck v14 v15 (if v15 ≤ v14 then k13_ tr_m7 fi_m8 la_m9 sh_m10 ac_m11 no_m12 else jb (f_X3_firstOf fu o_fi o_no v14) (fun v16 => jb (f_X3_lastOf fu o_la o_no v14) (fun v17 => jck v16 x2 (if v16 < x2 then f_X3_takeCut_J51 fu o_tr o_sh o_ac o_no x2 x3 tr_m7 fi_m8 la_m9 sh_m10 ac_m11 no_m12 v13 v14 v16 v17 j13_ else jck v17 v13 (if v17 < v13 then j13_ tr_m7 fi_m8 la_m9 sh_m10 ac_m11 no_m12 v13 (v14 + 1) else f_X3_takeCut_J51 fu o_tr o_sh o_ac o_no x2 x3 tr_m7 fi_m8 la_m9 sh_m10 ac_m11 no_m12 v13 v14 v16 v17 j13_))))))
def f_X3_takeCut_L13 (fu : Nat) (o_tr : Int → Int) (o_fi : Int → Int) (o_la : Int → Int) (o_sh : Int → Int) (o_ac : Int → Int) (o_no : Int) (x2 : Int) (x3 : Int) (k13_ : (Int → Int) → (Int → Int) → (Int → Int) → (Int → Int) → (Int → Int) → Int → Option ((Int → Int) × (Int → Int) × (Int → Int) × (Int → Int) × (Int → Int) × Int)) : Nat → (Int → Int) → (Int → Int) → (Int → Int) → (Int → Int) → (Int → Int) → Int → Int → Int → Option ((Int → Int) × (Int → Int) × (Int → Int) × (Int → Int) × (Int → Int) × Int)
  | 0 => fun _ _ _ _ _ _ _ _ => none
  | n + 1 => f_X3_takeCut_L13_b fu o_tr o_fi o_la o_sh o_ac o_no x2 x3 k13_ (f_X3_takeCut_L13 fu o_tr o_fi o_la o_sh o_ac o_no x2 x3 k13_ n)
def f_X3_takeCut (fu : Nat) (tr : Int → Int) (fi : Int → Int) (la : Int → Int) (sh : Int → Int) (ac : Int → Int) (no : Int) (o_tr : Int → Int) (o_fi : Int → Int) (o_la : Int → Int) (o_sh : Int → Int) (o_ac : Int → Int) (o_no : Int) (x2 : Int) (x3 : Int) : Option ((Int → Int) × (Int → Int) × (Int → Int) × (Int → Int) × (Int → Int) × Int) :=
  f_X3_takeCut_L13 fu o_tr o_fi o_la o_sh o_ac o_no x2 x3 (f_X3_takeCut_X130 fu) fu tr fi la sh ac 0 (x2 + x3) 0
def f_X4_cut (fu : Nat) (r_se : Int → Int) (r_tr : Int → Int) (r_fi : Int → Int) (r_la : Int → Int) (r_sh : Int → Int) (r_ac : Int → Int) (r_no : Int) (u_se : Int → Int) (u_tr : Int → Int) (u_fi : Int → Int) (u_la : Int → Int) (u_sh : Int → Int) (u_ac : Int → Int) (u_no : Int) (g_ol : Int) (g_si : Int) (k_se : Int → Int → Int) (k_tr : Int → Int → Int) (k_fi : Int → Int → Int) (k_la : Int → Int → Int) (k_sh : Int → Int → Int) (k_ac : Int → Int → Int) (k_no : Int → Int) (x1 : Int) (x2 : Int) : Option (Int × (Int → Int) × (Int → Int) × (Int → Int) × (Int → Int) × (Int → Int) × (Int → Int) × Int × (Int → Int) × (Int → Int) × (Int → Int) × (Int → Int) × (Int → Int) × (Int → Int) × Int × Int × Int × (Int → Int → Int) × (Int → Int → Int) × (Int → Int → Int) × (Int → Int → Int) × (Int → Int → Int) × (Int → Int → Int) × (Int → Int)) :=
  jb (f_X4_isStep fu x1) (fun v1 => jck v1 0 (if v1 = 0 then some ((-2), r_se, r_tr, r_fi, r_la, r_sh, r_ac, r_no, u_se, u_tr, u_fi, u_la, u_sh, u_ac, u_no, g_ol, g_si, k_se, k_tr, k_fi, k_la, k_sh, k_ac, k_no) else jb (f_X4_isIn fu x2 1 (100 - x1)) (fun v2 => jck v2 0 (if v2 ≠ 0 then jb (f_X3_size fu r_no) (fun v3 => jb9 (f_X0_record fu g_ol g_si k_se k_tr k_fi k_la k_sh k_ac k_no r_se r_tr r_fi r_la r_sh r_ac r_no) (fun ol_m4 si_m5 k_se_m6 k_tr_m7 k_fi_m8 k_la_m9 k_sh_m10 k_ac_m11 k_no_m12 => jb (f_X3_takeSettings fu u_se r_se) (fun se_m13 => jb6 (f_X3_takeCut fu u_tr u_fi u_la u_sh u_ac u_no r_tr r_fi r_la r_sh r_ac r_no x1 x2) (fun tr_m14 fi_m15 la_m16 sh_m17 ac_m18 no_m19 => jb7 (f_X3_become fu r_se r_tr r_fi r_la r_sh r_ac r_no se_m13 tr_m14 fi_m15 la_m16 sh_m17 ac_m18 no_m19) (fun se_m20 tr_m21 fi_m22 la_m23 sh_m24 ac_m25 no_m26 => jb (f_X3_size fu no_m26) (fun v27 => some ((v3 - v27), se_m20, tr_m21, fi_m22, la_m23, sh_m24, ac_m25, no_m26, se_m13, tr_m14, fi_m15, la_m16, sh_m17, ac_m18, no_m19, ol_m4, si_m5, k_se_m6, k_tr_m7, k_fi_m8, k_la_m9, k_sh_m10, k_ac_m11, k_no_m12))))))) else some ((-2), r_se, r_tr, r_fi, r_la, r_sh, r_ac, r_no, u_se, u_tr, u_fi, u_la, u_sh, u_ac, u_no, g_ol, g_si, k_se, k_tr, k_fi, k_la, k_sh, k_ac, k_no)))))
def f_X4_isPassage (fu : Nat) (x0 : Int) (x1 : Int) : Option (Int) :=
  jb (f_X4_isStep fu x0) (fun v1 => jck v1 0 (if v1 = 0 then jbo 0 (some 0) else jb (f_X4_isStep fu x1) (fun v2 => jck v2 0 (if v2 = 0 then jbo 0 (some 0) else jck x0 x1 (if x1 < x0 then jbo 0 (some 0) else jbo 1 (some 1))))))
def f_X3_liesWithin (fu : Nat) (fi : Int → Int) (la : Int → Int) (no : Int) (x1 : Int) (x2 : Int) (x3 : Int) : Option (Int) :=
  jb (f_X3_has fu no x1) (fun v1 => jck v1 0 (if v1 = 0 then jbo 0 (some 0) else jb (f_X3_firstOf fu fi no x1) (fun v2 => jck v2 x2 (if v2 < x2 then jbo 0 (some 0) else jb (f_X3_lastOf fu la no x1) (fun v3 => jck v3 x3 (if x3 < v3 then jbo 0 (some 0) else jbo 1 (some 1)))))))
def f_X3_within_X34 (fu : Nat)  (v1 : Int) : Option (Int) :=
  some v1
def f_X3_within_L5_b (fu : Nat) (fi : Int → Int) (la : Int → Int) (no : Int) (x1 : Int) (x2 : Int) (k5_ : Int → Option (Int)) (j5_ : Int → Int → Option (Int)) (v2 : Int) (v3 : Int) : Option (Int) :=
  jck v3 no (if no ≤ v3 then k5_ v2 else jb (f_X3_liesWithin fu fi la no v3 x1 x2) (fun v4 => jck v4 0 (if v4 = 0 then j5_ v2 (v3 + 1) else j5_ (v2 + 1) (v3 + 1))))
def f_X3_within_L5 (fu : Nat) (fi : Int → Int) (la : Int → Int) (no : Int) (x1 : Int) (x2 : Int) (k5_ : Int → Option (Int)) : Nat → Int → Int → Option (Int)
  | 0 => fun _ _ => none
  | n + 1 => f_X3_within_L5_b fu fi la no x1 x2 k5_ (f_X3_within_L5 fu fi la no x1 x2 k5_ n)
def f_X3_within (fu : Nat) (fi : Int → Int) (la : Int → Int) (no : Int) (x1 : Int) (x2 : Int) : Option (Int) :=
  f_X3_within_L5 fu fi la no x1 x2 (f_X3_within_X34 fu) fu 0 0
def f_X4_isFreeAt_X97 (fu : Nat)   : Option (Int) :=
  jbo 1 (some 1)
def f_X4_isFreeAt_L3_b (fu : Nat) (r_tr : Int → Int) (r_fi : Int → Int) (r_la : Int → Int) (r_no : Int) (x1 : Int) (x2 : Int) (x3 : Int) (k3_ : Option (Int)) (j3_ : Int → Option (Int)) (v1 : Int) : Option (Int) :=
  jb (f_X3_size fu r_no) (fun v2 => jck v1 v2 (if v2 ≤ v1 then k3_ else jb (f_X3_liesWithin fu r_fi r_la r_no v1 x1 x2) (fun v3 => jck v3 0 (if v3 = 0 then j3_ (v1 + 1) else jb (f_X3_firstOf fu r_fi r_no v1) (fun v4 => jb (f_X3_lastOf fu r_la r_no v1) (fun v5 => jck ((v5 - x1) + x3) 100 (if 100 ≤ ((v5 - x1) + x3) then jbo 0 (some 0) else jb (f_X3_trackOf fu r_tr r_no v1) (fun v6 => jb (f_X3_isTaken fu r_tr r_fi r_la r_no v6 ((v4 - x1) + x3) ((v5 - x1) + x3)) (fun v7 => jck v7 0 (if v7 = 0 then j3_ (v1 + 1) else jbo 0 (some 0)))))))))))
def f_X4_isFreeAt_L3 (fu : Nat) (r_tr : Int → Int) (r_fi : Int → Int) (r_la : Int → Int) (r_no : Int) (x1 : Int) (x2 : Int) (x3 : Int) (k3_ : Option (Int)) : Nat → Int → Option (Int)
  | 0 => fun _ => none
  | n + 1 => f_X4_isFreeAt_L3_b fu r_tr r_fi r_la r_no x1 x2 x3 k3_ (f_X4_isFreeAt_L3 fu r_tr r_fi r_la r_no x1 x2 x3 k3_ n)
def f_X4_isFreeAt (fu : Nat) (r_tr : Int → Int) (r_fi : Int → Int) (r_la : Int → Int) (r_no : Int) (x1 : Int) (x2 : Int) (x3 : Int) : Option (Int) :=
  f_X4_isFreeAt_L3 fu r_tr r_fi r_la r_no x1 x2 x3 (f_X4_isFreeAt_X97 fu) fu 0
def f_X3_addPassage_X82 (fu : Nat)  (tr_m1 : Int → Int) (fi_m2 : Int → Int) (la_m3 : Int → Int) (sh_m4 : Int → Int) (ac_m5 : Int → Int) (no_m6 : Int) : Option ((Int → Int) × (Int → Int) × (Int → Int) × (Int → Int) × (Int → Int) × Int) :=
  some (tr_m1, fi_m2, la_m3, sh_m4, ac_m5, no_m6)
def f_X3_addPassage_L3_b (fu : Nat) (o_tr : Int → Int) (o_fi : Int → Int) (o_la : Int → Int) (o_sh : Int → Int) (o_ac : Int → Int) (o_no : Int) (x2 : Int) (x3 : Int) (x4 : Int) (k3_ : (Int → Int) → (Int → Int) → (Int → Int) → (Int → Int) → (Int → Int) → Int → Option ((Int → Int) × (Int → Int) × (Int → Int) × (Int → Int) × (Int → Int) × Int)) (j3_ : (Int → Int) → (Int → Int) → (Int → Int) → (Int → Int) → (Int → Int) → Int → Int → Option ((Int → Int) × (Int → Int) × (Int → Int) × (Int → Int) × (Int → Int) × Int)) (tr_m7 : Int → Int) (fi_m8 : Int → Int) (la_m9 : Int → Int) (sh_m10 : Int → Int) (ac_m11 : Int → Int) (no_m12 : Int) (v13 : Int) : Option ((Int → Int) × (Int → Int) × (Int → Int) × (Int → Int) × (Int → Int) × Int) :=
  jb (f_X3_size fu o_no) (fun v14 => jck v13 v14 (if v14 ≤ v13 then k3_ tr_m7 fi_m8 la_m9 sh_m10 ac_m11 no_m12 else jb (f_X3_liesWithin fu o_fi o_la o_no v13 x2 x3) (fun v15 => jck v15 0 (if v15 = 0 then j3_ tr_m7 fi_m8 la_m9 sh_m10 ac_m11 no_m12 (v13 + 1) else jb (f_X3_firstOf fu o_fi o_no v13) (fun v16 => jb (f_X3_lastOf fu o_la o_no v13) (fun v17 => jb (f_X3_trackOf fu o_tr o_no v13) (fun v18 => jb (f_X3_shiftOf fu o_sh o_no v13) (fun v19 => jb (f_X3_hasAccent fu o_ac o_no v13) (fun v20 => jb7 (f_X3_add fu tr_m7 fi_m8 la_m9 sh_m10 ac_m11 no_m12 v18 ((v16 - x2) + x4) ((v17 - x2) + x4) v19 v20) (fun v21 tr_m22 fi_m23 la_m24 sh_m25 ac_m26 no_m27 => j3_ tr_m22 fi_m23 la_m24 sh_m25 ac_m26 no_m27 (v13 + 1)))))))))))
def f_X3_addPassage_L3 (fu : Nat) (o_tr : Int → Int) (o_fi : Int → Int) (o_la : Int → Int) (o_sh : Int → Int) (o_ac : Int → Int) (o_no : Int) (x2 : Int) (x3 : Int) (x4 : Int) (k3_ : (Int → Int) → (Int → Int) → (Int → Int) → (Int → Int) → (Int → Int) → Int → Option ((Int → Int) × (Int → Int) × (Int → Int) × (Int → Int) × (Int → Int) × Int)) : Nat → (Int → Int) → (Int → Int) → (Int → Int) → (Int → Int) → (Int → Int) → Int → Int → Option ((Int → Int) × (Int → Int) × (Int → Int) × (Int → Int) × (Int → Int) × Int)
  | 0 => fun _ _ _ _ _ _ _ => none
  | n + 1 => f_X3_addPassage_L3_b fu o_tr o_fi o_la o_sh o_ac o_no x2 x3 x4 k3_ (f_X3_addPassage_L3 fu o_tr o_fi o_la o_sh o_ac o_no x2 x3 x4 k3_ n)
def f_X3_addPassage (fu : Nat) (tr : Int → Int) (fi : Int → Int) (la : Int → Int) (sh : Int → Int) (ac : Int → Int) (no : Int) (o_tr : Int → Int) (o_fi : Int → Int) (o_la : Int → Int) (o_sh : Int → Int) (o_ac : Int → Int) (o_no : Int) (x2 : Int) (x3 : Int) (x4 : Int) : Option ((Int → Int) × (Int → Int) × (Int → Int) × (Int → Int) × (Int → Int) × Int) :=
  f_X3_addPassage_L3 fu o_tr o_fi o_la o_sh o_ac o_no x2 x3 x4 (f_X3_addPassage_X82 fu) fu tr fi la sh ac no 0
def f_X4_copy (fu : Nat) (r_se : Int → Int) (r_tr : Int → Int) (r_fi : Int → Int) (r_la : Int → Int) (r_sh : Int → Int) (r_ac : Int → Int) (r_no : Int) (u_se : Int → Int) (u_tr : Int → Int) (u_fi : Int → Int) (u_la : Int → Int) (u_sh : Int → Int) (u_ac : Int → Int) (u_no : Int) (g_ol : Int) (g_si : Int) (k_se : Int → Int → Int) (k_tr : Int → Int → Int) (k_fi : Int → Int → Int) (k_la : Int → Int → Int) (k_sh : Int → Int → Int) (k_ac : Int → Int → Int) (k_no : Int → Int) (x1 : Int) (x2 : Int) (x3 : Int) : Option (Int × (Int → Int) × (Int → Int) × (Int → Int) × (Int → Int) × (Int → Int) × (Int → Int) × Int × (Int → Int) × (Int → Int) × (Int → Int) × (Int → Int) × (Int → Int) × (Int → Int) × Int × Int × Int × (Int → Int → Int) × (Int → Int → Int) × (Int → Int → Int) × (Int → Int → Int) × (Int → Int → Int) × (Int → Int → Int) × (Int → Int)) :=
  jb (f_X4_isPassage fu x1 x2) (fun v1 => jck v1 0 (if v1 = 0 then some ((-2), r_se, r_tr, r_fi, r_la, r_sh, r_ac, r_no, u_se, u_tr, u_fi, u_la, u_sh, u_ac, u_no, g_ol, g_si, k_se, k_tr, k_fi, k_la, k_sh, k_ac, k_no) else jb (f_X4_isStep fu x3) (fun v2 => jck v2 0 (if v2 ≠ 0 then jb (f_X3_within fu r_fi r_la r_no x1 x2) (fun v3 => jb (f_X3_size fu r_no) (fun v4 => jck (v4 + v3) 40 (if (v4 + v3) ≤ 40 then jb (f_X4_isFreeAt fu r_tr r_fi r_la r_no x1 x2 x3) (fun v5 => jck v5 0 (if v5 ≠ 0 then jb9 (f_X0_record fu g_ol g_si k_se k_tr k_fi k_la k_sh k_ac k_no r_se r_tr r_fi r_la r_sh r_ac r_no) (fun ol_m6 si_m7 k_se_m8 k_tr_m9 k_fi_m10 k_la_m11 k_sh_m12 k_ac_m13 k_no_m14 => jb7 (f_X3_become fu u_se u_tr u_fi u_la u_sh u_ac u_no r_se r_tr r_fi r_la r_sh r_ac r_no) (fun se_m15 tr_m16 fi_m17 la_m18 sh_m19 ac_m20 no_m21 => jb6 (f_X3_addPassage fu tr_m16 fi_m17 la_m18 sh_m19 ac_m20 no_m21 r_tr r_fi r_la r_sh r_ac r_no x1 x2 x3) (fun tr_m22 fi_m23 la_m24 sh_m25 ac_m26 no_m27 => jb7 (f_X3_become fu r_se r_tr r_fi r_la r_sh r_ac r_no se_m15 tr_m22 fi_m23 la_m24 sh_m25 ac_m26 no_m27) (fun se_m28 tr_m29 fi_m30 la_m31 sh_m32 ac_m33 no_m34 => some (v3, se_m28, tr_m29, fi_m30, la_m31, sh_m32, ac_m33, no_m34, se_m15, tr_m22, fi_m23, la_m24, sh_m25, ac_m26, no_m27, ol_m6, si_m7, k_se_m8, k_tr_m9, k_fi_m10, k_la_m11, k_sh_m12, k_ac_m13, k_no_m14))))) else some ((-5), r_se, r_tr, r_fi, r_la, r_sh, r_ac, r_no, u_se, u_tr, u_fi, u_la, u_sh, u_ac, u_no, g_ol, g_si, k_se, k_tr, k_fi, k_la, k_sh, k_ac, k_no))) else some ((-4), r_se, r_tr, r_fi, r_la, r_sh, r_ac, r_no, u_se, u_tr, u_fi, u_la, u_sh, u_ac, u_no, g_ol, g_si, k_se, k_tr, k_fi, k_la, k_sh, k_ac, k_no)))) else some ((-2), r_se, r_tr, r_fi, r_la, r_sh, r_ac, r_no, u_se, u_tr, u_fi, u_la, u_sh, u_ac, u_no, g_ol, g_si, k_se, k_tr, k_fi, k_la, k_sh, k_ac, k_no)))))
def f_X3_isHole (fu : Nat) (se : Int → Int) (fi : Int → Int) (la : Int → Int) (sh : Int → Int) (no : Int) (x1 : Int) (x2 : Int) : Option (Int) :=
  jb (f_X3_firstOf fu fi no x1) (fun v1 => jck x2 v1 (if x2 = v1 then jbo 1 (some 1) else jb (f_X3_lastOf fu la no x1) (fun v2 => jck x2 v2 (if x2 ≠ v2 then jix 4 0 (jix 4 1 (jb (f_X3_firstOf fu fi no x1) (fun v3 => jb (f_X3_shiftOf fu sh no x1) (fun v4 => jck ((se 0) + (se 1)) 0 (if ((se 0) + (se 1)) ≤ 0 then jbo 0 (some 0) else jre ((x2 - v3) + v4) ((se 0) + (se 1)) (jix 4 0 (jck (((x2 - v3) + v4) % ((se 0) + (se 1))) (se 0) (if (se 0) ≤ (((x2 - v3) + v4) % ((se 0) + (se 1))) then jbo 0 (some 0) else jbo 1 (some 1))))))))) else jbo 1 (some 1)))))
def f_X3_bridges_X35 (fu : Nat)  (v2 : Int) : Option (Int) :=
  some v2
def f_X3_bridges_L8_b (fu : Nat) (se : Int → Int) (fi : Int → Int) (la : Int → Int) (sh : Int → Int) (no : Int) (x1 : Int) (k8_ : Int → Option (Int)) (j8_ : Int → Int → Option (Int)) (v3 : Int) (v4 : Int) : Option (Int) :=
  jb (f_X3_lastOf fu la no x1) (fun v5 => jck v4 v5 (if v5 < v4 then k8_ v3 else jb (f_X3_isHole fu se fi la sh no x1 v4) (fun v6 => jck v6 0 (if v6 ≠ 0 then j8_ v3 (v4 + 1) else j8_ (v3 + 1) (v4 + 1)))))
def f_X3_bridges_L8 (fu : Nat) (se : Int → Int) (fi : Int → Int) (la : Int → Int) (sh : Int → Int) (no : Int) (x1 : Int) (k8_ : Int → Option (Int)) : Nat → Int → Int → Option (Int)
  | 0 => fun _ _ => none
  | n + 1 => f_X3_bridges_L8_b fu se fi la sh no x1 k8_ (f_X3_bridges_L8 fu se fi la sh no x1 k8_ n)
def f_X3_bridges (fu : Nat) (se : Int → Int) (fi : Int → Int) (la : Int → Int) (sh : Int → Int) (no : Int) (x1 : Int) : Option (Int) :=
  jb (f_X3_firstOf fu fi no x1) (fun v1 => f_X3_bridges_L8 fu se fi la sh no x1 (f_X3_bridges_X35 fu) fu 0 v1)
def f_X3_longestBridge_X51 (fu : Nat)  (v2 : Int) : Option (Int) :=
  some v2
def f_X3_longestBridge_J38 (fu : Nat) (v3 : Int) (v5 : Int) (j11_ : Int → Int → Int → Option (Int)) (v8 : Int) : Option (Int) :=
  jck v3 v8 (j11_ (jmax v3 v8) v8 (v5 + 1))
def f_X3_longestBridge_L11_b (fu : Nat) (se : Int → Int) (fi : Int → Int) (la : Int → Int) (sh : Int → Int) (no : Int) (x1 : Int) (k11_ : Int → Option (Int)) (j11_ : Int → Int → Int → Option (Int)) (v3 : Int) (v4 : Int) (v5 : Int) : Option (Int) :=
  jb (f_X3_lastOf fu la no x1) (fun v6 => jck v5 v6 (if v6 < v5 then k11_ v3 else jb (f_X3_isHole fu se fi la sh no x1 v5) (fun v7 => jck v7 0 (if v7 = 0 then f_X3_longestBridge_J38 fu v3 v5 j11_ (v4 + 1) else f_X3_longestBridge_J38 fu v3 v5 j11_ 0))))
def f_X3_longestBridge_L11 (fu : Nat) (se : Int → Int) (fi : Int → Int) (la : Int → Int) (sh : Int → Int) (no : Int) (x1 : Int) (k11_ : Int → Option (Int)) : Nat → Int → Int → Int → Option (Int)
  | 0 => fun _ _ _ => none
  | n + 1 => f_X3_longestBridge_L11_b fu se fi la sh no x1 k11_ (f_X3_longestBridge_L11 fu se fi la sh no x1 k11_ n)
def f_X3_longestBridge (fu : Nat) (se : Int → Int) (fi : Int → Int) (la : Int → Int) (sh : Int → Int) (no : Int) (x1 : Int) : Option (Int) :=
  jb (f_X3_firstOf fu fi no x1) (fun v1 => f_X3_longestBridge_L11 fu se fi la sh no x1 (f_X3_longestBridge_X51 fu) fu 0 0 v1)
def f_J7_fill_53178_X20 (fu : Nat)  (q0f_m1 : Int → Int) : Option ((Int → Int)) :=
  some q0f_m1
def f_J7_fill_53178_L5_b (fu : Nat) (n0 : Nat) (x1 : Int) (k5_ : (Int → Int) → Option ((Int → Int))) (j5_ : (Int → Int) → Int → Int → Option ((Int → Int))) (q0f_m2 : Int → Int) (v3 : Int) (v4 : Int) : Option ((Int → Int)) :=
  jck v3 v4 (if v4 ≤ v3 then k5_ q0f_m2 else jix (n0 : Int) v3 (j5_ (uI q0f_m2 v3 x1) (v3 + 1) v4))
def f_J7_fill_53178_L5 (fu : Nat) (n0 : Nat) (x1 : Int) (k5_ : (Int → Int) → Option ((Int → Int))) : Nat → (Int → Int) → Int → Int → Option ((Int → Int))
  | 0 => fun _ _ _ => none
  | n + 1 => f_J7_fill_53178_L5_b fu n0 x1 k5_ (f_J7_fill_53178_L5 fu n0 x1 k5_ n)
def f_J7_fill_53178 (fu : Nat) (n0 : Nat) (q0f : Int → Int) (x1 : Int) : Option ((Int → Int)) :=
  f_J7_fill_53178_L5 fu n0 x1 (f_J7_fill_53178_X20 fu) fu q0f 0 (n0 : Int)
def f_X2_holesAt (fu : Nat) (hf : Int → Int) (x1 : Int) : Option (Int) :=
  jb (f_X4_isStep fu x1) (fun v1 => jck v1 0 (if v1 = 0 then some 0 else jix 100 x1 (some (hf x1))))
def f_X2_listen_X53 (fu : Nat)  (eh_m1 : Int → Int) : Option ((Int → Int)) :=
  some eh_m1
def f_X2_listen_X40 (fu : Nat) (eh_m2 : Int → Int) (v3 : Int) (j2_ : (Int → Int) → Int → Option ((Int → Int))) (v4 : Int) : Option ((Int → Int)) :=
  jix 100 v3 (j2_ (uI eh_m2 v3 v4) (v3 + 1))
def f_X2_listen_L19_b (fu : Nat) (hf : Int → Int) (v3 : Int) (k19_ : Int → Option ((Int → Int))) (j19_ : Int → Int → Option ((Int → Int))) (v5 : Int) (v6 : Int) : Option ((Int → Int)) :=
  jck v6 v3 (if v3 < v6 then k19_ v5 else jb (f_X2_holesAt fu hf v6) (fun v7 => j19_ (jor v5 v7) (v6 + 1)))
def f_X2_listen_L19 (fu : Nat) (hf : Int → Int) (v3 : Int) (k19_ : Int → Option ((Int → Int))) : Nat → Int → Int → Option ((Int → Int))
  | 0 => fun _ _ => none
  | n + 1 => f_X2_listen_L19_b fu hf v3 k19_ (f_X2_listen_L19 fu hf v3 k19_ n)
def f_X2_listen_L2_b (fu : Nat) (hf : Int → Int) (x1 : Int) (k2_ : (Int → Int) → Option ((Int → Int))) (j2_ : (Int → Int) → Int → Option ((Int → Int))) (eh_m2 : Int → Int) (v3 : Int) : Option ((Int → Int)) :=
  jck v3 100 (if 100 ≤ v3 then k2_ eh_m2 else jck 0 (v3 - x1) (f_X2_listen_L19 fu hf v3 (f_X2_listen_X40 fu eh_m2 v3 j2_) fu 0 (jmax 0 (v3 - x1))))
def f_X2_listen_L2 (fu : Nat) (hf : Int → Int) (x1 : Int) (k2_ : (Int → Int) → Option ((Int → Int))) : Nat → (Int → Int) → Int → Option ((Int → Int))
  | 0 => fun _ _ => none
  | n + 1 => f_X2_listen_L2_b fu hf x1 k2_ (f_X2_listen_L2 fu hf x1 k2_ n)
def f_X2_listen (fu : Nat) (eh : Int → Int) (hf : Int → Int) (x1 : Int) : Option ((Int → Int)) :=
  f_X2_listen_L2 fu hf x1 (f_X2_listen_X53 fu) fu eh 0
def f_X2_punch (fu : Nat) (hf : Int → Int) (x1 : Int) (x2 : Int) : Option ((Int → Int)) :=
  jb (f_X4_isTrack fu x1) (fun v1 => jck v1 0 (if v1 = 0 then some hf else jb (f_X4_isStep fu x2) (fun v2 => jck v2 0 (if v2 = 0 then some hf else jix 100 x2 (jix 100 x2 (some (uI hf x2 (jor (hf x2) (jshl 1 x1)))))))))
def f_X2_perforate_X112 (fu : Nat) (o_se : Int → Int) (eh_m3 : Int → Int) (we_m4 : Int) (hf_m5 : Int → Int) : Option ((Int → Int) × Int × (Int → Int)) :=
  jb (f_X3_settingOf fu o_se 2) (fun v6 => jb (f_X2_listen fu eh_m3 hf_m5 v6) (fun eh_m7 => some (eh_m7, we_m4, hf_m5)))
def f_X2_perforate_J101 (fu : Nat) (v11 : Int) (v14 : Int) (eh_m15 : Int → Int) (we_m16 : Int) (hf_m17 : Int → Int) (j19_ : (Int → Int) → Int → (Int → Int) → Int → Option ((Int → Int) × Int × (Int → Int))) (v19 : Int) : Option ((Int → Int) × Int × (Int → Int)) :=
  jb (f_X2_punch fu hf_m17 v19 v14) (fun hf_m20 => j19_ eh_m15 we_m16 hf_m20 (v11 + 1))
def f_X2_perforate_X77 (fu : Nat) (o_ac : Int → Int) (o_no : Int) (v11 : Int) (v13 : Int) (v14 : Int) (j19_ : (Int → Int) → Int → (Int → Int) → Int → Option ((Int → Int) × Int × (Int → Int))) (eh_m15 : Int → Int) (we_m16 : Int) (hf_m17 : Int → Int) : Option ((Int → Int) × Int × (Int → Int)) :=
  jb (f_X3_hasAccent fu o_ac o_no v11) (fun v18 => jck v18 0 (if v18 = 0 then j19_ eh_m15 we_m16 hf_m17 (v11 + 1) else jck v13 11 (if v13 ≠ 11 then f_X2_perforate_J101 fu v11 v14 eh_m15 we_m16 hf_m17 j19_ (v13 + 1) else f_X2_perforate_J101 fu v11 v14 eh_m15 we_m16 hf_m17 j19_ (v13 - 1))))
def f_X2_perforate_L44_b (fu : Nat) (o_se : Int → Int) (o_fi : Int → Int) (o_la : Int → Int) (o_sh : Int → Int) (o_no : Int) (v11 : Int) (v13 : Int) (k44_ : (Int → Int) → Int → (Int → Int) → Option ((Int → Int) × Int × (Int → Int))) (j44_ : (Int → Int) → Int → (Int → Int) → Int → Option ((Int → Int) × Int × (Int → Int))) (eh_m21 : Int → Int) (we_m22 : Int) (hf_m23 : Int → Int) (v24 : Int) : Option ((Int → Int) × Int × (Int → Int)) :=
  jb (f_X3_lastOf fu o_la o_no v11) (fun v25 => jck v24 v25 (if v25 < v24 then k44_ eh_m21 we_m22 hf_m23 else jb (f_X3_isHole fu o_se o_fi o_la o_sh o_no v11 v24) (fun v26 => jck v26 0 (if v26 = 0 then j44_ eh_m21 we_m22 hf_m23 (v24 + 1) else jb (f_X2_punch fu hf_m23 v13 v24) (fun hf_m27 => j44_ eh_m21 we_m22 hf_m27 (v24 + 1))))))
def f_X2_perforate_L44 (fu : Nat) (o_se : Int → Int) (o_fi : Int → Int) (o_la : Int → Int) (o_sh : Int → Int) (o_no : Int) (v11 : Int) (v13 : Int) (k44_ : (Int → Int) → Int → (Int → Int) → Option ((Int → Int) × Int × (Int → Int))) : Nat → (Int → Int) → Int → (Int → Int) → Int → Option ((Int → Int) × Int × (Int → Int))
  | 0 => fun _ _ _ _ => none
  | n + 1 => f_X2_perforate_L44_b fu o_se o_fi o_la o_sh o_no v11 v13 k44_ (f_X2_perforate_L44 fu o_se o_fi o_la o_sh o_no v11 v13 k44_ n)
def f_X2_perforate_L19_b (fu : Nat) (o_se : Int → Int) (o_tr : Int → Int) (o_fi : Int → Int) (o_la : Int → Int) (o_sh : Int → Int) (o_ac : Int → Int) (o_no : Int) (k19_ : (Int → Int) → Int → (Int → Int) → Option ((Int → Int) × Int × (Int → Int))) (j19_ : (Int → Int) → Int → (Int → Int) → Int → Option ((Int → Int) × Int × (Int → Int))) (eh_m8 : Int → Int) (we_m9 : Int) (hf_m10 : Int → Int) (v11 : Int) : Option ((Int → Int) × Int × (Int → Int)) :=
  jb (f_X3_size fu o_no) (fun v12 => jck v11 v12 (if v12 ≤ v11 then k19_ eh_m8 we_m9 hf_m10 else jb (f_X3_trackOf fu o_tr o_no v11) (fun v13 => jb (f_X3_firstOf fu o_fi o_no v11) (fun v14 => f_X2_perforate_L44 fu o_se o_fi o_la o_sh o_no v11 v13 (f_X2_perforate_X77 fu o_ac o_no v11 v13 v14 j19_) fu eh_m8 we_m9 hf_m10 v14))))
def f_X2_perforate_L19 (fu : Nat) (o_se : Int → Int) (o_tr : Int → Int) (o_fi : Int → Int) (o_la : Int → Int) (o_sh : Int → Int) (o_ac : Int → Int) (o_no : Int) (k19_ : (Int → Int) → Int → (Int → Int) → Option ((Int → Int) × Int × (Int → Int))) : Nat → (Int → Int) → Int → (Int → Int) → Int → Option ((Int → Int) × Int × (Int → Int))
  | 0 => fun _ _ _ _ => none
  | n + 1 => f_X2_perforate_L19_b fu o_se o_tr o_fi o_la o_sh o_ac o_no k19_ (f_X2_perforate_L19 fu o_se o_tr o_fi o_la o_sh o_ac o_no k19_ n)
def f_X2_perforate (fu : Nat) (eh : Int → Int) (we : Int) (hf : Int → Int) (o_se : Int → Int) (o_tr : Int → Int) (o_fi : Int → Int) (o_la : Int → Int) (o_sh : Int → Int) (o_ac : Int → Int) (o_no : Int) : Option ((Int → Int) × Int × (Int → Int)) :=
  jb (f_X3_settingOf fu o_se 3) (fun v1 => jb (f_J7_fill_53178 fu 100 hf 0) (fun q0f_m2 => f_X2_perforate_L19 fu o_se o_tr o_fi o_la o_sh o_ac o_no (f_X2_perforate_X112 fu o_se) fu eh v1 q0f_m2 0))
def f_X2_heardAt (fu : Nat) (eh : Int → Int) (x1 : Int) : Option (Int) :=
  jb (f_X4_isStep fu x1) (fun v1 => jck v1 0 (if v1 = 0 then some 0 else jix 100 x1 (some (eh x1))))
def f_X2_isHeard (fu : Nat) (eh : Int → Int) (x1 : Int) (x2 : Int) : Option (Int) :=
  jb (f_X4_isTrack fu x1) (fun v1 => jck v1 0 (if v1 = 0 then jbo 0 (some 0) else jb (f_X2_heardAt fu eh x2) (fun v2 => jck (jand (jshr v2 x1) 1) 1 (if (jand (jshr v2 x1) 1) ≠ 1 then jbo 0 (some 0) else jbo 1 (some 1)))))
def f_X4_isHeardWhole_X48 (fu : Nat)   : Option (Int) :=
  jbo 1 (some 1)
def f_X4_isHeardWhole_L9_b (fu : Nat) (r_tr : Int → Int) (r_la : Int → Int) (r_no : Int) (p_eh : Int → Int) (x1 : Int) (k9_ : Option (Int)) (j9_ : Int → Option (Int)) (v2 : Int) : Option (Int) :=
  jb (f_X3_lastOf fu r_la r_no x1) (fun v3 => jck v2 v3 (if v3 < v2 then k9_ else jb (f_X3_trackOf fu r_tr r_no x1) (fun v4 => jb (f_X2_isHeard fu p_eh v4 v2) (fun v5 => jck v5 0 (if v5 ≠ 0 then j9_ (v2 + 1) else jbo 0 (some 0))))))
def f_X4_isHeardWhole_L9 (fu : Nat) (r_tr : Int → Int) (r_la : Int → Int) (r_no : Int) (p_eh : Int → Int) (x1 : Int) (k9_ : Option (Int)) : Nat → Int → Option (Int)
  | 0 => fun _ => none
  | n + 1 => f_X4_isHeardWhole_L9_b fu r_tr r_la r_no p_eh x1 k9_ (f_X4_isHeardWhole_L9 fu r_tr r_la r_no p_eh x1 k9_ n)
def f_X4_isHeardWhole (fu : Nat) (r_tr : Int → Int) (r_fi : Int → Int) (r_la : Int → Int) (r_no : Int) (p_eh : Int → Int) (x1 : Int) : Option (Int) :=
  jb (f_X3_firstOf fu r_fi r_no x1) (fun v1 => f_X4_isHeardWhole_L9 fu r_tr r_la r_no p_eh x1 (f_X4_isHeardWhole_X48 fu) fu v1)
def f_X4_of (fu : Nat) (r_se : Int → Int) (r_tr : Int → Int) (r_fi : Int → Int) (r_la : Int → Int) (r_sh : Int → Int) (r_ac : Int → Int) (r_no : Int) (p_eh : Int → Int) (p_we : Int) (p_hf : Int → Int) (x1 : Int) (x2 : Int) : Option (Int × (Int → Int) × Int × (Int → Int)) :=
  jb (f_X3_has fu r_no x1) (fun v1 => jck v1 0 (if v1 ≠ 0 then jck x2 0 (if x2 = 0 then jb (f_X3_trackOf fu r_tr r_no x1) (fun v2 => some (v2, p_eh, p_we, p_hf)) else if x2 = 1 then jb (f_X3_firstOf fu r_fi r_no x1) (fun v3 => some (v3, p_eh, p_we, p_hf)) else if x2 = 2 then jb (f_X3_lastOf fu r_la r_no x1) (fun v4 => some (v4, p_eh, p_we, p_hf)) else if x2 = 3 then jb (f_X3_shiftOf fu r_sh r_no x1) (fun v5 => some (v5, p_eh, p_we, p_hf)) else if x2 = 4 then jb (f_X3_hasAccent fu r_ac r_no x1) (fun v6 => jb (f_X4_asNumber fu v6) (fun v7 => some (v7, p_eh, p_we, p_hf))) else if x2 = 5 then jb (f_X3_bridges fu r_se r_fi r_la r_sh r_no x1) (fun v8 => some (v8, p_eh, p_we, p_hf)) else if x2 = 6 then jb (f_X3_longestBridge fu r_se r_fi r_la r_sh r_no x1) (fun v9 => some (v9, p_eh, p_we, p_hf)) else if x2 = 7 then jb3 (f_X2_perforate fu p_eh p_we p_hf r_se r_tr r_fi r_la r_sh r_ac r_no) (fun eh_m10 we_m11 hf_m12 => jb (f_X4_isHeardWhole fu r_tr r_fi r_la r_no eh_m10 x1) (fun v13 => jb (f_X4_asNumber fu v13) (fun v14 => some (v14, eh_m10, we_m11, hf_m12)))) else some ((-2), p_eh, p_we, p_hf)) else some ((-1), p_eh, p_we, p_hf)))
def f_X3_tracksAt_X46 (fu : Nat)  (v1 : Int) : Option (Int) :=
  some v1
def f_X3_tracksAt_L4_b (fu : Nat) (tr : Int → Int) (fi : Int → Int) (la : Int → Int) (no : Int) (x1 : Int) (k4_ : Int → Option (Int)) (j4_ : Int → Int → Option (Int)) (v2 : Int) (v3 : Int) : Option (Int) :=
  jck v3 no (if no ≤ v3 then k4_ v2 else jb (f_X3_firstOf fu fi no v3) (fun v4 => jck v4 x1 (if x1 < v4 then j4_ v2 (v3 + 1) else jb (f_X3_lastOf fu la no v3) (fun v5 => jck v5 x1 (if v5 < x1 then j4_ v2 (v3 + 1) else jb (f_X3_trackOf fu tr no v3) (fun v6 => j4_ (jor v2 (jshl 1 v6)) (v3 + 1)))))))
def f_X3_tracksAt_L4 (fu : Nat) (tr : Int → Int) (fi : Int → Int) (la : Int → Int) (no : Int) (x1 : Int) (k4_ : Int → Option (Int)) : Nat → Int → Int → Option (Int)
  | 0 => fun _ _ => none
  | n + 1 => f_X3_tracksAt_L4_b fu tr fi la no x1 k4_ (f_X3_tracksAt_L4 fu tr fi la no x1 k4_ n)
def f_X3_tracksAt (fu : Nat) (tr : Int → Int) (fi : Int → Int) (la : Int → Int) (no : Int) (x1 : Int) : Option (Int) :=
  f_X3_tracksAt_L4 fu tr fi la no x1 (f_X3_tracksAt_X46 fu) fu 0 0
def f_X2_sideBySide_X54 (fu : Nat)  (v2 : Int) : Option (Int) :=
  some v2
def f_X2_sideBySide_J39 (fu : Nat) (v3 : Int) (v5 : Int) (j14_ : Int → Int → Int → Option (Int)) (v6 : Int) : Option (Int) :=
  jck v3 v6 (j14_ (jmax v3 v6) v6 (v5 + 1))
def f_X2_sideBySide_L14_b (fu : Nat) (v1 : Int) (k14_ : Int → Option (Int)) (j14_ : Int → Int → Int → Option (Int)) (v3 : Int) (v4 : Int) (v5 : Int) : Option (Int) :=
  jck v5 12 (if 12 ≤ v5 then k14_ v3 else jck (jand (jshr v1 v5) 1) 1 (if (jand (jshr v1 v5) 1) ≠ 1 then f_X2_sideBySide_J39 fu v3 v5 j14_ 0 else f_X2_sideBySide_J39 fu v3 v5 j14_ (v4 + 1)))
def f_X2_sideBySide_L14 (fu : Nat) (v1 : Int) (k14_ : Int → Option (Int)) : Nat → Int → Int → Int → Option (Int)
  | 0 => fun _ _ _ => none
  | n + 1 => f_X2_sideBySide_L14_b fu v1 k14_ (f_X2_sideBySide_L14 fu v1 k14_ n)
def f_X2_sideBySide (fu : Nat) (hf : Int → Int) (x1 : Int) : Option (Int) :=
  jb (f_X2_holesAt fu hf x1) (fun v1 => f_X2_sideBySide_L14 fu v1 (f_X2_sideBySide_X54 fu) fu 0 0 0)
def f_X2_isWeak (fu : Nat) (we : Int) (hf : Int → Int) (x1 : Int) : Option (Int) :=
  jb (f_X2_sideBySide fu hf x1) (fun v1 => jck v1 we (if v1 < we then jbo 0 (some 0) else jbo 1 (some 1)))
def f_X4_at (fu : Nat) (r_se : Int → Int) (r_tr : Int → Int) (r_fi : Int → Int) (r_la : Int → Int) (r_sh : Int → Int) (r_ac : Int → Int) (r_no : Int) (p_eh : Int → Int) (p_we : Int) (p_hf : Int → Int) (x1 : Int) (x2 : Int) : Option (Int × (Int → Int) × Int × (Int → Int)) :=
  jb (f_X4_isStep fu x1) (fun v1 => jck v1 0 (if v1 ≠ 0 then jb3 (f_X2_perforate fu p_eh p_we p_hf r_se r_tr r_fi r_la r_sh r_ac r_no) (fun eh_m2 we_m3 hf_m4 => jck x2 0 (if x2 = 0 then jb (f_X2_holesAt fu hf_m4 x1) (fun v5 => some (v5, eh_m2, we_m3, hf_m4)) else if x2 = 1 then jb (f_X2_heardAt fu eh_m2 x1) (fun v6 => some (v6, eh_m2, we_m3, hf_m4)) else if x2 = 2 then jb (f_X3_tracksAt fu r_tr r_fi r_la r_no x1) (fun v7 => some (v7, eh_m2, we_m3, hf_m4)) else if x2 = 3 then jb (f_X2_sideBySide fu hf_m4 x1) (fun v8 => some (v8, eh_m2, we_m3, hf_m4)) else if x2 = 4 then jb (f_X2_isWeak fu we_m3 hf_m4 x1) (fun v9 => jb (f_X4_asNumber fu v9) (fun v10 => some (v10, eh_m2, we_m3, hf_m4))) else some ((-2), eh_m2, we_m3, hf_m4))) else some ((-2), p_eh, p_we, p_hf)))
def f_X2_startsSound (fu : Nat) (eh : Int → Int) (x1 : Int) (x2 : Int) : Option (Int) :=
  jb (f_X2_isHeard fu eh x1 x2) (fun v1 => jck v1 0 (if v1 = 0 then jbo 0 (some 0) else jb (f_X2_isHeard fu eh x1 (x2 - 1)) (fun v2 => jck v2 0 (if v2 ≠ 0 then jbo 0 (some 0) else jbo 1 (some 1)))))
def f_X2_soundStart_X39 (fu : Nat)   : Option (Int) :=
  some (-1)
def f_X2_soundStart_L5_b (fu : Nat) (eh : Int → Int) (x1 : Int) (x2 : Int) (k5_ : Option (Int)) (j5_ : Int → Int → Option (Int)) (v1 : Int) (v2 : Int) : Option (Int) :=
  jck v2 100 (if 100 ≤ v2 then k5_ else jb (f_X2_startsSound fu eh x1 v2) (fun v3 => jck v3 0 (if v3 = 0 then j5_ v1 (v2 + 1) else jck v1 x2 (if v1 ≠ x2 then j5_ (v1 + 1) (v2 + 1) else some v2))))
def f_X2_soundStart_L5 (fu : Nat) (eh : Int → Int) (x1 : Int) (x2 : Int) (k5_ : Option (Int)) : Nat → Int → Int → Option (Int)
  | 0 => fun _ _ => none
  | n + 1 => f_X2_soundStart_L5_b fu eh x1 x2 k5_ (f_X2_soundStart_L5 fu eh x1 x2 k5_ n)
def f_X2_soundStart (fu : Nat) (eh : Int → Int) (x1 : Int) (x2 : Int) : Option (Int) :=
  f_X2_soundStart_L5 fu eh x1 x2 (f_X2_soundStart_X39 fu) fu 0 0
def f_X2_soundEnd_X31 (fu : Nat)  (v1 : Int) : Option (Int) :=
  some v1
def f_X2_soundEnd_L5_b (fu : Nat) (eh : Int → Int) (x1 : Int) (k5_ : Int → Option (Int)) (j5_ : Int → Int → Option (Int)) (v2 : Int) (v3 : Int) : Option (Int) :=
  jck v3 100 (if 100 ≤ v3 then k5_ v2 else jb (f_X2_isHeard fu eh x1 v3) (fun v4 => jck v4 0 (if v4 = 0 then k5_ v2 else j5_ v3 (v3 + 1))))
def f_X2_soundEnd_L5 (fu : Nat) (eh : Int → Int) (x1 : Int) (k5_ : Int → Option (Int)) : Nat → Int → Int → Option (Int)
  | 0 => fun _ _ => none
  | n + 1 => f_X2_soundEnd_L5_b fu eh x1 k5_ (f_X2_soundEnd_L5 fu eh x1 k5_ n)
def f_X2_soundEnd (fu : Nat) (eh : Int → Int) (x1 : Int) (x2 : Int) : Option (Int) :=
  f_X2_soundEnd_L5 fu eh x1 (f_X2_soundEnd_X31 fu) fu x2 x2
def f_X4_sound (fu : Nat) (r_se : Int → Int) (r_tr : Int → Int) (r_fi : Int → Int) (r_la : Int → Int) (r_sh : Int → Int) (r_ac : Int → Int) (r_no : Int) (p_eh : Int → Int) (p_we : Int) (p_hf : Int → Int) (x1 : Int) (x2 : Int) (x3 : Int) : Option (Int × (Int → Int) × Int × (Int → Int)) :=
  jb (f_X4_isTrack fu x1) (fun v1 => jck v1 0 (if v1 ≠ 0 then jb3 (f_X2_perforate fu p_eh p_we p_hf r_se r_tr r_fi r_la r_sh r_ac r_no) (fun eh_m2 we_m3 hf_m4 => jb (f_X2_soundStart fu eh_m2 x1 x2) (fun v5 => jck v5 0 (if 0 ≤ v5 then jb (f_X2_soundEnd fu eh_m2 x1 v5) (fun v6 => jck x3 0 (if x3 = 0 then some (v5, eh_m2, we_m3, hf_m4) else if x3 = 1 then some (v6, eh_m2, we_m3, hf_m4) else if x3 = 2 then jb (f_X3_touching fu r_tr r_fi r_la r_no x1 v5 v6) (fun v7 => some (v7, eh_m2, we_m3, hf_m4)) else some ((-2), eh_m2, we_m3, hf_m4))) else some ((-1), eh_m2, we_m3, hf_m4)))) else some ((-1), p_eh, p_we, p_hf)))
def f_J6_bitCount_0f7a4 (fu : Nat) (x0 : Int) : Option (Int) :=
  some (jand (((jand (((jand (x0 - (jand (jushr x0 1) 1431655765)) 858993459) + (jand (jushr (x0 - (jand (jushr x0 1) 1431655765)) 2) 858993459)) + (jushr ((jand (x0 - (jand (jushr x0 1) 1431655765)) 858993459) + (jand (jushr (x0 - (jand (jushr x0 1) 1431655765)) 2) 858993459)) 4)) 252645135) + (jushr (jand (((jand (x0 - (jand (jushr x0 1) 1431655765)) 858993459) + (jand (jushr (x0 - (jand (jushr x0 1) 1431655765)) 2) 858993459)) + (jushr ((jand (x0 - (jand (jushr x0 1) 1431655765)) 858993459) + (jand (jushr (x0 - (jand (jushr x0 1) 1431655765)) 2) 858993459)) 4)) 252645135) 8)) + (jushr ((jand (((jand (x0 - (jand (jushr x0 1) 1431655765)) 858993459) + (jand (jushr (x0 - (jand (jushr x0 1) 1431655765)) 2) 858993459)) + (jushr ((jand (x0 - (jand (jushr x0 1) 1431655765)) 858993459) + (jand (jushr (x0 - (jand (jushr x0 1) 1431655765)) 2) 858993459)) 4)) 252645135) + (jushr (jand (((jand (x0 - (jand (jushr x0 1) 1431655765)) 858993459) + (jand (jushr (x0 - (jand (jushr x0 1) 1431655765)) 2) 858993459)) + (jushr ((jand (x0 - (jand (jushr x0 1) 1431655765)) 858993459) + (jand (jushr (x0 - (jand (jushr x0 1) 1431655765)) 2) 858993459)) 4)) 252645135) 8)) 16)) 63)
def f_X2_allHoles_X27 (fu : Nat)  (v1 : Int) : Option (Int) :=
  some v1
def f_X2_allHoles_L4_b (fu : Nat) (hf : Int → Int) (k4_ : Int → Option (Int)) (j4_ : Int → Int → Option (Int)) (v2 : Int) (v3 : Int) : Option (Int) :=
  jck v3 100 (if 100 ≤ v3 then k4_ v2 else jb (f_X2_holesAt fu hf v3) (fun v4 => jb (f_J6_bitCount_0f7a4 fu v4) (fun v5 => j4_ (v2 + v5) (v3 + 1))))
def f_X2_allHoles_L4 (fu : Nat) (hf : Int → Int) (k4_ : Int → Option (Int)) : Nat → Int → Int → Option (Int)
  | 0 => fun _ _ => none
  | n + 1 => f_X2_allHoles_L4_b fu hf k4_ (f_X2_allHoles_L4 fu hf k4_ n)
def f_X2_allHoles (fu : Nat) (hf : Int → Int) : Option (Int) :=
  f_X2_allHoles_L4 fu hf (f_X2_allHoles_X27 fu) fu 0 0
def f_X2_weakSteps_X27 (fu : Nat)  (v1 : Int) : Option (Int) :=
  some v1
def f_X2_weakSteps_L4_b (fu : Nat) (we : Int) (hf : Int → Int) (k4_ : Int → Option (Int)) (j4_ : Int → Int → Option (Int)) (v2 : Int) (v3 : Int) : Option (Int) :=
  jck v3 100 (if 100 ≤ v3 then k4_ v2 else jb (f_X2_isWeak fu we hf v3) (fun v4 => jck v4 0 (if v4 = 0 then j4_ v2 (v3 + 1) else j4_ (v2 + 1) (v3 + 1))))
def f_X2_weakSteps_L4 (fu : Nat) (we : Int) (hf : Int → Int) (k4_ : Int → Option (Int)) : Nat → Int → Int → Option (Int)
  | 0 => fun _ _ => none
  | n + 1 => f_X2_weakSteps_L4_b fu we hf k4_ (f_X2_weakSteps_L4 fu we hf k4_ n)
def f_X2_weakSteps (fu : Nat) (we : Int) (hf : Int → Int) : Option (Int) :=
  f_X2_weakSteps_L4 fu we hf (f_X2_weakSteps_X27 fu) fu 0 0
def f_X2_firstWeakStep_X24 (fu : Nat)   : Option (Int) :=
  some (-1)
def f_X2_firstWeakStep_L2_b (fu : Nat) (we : Int) (hf : Int → Int) (k2_ : Option (Int)) (j2_ : Int → Option (Int)) (v1 : Int) : Option (Int) :=
  jck v1 100 (if 100 ≤ v1 then k2_ else jb (f_X2_isWeak fu we hf v1) (fun v2 => jck v2 0 (if v2 = 0 then j2_ (v1 + 1) else some v1)))
def f_X2_firstWeakStep_L2 (fu : Nat) (we : Int) (hf : Int → Int) (k2_ : Option (Int)) : Nat → Int → Option (Int)
  | 0 => fun _ => none
  | n + 1 => f_X2_firstWeakStep_L2_b fu we hf k2_ (f_X2_firstWeakStep_L2 fu we hf k2_ n)
def f_X2_firstWeakStep (fu : Nat) (we : Int) (hf : Int → Int) : Option (Int) :=
  f_X2_firstWeakStep_L2 fu we hf (f_X2_firstWeakStep_X24 fu) fu 0
def f_X4_noneIfMissing (fu : Nat) (x0 : Int) : Option (Int) :=
  jck x0 0 (if 0 ≤ x0 then some x0 else some (-6))
def f_X2_sounds_X28 (fu : Nat)  (v1 : Int) : Option (Int) :=
  some v1
def f_X2_sounds_L4_b (fu : Nat) (eh : Int → Int) (x1 : Int) (k4_ : Int → Option (Int)) (j4_ : Int → Int → Option (Int)) (v2 : Int) (v3 : Int) : Option (Int) :=
  jck v3 100 (if 100 ≤ v3 then k4_ v2 else jb (f_X2_startsSound fu eh x1 v3) (fun v4 => jck v4 0 (if v4 = 0 then j4_ v2 (v3 + 1) else j4_ (v2 + 1) (v3 + 1))))
def f_X2_sounds_L4 (fu : Nat) (eh : Int → Int) (x1 : Int) (k4_ : Int → Option (Int)) : Nat → Int → Int → Option (Int)
  | 0 => fun _ _ => none
  | n + 1 => f_X2_sounds_L4_b fu eh x1 k4_ (f_X2_sounds_L4 fu eh x1 k4_ n)
def f_X2_sounds (fu : Nat) (eh : Int → Int) (x1 : Int) : Option (Int) :=
  f_X2_sounds_L4 fu eh x1 (f_X2_sounds_X28 fu) fu 0 0
def f_X4_allSounds_X27 (fu : Nat)  (v1 : Int) : Option (Int) :=
  some v1
def f_X4_allSounds_L4_b (fu : Nat) (p_eh : Int → Int) (k4_ : Int → Option (Int)) (j4_ : Int → Int → Option (Int)) (v2 : Int) (v3 : Int) : Option (Int) :=
  jck v3 12 (if 12 ≤ v3 then k4_ v2 else jb (f_X2_sounds fu p_eh v3) (fun v4 => j4_ (v2 + v4) (v3 + 1)))
def f_X4_allSounds_L4 (fu : Nat) (p_eh : Int → Int) (k4_ : Int → Option (Int)) : Nat → Int → Int → Option (Int)
  | 0 => fun _ _ => none
  | n + 1 => f_X4_allSounds_L4_b fu p_eh k4_ (f_X4_allSounds_L4 fu p_eh k4_ n)
def f_X4_allSounds (fu : Nat) (p_eh : Int → Int) : Option (Int) :=
  f_X4_allSounds_L4 fu p_eh (f_X4_allSounds_X27 fu) fu 0 0
def f_X4_notesWithGap_X32 (fu : Nat)  (v1 : Int) : Option (Int) :=
  some v1
def f_X4_notesWithGap_L4_b (fu : Nat) (r_tr : Int → Int) (r_fi : Int → Int) (r_la : Int → Int) (r_no : Int) (p_eh : Int → Int) (k4_ : Int → Option (Int)) (j4_ : Int → Int → Option (Int)) (v2 : Int) (v3 : Int) : Option (Int) :=
  jb (f_X3_size fu r_no) (fun v4 => jck v3 v4 (if v4 ≤ v3 then k4_ v2 else jb (f_X4_isHeardWhole fu r_tr r_fi r_la r_no p_eh v3) (fun v5 => jck v5 0 (if v5 ≠ 0 then j4_ v2 (v3 + 1) else j4_ (v2 + 1) (v3 + 1)))))
def f_X4_notesWithGap_L4 (fu : Nat) (r_tr : Int → Int) (r_fi : Int → Int) (r_la : Int → Int) (r_no : Int) (p_eh : Int → Int) (k4_ : Int → Option (Int)) : Nat → Int → Int → Option (Int)
  | 0 => fun _ _ => none
  | n + 1 => f_X4_notesWithGap_L4_b fu r_tr r_fi r_la r_no p_eh k4_ (f_X4_notesWithGap_L4 fu r_tr r_fi r_la r_no p_eh k4_ n)
def f_X4_notesWithGap (fu : Nat) (r_tr : Int → Int) (r_fi : Int → Int) (r_la : Int → Int) (r_no : Int) (p_eh : Int → Int) : Option (Int) :=
  f_X4_notesWithGap_L4 fu r_tr r_fi r_la r_no p_eh (f_X4_notesWithGap_X32 fu) fu 0 0
def f_X1_length (fu : Nat) (le : Int) : Option (Int) :=
  some le
def f_X0_size (fu : Nat) (si : Int) : Option (Int) :=
  some si
def f_X4_count (fu : Nat) (r_se : Int → Int) (r_tr : Int → Int) (r_fi : Int → Int) (r_la : Int → Int) (r_sh : Int → Int) (r_ac : Int → Int) (r_no : Int) (p_eh : Int → Int) (p_we : Int) (p_hf : Int → Int) (d_le : Int) (g_si : Int) (x1 : Int) : Option (Int × (Int → Int) × Int × (Int → Int)) :=
  jb3 (f_X2_perforate fu p_eh p_we p_hf r_se r_tr r_fi r_la r_sh r_ac r_no) (fun eh_m1 we_m2 hf_m3 => jck x1 0 (if x1 = 0 then jb (f_X3_size fu r_no) (fun v4 => some (v4, eh_m1, we_m2, hf_m3)) else if x1 = 1 then jb (f_X2_allHoles fu hf_m3) (fun v5 => some (v5, eh_m1, we_m2, hf_m3)) else if x1 = 2 then jb (f_X2_weakSteps fu we_m2 hf_m3) (fun v6 => some (v6, eh_m1, we_m2, hf_m3)) else if x1 = 3 then jb (f_X2_firstWeakStep fu we_m2 hf_m3) (fun v7 => jb (f_X4_noneIfMissing fu v7) (fun v8 => some (v8, eh_m1, we_m2, hf_m3))) else if x1 = 4 then jb (f_X4_allSounds fu eh_m1) (fun v9 => some (v9, eh_m1, we_m2, hf_m3)) else if x1 = 5 then jb (f_X4_notesWithGap fu r_tr r_fi r_la r_no eh_m1) (fun v10 => some (v10, eh_m1, we_m2, hf_m3)) else if x1 = 6 then jb (f_X3_greatestLast fu r_la r_no) (fun v11 => jb (f_X4_noneIfMissing fu v11) (fun v12 => some (v12, eh_m1, we_m2, hf_m3))) else if x1 = 7 then jb (f_X3_settingOf fu r_se 0) (fun v13 => some (v13, eh_m1, we_m2, hf_m3)) else if x1 = 8 then jb (f_X3_settingOf fu r_se 1) (fun v14 => some (v14, eh_m1, we_m2, hf_m3)) else if x1 = 9 then jb (f_X3_settingOf fu r_se 2) (fun v15 => some (v15, eh_m1, we_m2, hf_m3)) else if x1 = 10 then jb (f_X3_settingOf fu r_se 3) (fun v16 => some (v16, eh_m1, we_m2, hf_m3)) else if x1 = 11 then jb (f_X1_length fu d_le) (fun v17 => some (v17, eh_m1, we_m2, hf_m3)) else if x1 = 12 then jb (f_X0_size fu g_si) (fun v18 => some (v18, eh_m1, we_m2, hf_m3)) else some ((-2), eh_m1, we_m2, hf_m3)))
def f_X4_bestShift_X102 (fu : Nat) (x2 : Int) (u_se_m10 : Int → Int) (u_tr_m11 : Int → Int) (u_fi_m12 : Int → Int) (u_la_m13 : Int → Int) (u_sh_m14 : Int → Int) (u_ac_m15 : Int → Int) (u_no_m16 : Int) (p_eh_m17 : Int → Int) (p_we_m18 : Int) (p_hf_m19 : Int → Int) (v20 : Int) (v21 : Int) : Option (Int × (Int → Int) × (Int → Int) × (Int → Int) × (Int → Int) × (Int → Int) × (Int → Int) × Int × (Int → Int) × Int × (Int → Int)) :=
  jck x2 0 (if x2 ≠ 0 then some (v21, u_se_m10, u_tr_m11, u_fi_m12, u_la_m13, u_sh_m14, u_ac_m15, u_no_m16, p_eh_m17, p_we_m18, p_hf_m19) else some (v20, u_se_m10, u_tr_m11, u_fi_m12, u_la_m13, u_sh_m14, u_ac_m15, u_no_m16, p_eh_m17, p_we_m18, p_hf_m19))
def f_X4_bestShift_L45_b (fu : Nat) (x1 : Int) (k45_ : (Int → Int) → (Int → Int) → (Int → Int) → (Int → Int) → (Int → Int) → (Int → Int) → Int → (Int → Int) → Int → (Int → Int) → Int → Int → Option (Int × (Int → Int) × (Int → Int) × (Int → Int) × (Int → Int) × (Int → Int) × (Int → Int) × Int × (Int → Int) × Int × (Int → Int))) (j45_ : (Int → Int) → (Int → Int) → (Int → Int) → (Int → Int) → (Int → Int) → (Int → Int) → Int → (Int → Int) → Int → (Int → Int) → Int → Int → Int → Option (Int × (Int → Int) × (Int → Int) × (Int → Int) × (Int → Int) × (Int → Int) × (Int → Int) × Int × (Int → Int) × Int × (Int → Int))) (u_se_m22 : Int → Int) (u_tr_m23 : Int → Int) (u_fi_m24 : Int → Int) (u_la_m25 : Int → Int) (u_sh_m26 : Int → Int) (u_ac_m27 : Int → Int) (u_no_m28 : Int) (p_eh_m29 : Int → Int) (p_we_m30 : Int) (p_hf_m31 : Int → Int) (v32 : Int) (v33 : Int) (v34 : Int) : Option (Int × (Int → Int) × (Int → Int) × (Int → Int) × (Int → Int) × (Int → Int) × (Int → Int) × Int × (Int → Int) × Int × (Int → Int)) :=
  jck v34 12 (if 12 < v34 then k45_ u_se_m22 u_tr_m23 u_fi_m24 u_la_m25 u_sh_m26 u_ac_m27 u_no_m28 p_eh_m29 p_we_m30 p_hf_m31 v32 v33 else jb (f_X3_giveShift fu u_sh_m26 u_no_m28 x1 v34) (fun sh_m35 => jb3 (f_X2_perforate fu p_eh_m29 p_we_m30 p_hf_m31 u_se_m22 u_tr_m23 u_fi_m24 u_la_m25 sh_m35 u_ac_m27 u_no_m28) (fun eh_m36 we_m37 hf_m38 => jb (f_X2_weakSteps fu we_m37 hf_m38) (fun v39 => jck v39 v33 (if v33 ≤ v39 then j45_ u_se_m22 u_tr_m23 u_fi_m24 u_la_m25 sh_m35 u_ac_m27 u_no_m28 eh_m36 we_m37 hf_m38 v32 v33 (v34 + 1) else j45_ u_se_m22 u_tr_m23 u_fi_m24 u_la_m25 sh_m35 u_ac_m27 u_no_m28 eh_m36 we_m37 hf_m38 v34 v39 (v34 + 1))))))
def f_X4_bestShift_L45 (fu : Nat) (x1 : Int) (k45_ : (Int → Int) → (Int → Int) → (Int → Int) → (Int → Int) → (Int → Int) → (Int → Int) → Int → (Int → Int) → Int → (Int → Int) → Int → Int → Option (Int × (Int → Int) × (Int → Int) × (Int → Int) × (Int → Int) × (Int → Int) × (Int → Int) × Int × (Int → Int) × Int × (Int → Int))) : Nat → (Int → Int) → (Int → Int) → (Int → Int) → (Int → Int) → (Int → Int) → (Int → Int) → Int → (Int → Int) → Int → (Int → Int) → Int → Int → Int → Option (Int × (Int → Int) × (Int → Int) × (Int → Int) × (Int → Int) × (Int → Int) × (Int → Int) × Int × (Int → Int) × Int × (Int → Int))
  | 0 => fun _ _ _ _ _ _ _ _ _ _ _ _ _ => none
  | n + 1 => f_X4_bestShift_L45_b fu x1 k45_ (f_X4_bestShift_L45 fu x1 k45_ n)
def f_X4_bestShift (fu : Nat) (r_se : Int → Int) (r_tr : Int → Int) (r_fi : Int → Int) (r_la : Int → Int) (r_sh : Int → Int) (r_ac : Int → Int) (r_no : Int) (u_se : Int → Int) (u_tr : Int → Int) (u_fi : Int → Int) (u_la : Int → Int) (u_sh : Int → Int) (u_ac : Int → Int) (u_no : Int) (p_eh : Int → Int) (p_we : Int) (p_hf : Int → Int) (x1 : Int) (x2 : Int) : Option (Int × (Int → Int) × (Int → Int) × (Int → Int) × (Int → Int) × (Int → Int) × (Int → Int) × Int × (Int → Int) × Int × (Int → Int)) :=
  jb (f_X3_has fu r_no x1) (fun v1 => jck v1 0 (if v1 ≠ 0 then jb (f_X4_isIn fu x2 0 1) (fun v2 => jck v2 0 (if v2 ≠ 0 then jb7 (f_X3_become fu u_se u_tr u_fi u_la u_sh u_ac u_no r_se r_tr r_fi r_la r_sh r_ac r_no) (fun se_m3 tr_m4 fi_m5 la_m6 sh_m7 ac_m8 no_m9 => f_X4_bestShift_L45 fu x1 (f_X4_bestShift_X102 fu x2) fu se_m3 tr_m4 fi_m5 la_m6 sh_m7 ac_m8 no_m9 p_eh p_we p_hf 0 101 0) else some ((-2), u_se, u_tr, u_fi, u_la, u_sh, u_ac, u_no, p_eh, p_we, p_hf))) else some ((-1), u_se, u_tr, u_fi, u_la, u_sh, u_ac, u_no, p_eh, p_we, p_hf)))
def f_X4_greatestRun_X64 (fu : Nat)  (u_se_m8 : Int → Int) (u_tr_m9 : Int → Int) (u_fi_m10 : Int → Int) (u_la_m11 : Int → Int) (u_sh_m12 : Int → Int) (u_ac_m13 : Int → Int) (u_no_m14 : Int) (p_eh_m15 : Int → Int) (p_we_m16 : Int) (p_hf_m17 : Int → Int) : Option (Int × (Int → Int) × (Int → Int) × (Int → Int) × (Int → Int) × (Int → Int) × (Int → Int) × Int × (Int → Int) × Int × (Int → Int)) :=
  some ((-6), u_se_m8, u_tr_m9, u_fi_m10, u_la_m11, u_sh_m12, u_ac_m13, u_no_m14, p_eh_m15, p_we_m16, p_hf_m17)
def f_X4_greatestRun_L17_b (fu : Nat) (k17_ : (Int → Int) → (Int → Int) → (Int → Int) → (Int → Int) → (Int → Int) → (Int → Int) → Int → (Int → Int) → Int → (Int → Int) → Option (Int × (Int → Int) × (Int → Int) × (Int → Int) × (Int → Int) × (Int → Int) × (Int → Int) × Int × (Int → Int) × Int × (Int → Int))) (j17_ : (Int → Int) → (Int → Int) → (Int → Int) → (Int → Int) → (Int → Int) → (Int → Int) → Int → (Int → Int) → Int → (Int → Int) → Int → Option (Int × (Int → Int) × (Int → Int) × (Int → Int) × (Int → Int) × (Int → Int) × (Int → Int) × Int × (Int → Int) × Int × (Int → Int))) (u_se_m18 : Int → Int) (u_tr_m19 : Int → Int) (u_fi_m20 : Int → Int) (u_la_m21 : Int → Int) (u_sh_m22 : Int → Int) (u_ac_m23 : Int → Int) (u_no_m24 : Int) (p_eh_m25 : Int → Int) (p_we_m26 : Int) (p_hf_m27 : Int → Int) (v28 : Int) : Option (Int × (Int → Int) × (Int → Int) × (Int → Int) × (Int → Int) × (Int → Int) × (Int → Int) × Int × (Int → Int) × Int × (Int → Int)) :=
  jix 4 0 (jck v28 (jL (Int.toNat 0)) (if v28 < (jL (Int.toNat 0)) then k17_ u_se_m18 u_tr_m19 u_fi_m20 u_la_m21 u_sh_m22 u_ac_m23 u_no_m24 p_eh_m25 p_we_m26 p_hf_m27 else jb (f_X3_giveSetting fu u_se_m18 0 v28) (fun se_m29 => jb3 (f_X2_perforate fu p_eh_m25 p_we_m26 p_hf_m27 se_m29 u_tr_m19 u_fi_m20 u_la_m21 u_sh_m22 u_ac_m23 u_no_m24) (fun eh_m30 we_m31 hf_m32 => jb (f_X2_weakSteps fu we_m31 hf_m32) (fun v33 => jck v33 0 (if v33 ≠ 0 then j17_ se_m29 u_tr_m19 u_fi_m20 u_la_m21 u_sh_m22 u_ac_m23 u_no_m24 eh_m30 we_m31 hf_m32 (v28 + (-1)) else some (v28, se_m29, u_tr_m19, u_fi_m20, u_la_m21, u_sh_m22, u_ac_m23, u_no_m24, eh_m30, we_m31, hf_m32)))))))
def f_X4_greatestRun_L17 (fu : Nat) (k17_ : (Int → Int) → (Int → Int) → (Int → Int) → (Int → Int) → (Int → Int) → (Int → Int) → Int → (Int → Int) → Int → (Int → Int) → Option (Int × (Int → Int) × (Int → Int) × (Int → Int) × (Int → Int) × (Int → Int) × (Int → Int) × Int × (Int → Int) × Int × (Int → Int))) : Nat → (Int → Int) → (Int → Int) → (Int → Int) → (Int → Int) → (Int → Int) → (Int → Int) → Int → (Int → Int) → Int → (Int → Int) → Int → Option (Int × (Int → Int) × (Int → Int) × (Int → Int) × (Int → Int) × (Int → Int) × (Int → Int) × Int × (Int → Int) × Int × (Int → Int))
  | 0 => fun _ _ _ _ _ _ _ _ _ _ _ => none
  | n + 1 => f_X4_greatestRun_L17_b fu k17_ (f_X4_greatestRun_L17 fu k17_ n)
def f_X4_greatestRun (fu : Nat) (r_se : Int → Int) (r_tr : Int → Int) (r_fi : Int → Int) (r_la : Int → Int) (r_sh : Int → Int) (r_ac : Int → Int) (r_no : Int) (u_se : Int → Int) (u_tr : Int → Int) (u_fi : Int → Int) (u_la : Int → Int) (u_sh : Int → Int) (u_ac : Int → Int) (u_no : Int) (p_eh : Int → Int) (p_we : Int) (p_hf : Int → Int) : Option (Int × (Int → Int) × (Int → Int) × (Int → Int) × (Int → Int) × (Int → Int) × (Int → Int) × Int × (Int → Int) × Int × (Int → Int)) :=
  jb7 (f_X3_become fu u_se u_tr u_fi u_la u_sh u_ac u_no r_se r_tr r_fi r_la r_sh r_ac r_no) (fun se_m1 tr_m2 fi_m3 la_m4 sh_m5 ac_m6 no_m7 => jix 4 0 (f_X4_greatestRun_L17 fu (f_X4_greatestRun_X64 fu) fu se_m1 tr_m2 fi_m3 la_m4 sh_m5 ac_m6 no_m7 p_eh p_we p_hf (jG (Int.toNat 0))))
def f_X4_swallowed_X77 (fu : Nat) (eh_m2 : Int → Int) (we_m3 : Int) (hf_m4 : Int → Int) (v5 : Int) : Option (Int × (Int → Int) × Int × (Int → Int)) :=
  some (v5, eh_m2, we_m3, hf_m4)
def f_X4_swallowed_L24_b (fu : Nat) (r_tr : Int → Int) (r_fi : Int → Int) (r_no : Int) (x1 : Int) (eh_m2 : Int → Int) (k24_ : Int → Option (Int × (Int → Int) × Int × (Int → Int))) (j24_ : Int → Int → Option (Int × (Int → Int) × Int × (Int → Int))) (v6 : Int) (v7 : Int) : Option (Int × (Int → Int) × Int × (Int → Int)) :=
  jb (f_X3_size fu r_no) (fun v8 => jck v7 v8 (if v8 ≤ v7 then k24_ v6 else jb (f_X3_trackOf fu r_tr r_no v7) (fun v9 => jck v9 x1 (if v9 ≠ x1 then j24_ v6 (v7 + 1) else jb (f_X3_firstOf fu r_fi r_no v7) (fun v10 => jb (f_X2_isHeard fu eh_m2 x1 (v10 - 1)) (fun v11 => jck v11 0 (if v11 = 0 then j24_ v6 (v7 + 1) else j24_ (v6 + 1) (v7 + 1))))))))
def f_X4_swallowed_L24 (fu : Nat) (r_tr : Int → Int) (r_fi : Int → Int) (r_no : Int) (x1 : Int) (eh_m2 : Int → Int) (k24_ : Int → Option (Int × (Int → Int) × Int × (Int → Int))) : Nat → Int → Int → Option (Int × (Int → Int) × Int × (Int → Int))
  | 0 => fun _ _ => none
  | n + 1 => f_X4_swallowed_L24_b fu r_tr r_fi r_no x1 eh_m2 k24_ (f_X4_swallowed_L24 fu r_tr r_fi r_no x1 eh_m2 k24_ n)
def f_X4_swallowed (fu : Nat) (r_se : Int → Int) (r_tr : Int → Int) (r_fi : Int → Int) (r_la : Int → Int) (r_sh : Int → Int) (r_ac : Int → Int) (r_no : Int) (p_eh : Int → Int) (p_we : Int) (p_hf : Int → Int) (x1 : Int) : Option (Int × (Int → Int) × Int × (Int → Int)) :=
  jb (f_X4_isTrack fu x1) (fun v1 => jck v1 0 (if v1 ≠ 0 then jb3 (f_X2_perforate fu p_eh p_we p_hf r_se r_tr r_fi r_la r_sh r_ac r_no) (fun eh_m2 we_m3 hf_m4 => f_X4_swallowed_L24 fu r_tr r_fi r_no x1 eh_m2 (f_X4_swallowed_X77 fu eh_m2 we_m3 hf_m4) fu 0 0) else some ((-1), p_eh, p_we, p_hf)))
def f_L_low (fu : Nat) (x0 : Int) (x1 : Int) : Option (Int) :=
  jre (jand x0 2147483647) x1 (some ((jand x0 2147483647) % x1))
def f_L_hole_X60 (fu : Nat) (lqf : Int → Int) (x1 : Int) (v1 : Int) (v2 : Int) (v3 : Int) : Option (Int) :=
  jck x1 v1 (if x1 = v1 then jbo 1 (some 1) else jck x1 v2 (if x1 = v2 then jbo 1 (some 1) else jix 5 0 (jck v3 (lqf 0) (if (lqf 0) ≤ v3 then jbo 0 (some 0) else jbo 1 (some 1)))))
def f_L_hole_L33_b (fu : Nat) (lqf : Int → Int) (k33_ : Int → Int → Int → Option (Int)) (j33_ : Int → Int → Int → Option (Int)) (v4 : Int) (v5 : Int) (v6 : Int) : Option (Int) :=
  jix 5 0 (jix 5 1 (jck v6 ((lqf 0) + (lqf 1)) (if v6 < ((lqf 0) + (lqf 1)) then k33_ v4 v5 v6 else jix 5 0 (jix 5 1 (j33_ v4 v5 (v6 - ((lqf 0) + (lqf 1))))))))
def f_L_hole_L33 (fu : Nat) (lqf : Int → Int) (k33_ : Int → Int → Int → Option (Int)) : Nat → Int → Int → Int → Option (Int)
  | 0 => fun _ _ _ => none
  | n + 1 => f_L_hole_L33_b fu lqf k33_ (f_L_hole_L33 fu lqf k33_ n)
def f_L_hole (fu : Nat) (lqf : Int → Int) (lnf : Int → Int) (x0 : Int) (x1 : Int) : Option (Int) :=
  jix 64 (5 * x0) (jre (lnf (5 * x0)) 100 (jix 64 ((5 * x0) + 1) (jix 64 ((5 * x0) + 2) (f_L_hole_L33 fu lqf (f_L_hole_X60 fu lqf x1) fu ((lnf (5 * x0)) / 100) (lnf ((5 * x0) + 1)) ((x1 - ((lnf (5 * x0)) / 100)) + (lnf ((5 * x0) + 2)))))))
def f_L_holes_X135 (fu : Nat)  (lhf_m2 : Int → Int) : Option ((Int → Int)) :=
  some lhf_m2
def f_L_holes_J126 (fu : Nat) (lnf : Int → Int) (v4 : Int) (lhf_m5 : Int → Int) (j20_ : (Int → Int) → Int → Option ((Int → Int))) (v7 : Int) : Option ((Int → Int)) :=
  jix 64 ((lnf (5 * v4)) / 100) (j20_ (uI lhf_m5 ((lnf (5 * v4)) / 100) (jor (lhf_m5 ((lnf (5 * v4)) / 100)) (jshl 1 v7))) (v4 + 1))
def f_L_holes_X87 (fu : Nat) (lnf : Int → Int) (v4 : Int) (j20_ : (Int → Int) → Int → Option ((Int → Int))) (lhf_m5 : Int → Int) (v6 : Int) : Option ((Int → Int)) :=
  jix 64 ((5 * v4) + 3) (jck (lnf ((5 * v4) + 3)) 1 (if (lnf ((5 * v4) + 3)) ≠ 1 then j20_ lhf_m5 (v4 + 1) else jix 64 (5 * v4) (jre (lnf (5 * v4)) 100 (jix 64 ((lnf (5 * v4)) / 100) (jck v6 11 (if v6 ≠ 11 then f_L_holes_J126 fu lnf v4 lhf_m5 j20_ (v6 + 1) else f_L_holes_J126 fu lnf v4 lhf_m5 j20_ 10))))))
def f_L_holes_L47_b (fu : Nat) (lqf : Int → Int) (lnf : Int → Int) (v4 : Int) (k47_ : (Int → Int) → Int → Option ((Int → Int))) (j47_ : (Int → Int) → Int → Int → Option ((Int → Int))) (lhf_m8 : Int → Int) (v9 : Int) (v10 : Int) : Option ((Int → Int)) :=
  jix 64 ((5 * v4) + 1) (jck v10 (lnf ((5 * v4) + 1)) (if (lnf ((5 * v4) + 1)) < v10 then k47_ lhf_m8 v9 else jb (f_L_hole fu lqf lnf v4 v10) (fun v11 => jck v11 0 (if v11 = 0 then j47_ lhf_m8 v9 (v10 + 1) else jix 64 v10 (jix 64 v10 (j47_ (uI lhf_m8 v10 (jor (lhf_m8 v10) (jshl 1 v9))) v9 (v10 + 1)))))))
def f_L_holes_L47 (fu : Nat) (lqf : Int → Int) (lnf : Int → Int) (v4 : Int) (k47_ : (Int → Int) → Int → Option ((Int → Int))) : Nat → (Int → Int) → Int → Int → Option ((Int → Int))
  | 0 => fun _ _ _ => none
  | n + 1 => f_L_holes_L47_b fu lqf lnf v4 k47_ (f_L_holes_L47 fu lqf lnf v4 k47_ n)
def f_L_holes_L20_b (fu : Nat) (lqf : Int → Int) (lnf : Int → Int) (k20_ : (Int → Int) → Option ((Int → Int))) (j20_ : (Int → Int) → Int → Option ((Int → Int))) (lhf_m3 : Int → Int) (v4 : Int) : Option ((Int → Int)) :=
  jix 5 4 (jck v4 (lqf 4) (if (lqf 4) ≤ v4 then k20_ lhf_m3 else jix 64 (5 * v4) (jre (lnf (5 * v4)) 100 (jix 64 (5 * v4) (jre (lnf (5 * v4)) 100 (f_L_holes_L47 fu lqf lnf v4 (f_L_holes_X87 fu lnf v4 j20_) fu lhf_m3 ((lnf (5 * v4)) % 100) ((lnf (5 * v4)) / 100)))))))
def f_L_holes_L20 (fu : Nat) (lqf : Int → Int) (lnf : Int → Int) (k20_ : (Int → Int) → Option ((Int → Int))) : Nat → (Int → Int) → Int → Option ((Int → Int))
  | 0 => fun _ _ => none
  | n + 1 => f_L_holes_L20_b fu lqf lnf k20_ (f_L_holes_L20 fu lqf lnf k20_ n)
def f_L_holes_X18 (fu : Nat) (lqf : Int → Int) (lnf : Int → Int) (lhf_m1 : Int → Int) : Option ((Int → Int)) :=
  f_L_holes_L20 fu lqf lnf (f_L_holes_X135 fu) fu lhf_m1 0
def f_L_holes_L2_b (fu : Nat) (k2_ : (Int → Int) → Option ((Int → Int))) (j2_ : (Int → Int) → Int → Option ((Int → Int))) (lhf_m12 : Int → Int) (v13 : Int) : Option ((Int → Int)) :=
  jck v13 64 (if 64 ≤ v13 then k2_ lhf_m12 else jix 64 v13 (j2_ (uI lhf_m12 v13 0) (v13 + 1)))
def f_L_holes_L2 (fu : Nat) (k2_ : (Int → Int) → Option ((Int → Int))) : Nat → (Int → Int) → Int → Option ((Int → Int))
  | 0 => fun _ _ => none
  | n + 1 => f_L_holes_L2_b fu k2_ (f_L_holes_L2 fu k2_ n)
def f_L_holes (fu : Nat) (lqf : Int → Int) (lnf : Int → Int) (lhf : Int → Int) : Option ((Int → Int)) :=
  f_L_holes_L2 fu (f_L_holes_X18 fu lqf lnf) fu lhf 0
def f_L_side_X20 (fu : Nat)  (v1 : Int) : Option (Int) :=
  some v1
def f_L_side_L4_b (fu : Nat) (k4_ : Int → Option (Int)) (j4_ : Int → Int → Option (Int)) (v2 : Int) (v3 : Int) : Option (Int) :=
  jck v3 0 (if v3 = 0 then k4_ v2 else j4_ (v2 + 1) (jand v3 (jshr v3 1)))
def f_L_side_L4 (fu : Nat) (k4_ : Int → Option (Int)) : Nat → Int → Int → Option (Int)
  | 0 => fun _ _ => none
  | n + 1 => f_L_side_L4_b fu k4_ (f_L_side_L4 fu k4_ n)
def f_L_side (fu : Nat) (x0 : Int) : Option (Int) :=
  f_L_side_L4 fu (f_L_side_X20 fu) fu 0 x0
def f_L_heard_X33 (fu : Nat)  (v1 : Int) : Option (Int) :=
  some v1
def f_L_heard_L5_b (fu : Nat) (lqf : Int → Int) (lnf : Int → Int) (x0 : Int) (k5_ : Int → Option (Int)) (j5_ : Int → Int → Option (Int)) (v2 : Int) (v3 : Int) : Option (Int) :=
  jck v3 0 (if v3 < 0 then k5_ v2 else jix 5 2 (jck v3 (x0 - (lqf 2)) (if v3 < (x0 - (lqf 2)) then k5_ v2 else jix 64 v3 (j5_ (jor v2 (lnf v3)) (v3 + (-1))))))
def f_L_heard_L5 (fu : Nat) (lqf : Int → Int) (lnf : Int → Int) (x0 : Int) (k5_ : Int → Option (Int)) : Nat → Int → Int → Option (Int)
  | 0 => fun _ _ => none
  | n + 1 => f_L_heard_L5_b fu lqf lnf x0 k5_ (f_L_heard_L5 fu lqf lnf x0 k5_ n)
def f_L_heard (fu : Nat) (lqf : Int → Int) (lnf : Int → Int) (x0 : Int) : Option (Int) :=
  f_L_heard_L5 fu lqf lnf x0 (f_L_heard_X33 fu) fu 0 x0
def f_L_weak_X45 (fu : Nat) (lhf_m1 : Int → Int) (v2 : Int) : Option (Int × (Int → Int)) :=
  some (v2, lhf_m1)
def f_L_weak_L11_b (fu : Nat) (lqf : Int → Int) (lhf_m1 : Int → Int) (k11_ : Int → Option (Int × (Int → Int))) (j11_ : Int → Int → Option (Int × (Int → Int))) (v3 : Int) (v4 : Int) : Option (Int × (Int → Int)) :=
  jck v4 64 (if 64 ≤ v4 then k11_ v3 else jix 64 v4 (jb (f_L_side fu (lhf_m1 v4)) (fun v5 => jix 5 3 (jck v5 (lqf 3) (if v5 < (lqf 3) then j11_ (v3 + 0) (v4 + 1) else j11_ (v3 + 1) (v4 + 1))))))
def f_L_weak_L11 (fu : Nat) (lqf : Int → Int) (lhf_m1 : Int → Int) (k11_ : Int → Option (Int × (Int → Int))) : Nat → Int → Int → Option (Int × (Int → Int))
  | 0 => fun _ _ => none
  | n + 1 => f_L_weak_L11_b fu lqf lhf_m1 k11_ (f_L_weak_L11 fu lqf lhf_m1 k11_ n)
def f_L_weak (fu : Nat) (lqf : Int → Int) (lnf : Int → Int) (lhf : Int → Int) : Option (Int × (Int → Int)) :=
  jb (f_L_holes fu lqf lnf lhf) (fun lhf_m1 => f_L_weak_L11 fu lqf lhf_m1 (f_L_weak_X45 fu lhf_m1) fu 0 0)
def f_L_taken_X60 (fu : Nat)   : Option (Int) :=
  jbo 0 (some 0)
def f_L_taken_L3_b (fu : Nat) (lqf : Int → Int) (lnf : Int → Int) (x0 : Int) (x1 : Int) (x2 : Int) (k3_ : Option (Int)) (j3_ : Int → Option (Int)) (v1 : Int) : Option (Int) :=
  jix 5 4 (jck v1 (lqf 4) (if (lqf 4) ≤ v1 then k3_ else jix 64 (5 * v1) (jre (lnf (5 * v1)) 100 (jck ((lnf (5 * v1)) % 100) x0 (if ((lnf (5 * v1)) % 100) ≠ x0 then j3_ (v1 + 1) else jix 64 (5 * v1) (jre (lnf (5 * v1)) 100 (jck ((lnf (5 * v1)) / 100) x2 (if x2 < ((lnf (5 * v1)) / 100) then j3_ (v1 + 1) else jix 64 ((5 * v1) + 1) (jck (lnf ((5 * v1) + 1)) x1 (if (lnf ((5 * v1) + 1)) < x1 then j3_ (v1 + 1) else jbo 1 (some 1)))))))))))
def f_L_taken_L3 (fu : Nat) (lqf : Int → Int) (lnf : Int → Int) (x0 : Int) (x1 : Int) (x2 : Int) (k3_ : Option (Int)) : Nat → Int → Option (Int)
  | 0 => fun _ => none
  | n + 1 => f_L_taken_L3_b fu lqf lnf x0 x1 x2 k3_ (f_L_taken_L3 fu lqf lnf x0 x1 x2 k3_ n)
def f_L_taken (fu : Nat) (lqf : Int → Int) (lnf : Int → Int) (x0 : Int) (x1 : Int) (x2 : Int) : Option (Int) :=
  f_L_taken_L3 fu lqf lnf x0 x1 x2 (f_L_taken_X60 fu) fu 0
def f_L_sort_X105 (fu : Nat)  (lnf_m1 : Int → Int) : Option ((Int → Int)) :=
  some lnf_m1
def f_L_sort_X99 (fu : Nat) (v3 : Int) (j2_ : (Int → Int) → Int → Option ((Int → Int))) (lnf_m4 : Int → Int) : Option ((Int → Int)) :=
  j2_ lnf_m4 (v3 + 1)
def f_L_sort_X93 (fu : Nat) (v6 : Int) (j11_ : (Int → Int) → Int → Option ((Int → Int))) (lnf_m7 : Int → Int) : Option ((Int → Int)) :=
  j11_ lnf_m7 (v6 + 1)
def f_L_sort_L41_b (fu : Nat) (v6 : Int) (k41_ : (Int → Int) → Option ((Int → Int))) (j41_ : (Int → Int) → Int → Option ((Int → Int))) (lnf_m8 : Int → Int) (v9 : Int) : Option ((Int → Int)) :=
  jck v9 4 (if 4 ≤ v9 then k41_ lnf_m8 else jix 64 ((5 * v6) + v9) (jix 64 (((5 * v6) + 5) + v9) (jix 64 ((5 * v6) + v9) (jix 64 (((5 * v6) + 5) + v9) (j41_ (uI (uI lnf_m8 ((5 * v6) + v9) (lnf_m8 (((5 * v6) + 5) + v9))) (((5 * v6) + 5) + v9) (lnf_m8 ((5 * v6) + v9))) (v9 + 1))))))
def f_L_sort_L41 (fu : Nat) (v6 : Int) (k41_ : (Int → Int) → Option ((Int → Int))) : Nat → (Int → Int) → Int → Option ((Int → Int))
  | 0 => fun _ _ => none
  | n + 1 => f_L_sort_L41_b fu v6 k41_ (f_L_sort_L41 fu v6 k41_ n)
def f_L_sort_L11_b (fu : Nat) (lqf : Int → Int) (k11_ : (Int → Int) → Option ((Int → Int))) (j11_ : (Int → Int) → Int → Option ((Int → Int))) (lnf_m5 : Int → Int) (v6 : Int) : Option ((Int → Int)) :=
  jix 5 4 (jck (v6 + 1) (lqf 4) (if (lqf 4) ≤ (v6 + 1) then k11_ lnf_m5 else jix 64 (5 * v6) (jix 64 ((5 * v6) + 5) (jck (lnf_m5 (5 * v6)) (lnf_m5 ((5 * v6) + 5)) (if (lnf_m5 ((5 * v6) + 5)) < (lnf_m5 (5 * v6)) then f_L_sort_L41 fu v6 (f_L_sort_X93 fu v6 j11_) fu lnf_m5 0 else j11_ lnf_m5 (v6 + 1))))))
def f_L_sort_L11 (fu : Nat) (lqf : Int → Int) (k11_ : (Int → Int) → Option ((Int → Int))) : Nat → (Int → Int) → Int → Option ((Int → Int))
  | 0 => fun _ _ => none
  | n + 1 => f_L_sort_L11_b fu lqf k11_ (f_L_sort_L11 fu lqf k11_ n)
def f_L_sort_L2_b (fu : Nat) (lqf : Int → Int) (k2_ : (Int → Int) → Option ((Int → Int))) (j2_ : (Int → Int) → Int → Option ((Int → Int))) (lnf_m2 : Int → Int) (v3 : Int) : Option ((Int → Int)) :=
  jix 5 4 (jck v3 (lqf 4) (if (lqf 4) ≤ v3 then k2_ lnf_m2 else f_L_sort_L11 fu lqf (f_L_sort_X99 fu v3 j2_) fu lnf_m2 0))
def f_L_sort_L2 (fu : Nat) (lqf : Int → Int) (k2_ : (Int → Int) → Option ((Int → Int))) : Nat → (Int → Int) → Int → Option ((Int → Int))
  | 0 => fun _ _ => none
  | n + 1 => f_L_sort_L2_b fu lqf k2_ (f_L_sort_L2 fu lqf k2_ n)
def f_L_sort (fu : Nat) (lqf : Int → Int) (lnf : Int → Int) : Option ((Int → Int)) :=
  f_L_sort_L2 fu lqf (f_L_sort_X105 fu) fu lnf 0
def f_L_add (fu : Nat) (lqf : Int → Int) (lnf : Int → Int) (x0 : Int) (x1 : Int) (x2 : Int) (x3 : Int) (x4 : Int) : Option ((Int → Int) × (Int → Int)) :=
  jix 5 4 (jix 5 4 (jix 64 (5 * (lqf 4)) (jix 64 ((5 * (lqf 4)) + 1) (jix 64 ((5 * (lqf 4)) + 2) (jix 64 ((5 * (lqf 4)) + 3) (some ((uI lqf 4 ((lqf 4) + 1)), (uI (uI (uI (uI lnf (5 * (lqf 4)) ((100 * x1) + x0)) ((5 * (lqf 4)) + 1) x2) ((5 * (lqf 4)) + 2) x3) ((5 * (lqf 4)) + 3) x4))))))))
def f_L_same_X945 (fu : Nat) (r_se : Int → Int) (r_tr : Int → Int) (r_fi : Int → Int) (r_la : Int → Int) (r_sh : Int → Int) (r_ac : Int → Int) (r_no : Int) (d_le : Int) (g_si : Int) (lqf : Int → Int) (v1 : Int) (v7 : Int) (v8 : Int) (v9 : Int) (v15 : Int) (v16 : Int) (v17 : Int) (p_eh_m18 : Int → Int) (p_we_m19 : Int) (p_hf_m20 : Int → Int) (lhf_m21 : Int → Int) (v22 : Int) (v23 : Int) : Option (Int × (Int → Int) × Int × (Int → Int) × (Int → Int)) :=
  jb4 (f_X4_sound fu r_se r_tr r_fi r_la r_sh r_ac r_no p_eh_m18 p_we_m19 p_hf_m20 v17 v22 0) (fun v24 p_eh_m25 p_we_m26 p_hf_m27 => jck v24 (-1) (if v24 ≠ (-1) then jbo 0 (some (0, p_eh_m25, p_we_m26, p_hf_m27, lhf_m21)) else jb4 (f_X4_swallowed fu r_se r_tr r_fi r_la r_sh r_ac r_no p_eh_m25 p_we_m26 p_hf_m27 v17) (fun v28 p_eh_m29 p_we_m30 p_hf_m31 => jck v28 v23 (if v28 ≠ v23 then jbo 0 (some (0, p_eh_m29, p_we_m30, p_hf_m31, lhf_m21)) else jb4 (f_X4_count fu r_se r_tr r_fi r_la r_sh r_ac r_no p_eh_m29 p_we_m30 p_hf_m31 d_le g_si 0) (fun v32 p_eh_m33 p_we_m34 p_hf_m35 => jix 5 4 (jck v32 (lqf 4) (if v32 ≠ (lqf 4) then jbo 0 (some (0, p_eh_m33, p_we_m34, p_hf_m35, lhf_m21)) else jb4 (f_X4_count fu r_se r_tr r_fi r_la r_sh r_ac r_no p_eh_m33 p_we_m34 p_hf_m35 d_le g_si 1) (fun v36 p_eh_m37 p_we_m38 p_hf_m39 => jck v36 v7 (if v36 ≠ v7 then jbo 0 (some (0, p_eh_m37, p_we_m38, p_hf_m39, lhf_m21)) else jb4 (f_X4_count fu r_se r_tr r_fi r_la r_sh r_ac r_no p_eh_m37 p_we_m38 p_hf_m39 d_le g_si 2) (fun v40 p_eh_m41 p_we_m42 p_hf_m43 => jck v40 v1 (if v40 ≠ v1 then jbo 0 (some (0, p_eh_m41, p_we_m42, p_hf_m43, lhf_m21)) else jb4 (f_X4_count fu r_se r_tr r_fi r_la r_sh r_ac r_no p_eh_m41 p_we_m42 p_hf_m43 d_le g_si 3) (fun v44 p_eh_m45 p_we_m46 p_hf_m47 => jck v44 v8 (if v44 ≠ v8 then jbo 0 (some (0, p_eh_m45, p_we_m46, p_hf_m47, lhf_m21)) else jb4 (f_X4_count fu r_se r_tr r_fi r_la r_sh r_ac r_no p_eh_m45 p_we_m46 p_hf_m47 d_le g_si 4) (fun v48 p_eh_m49 p_we_m50 p_hf_m51 => jck v48 v9 (if v48 ≠ v9 then jbo 0 (some (0, p_eh_m49, p_we_m50, p_hf_m51, lhf_m21)) else jb4 (f_X4_count fu r_se r_tr r_fi r_la r_sh r_ac r_no p_eh_m49 p_we_m50 p_hf_m51 d_le g_si 5) (fun v52 p_eh_m53 p_we_m54 p_hf_m55 => jck v52 v15 (if v52 ≠ v15 then jbo 0 (some (0, p_eh_m53, p_we_m54, p_hf_m55, lhf_m21)) else jb4 (f_X4_count fu r_se r_tr r_fi r_la r_sh r_ac r_no p_eh_m53 p_we_m54 p_hf_m55 d_le g_si 6) (fun v56 p_eh_m57 p_we_m58 p_hf_m59 => jck v56 v16 (if v56 ≠ v16 then jbo 0 (some (0, p_eh_m57, p_we_m58, p_hf_m59, lhf_m21)) else jb4 (f_X4_count fu r_se r_tr r_fi r_la r_sh r_ac r_no p_eh_m57 p_we_m58 p_hf_m59 d_le g_si 7) (fun v60 p_eh_m61 p_we_m62 p_hf_m63 => jix 5 0 (jck v60 (lqf 0) (if v60 ≠ (lqf 0) then jbo 0 (some (0, p_eh_m61, p_we_m62, p_hf_m63, lhf_m21)) else jb4 (f_X4_count fu r_se r_tr r_fi r_la r_sh r_ac r_no p_eh_m61 p_we_m62 p_hf_m63 d_le g_si 8) (fun v64 p_eh_m65 p_we_m66 p_hf_m67 => jix 5 1 (jck v64 (lqf 1) (if v64 ≠ (lqf 1) then jbo 0 (some (0, p_eh_m65, p_we_m66, p_hf_m67, lhf_m21)) else jb4 (f_X4_count fu r_se r_tr r_fi r_la r_sh r_ac r_no p_eh_m65 p_we_m66 p_hf_m67 d_le g_si 9) (fun v68 p_eh_m69 p_we_m70 p_hf_m71 => jix 5 2 (jck v68 (lqf 2) (if v68 ≠ (lqf 2) then jbo 0 (some (0, p_eh_m69, p_we_m70, p_hf_m71, lhf_m21)) else jb4 (f_X4_count fu r_se r_tr r_fi r_la r_sh r_ac r_no p_eh_m69 p_we_m70 p_hf_m71 d_le g_si 10) (fun v72 p_eh_m73 p_we_m74 p_hf_m75 => jix 5 3 (jck v72 (lqf 3) (if v72 ≠ (lqf 3) then jbo 0 (some (0, p_eh_m73, p_we_m74, p_hf_m75, lhf_m21)) else jbo 1 (some (1, p_eh_m73, p_we_m74, p_hf_m75, lhf_m21)))))))))))))))))))))))))))))))))
def f_L_same_X892 (fu : Nat) (r_se : Int → Int) (r_tr : Int → Int) (r_fi : Int → Int) (r_la : Int → Int) (r_sh : Int → Int) (r_ac : Int → Int) (r_no : Int) (v17 : Int) (p_eh_m76 : Int → Int) (p_we_m77 : Int) (p_hf_m78 : Int → Int) (lhf_m79 : Int → Int) (v80 : Int) (v82 : Int) (v86 : Int) (v87 : Int) (j661_ : (Int → Int) → Int → (Int → Int) → (Int → Int) → Int → Int → Int → Option (Int × (Int → Int) × Int × (Int → Int) × (Int → Int))) (v88 : Int) : Option (Int × (Int → Int) × Int × (Int → Int) × (Int → Int)) :=
  jb4 (f_X4_sound fu r_se r_tr r_fi r_la r_sh r_ac r_no p_eh_m76 p_we_m77 p_hf_m78 v17 v80 0) (fun v89 p_eh_m90 p_we_m91 p_hf_m92 => jck v89 v82 (if v89 ≠ v82 then jbo 0 (some (0, p_eh_m90, p_we_m91, p_hf_m92, lhf_m79)) else jb4 (f_X4_sound fu r_se r_tr r_fi r_la r_sh r_ac r_no p_eh_m90 p_we_m91 p_hf_m92 v17 v80 1) (fun v93 p_eh_m94 p_we_m95 p_hf_m96 => jck v93 v87 (if v93 ≠ v87 then jbo 0 (some (0, p_eh_m94, p_we_m95, p_hf_m96, lhf_m79)) else jb4 (f_X4_sound fu r_se r_tr r_fi r_la r_sh r_ac r_no p_eh_m94 p_we_m95 p_hf_m96 v17 v80 2) (fun v97 p_eh_m98 p_we_m99 p_hf_m100 => jck v97 v88 (if v97 = v88 then j661_ p_eh_m98 p_we_m99 p_hf_m100 lhf_m79 (v80 + 1) v86 (v82 + 1) else jbo 0 (some (0, p_eh_m98, p_we_m99, p_hf_m100, lhf_m79))))))))
def f_L_same_L827_b (fu : Nat) (lqf : Int → Int) (lnf : Int → Int) (v17 : Int) (v82 : Int) (v87 : Int) (k827_ : Int → Option (Int × (Int → Int) × Int × (Int → Int) × (Int → Int))) (j827_ : Int → Int → Option (Int × (Int → Int) × Int × (Int → Int) × (Int → Int))) (v101 : Int) (v102 : Int) : Option (Int × (Int → Int) × Int × (Int → Int) × (Int → Int)) :=
  jix 5 4 (jck v102 (lqf 4) (if (lqf 4) ≤ v102 then k827_ v101 else jix 64 (5 * v102) (jre (lnf (5 * v102)) 100 (jck ((lnf (5 * v102)) % 100) v17 (if ((lnf (5 * v102)) % 100) ≠ v17 then j827_ (v101 + 0) (v102 + 1) else jix 64 (5 * v102) (jre (lnf (5 * v102)) 100 (jck ((lnf (5 * v102)) / 100) v87 (if v87 < ((lnf (5 * v102)) / 100) then j827_ (v101 + 0) (v102 + 1) else jix 64 ((5 * v102) + 1) (jck (lnf ((5 * v102) + 1)) v82 (if (lnf ((5 * v102) + 1)) < v82 then j827_ (v101 + 0) (v102 + 1) else j827_ (v101 + 1) (v102 + 1)))))))))))
def f_L_same_L827 (fu : Nat) (lqf : Int → Int) (lnf : Int → Int) (v17 : Int) (v82 : Int) (v87 : Int) (k827_ : Int → Option (Int × (Int → Int) × Int × (Int → Int) × (Int → Int))) : Nat → Int → Int → Option (Int × (Int → Int) × Int × (Int → Int) × (Int → Int))
  | 0 => fun _ _ => none
  | n + 1 => f_L_same_L827_b fu lqf lnf v17 v82 v87 k827_ (f_L_same_L827 fu lqf lnf v17 v82 v87 k827_ n)
def f_L_same_X821 (fu : Nat) (r_se : Int → Int) (r_tr : Int → Int) (r_fi : Int → Int) (r_la : Int → Int) (r_sh : Int → Int) (r_ac : Int → Int) (r_no : Int) (lqf : Int → Int) (lnf : Int → Int) (v17 : Int) (p_eh_m76 : Int → Int) (p_we_m77 : Int) (p_hf_m78 : Int → Int) (lhf_m79 : Int → Int) (v80 : Int) (v82 : Int) (v86 : Int) (j661_ : (Int → Int) → Int → (Int → Int) → (Int → Int) → Int → Int → Int → Option (Int × (Int → Int) × Int × (Int → Int) × (Int → Int))) (v87 : Int) : Option (Int × (Int → Int) × Int × (Int → Int) × (Int → Int)) :=
  f_L_same_L827 fu lqf lnf v17 v82 v87 (f_L_same_X892 fu r_se r_tr r_fi r_la r_sh r_ac r_no v17 p_eh_m76 p_we_m77 p_hf_m78 lhf_m79 v80 v82 v86 v87 j661_) fu 0 0
def f_L_same_L789_b (fu : Nat) (lqf : Int → Int) (v17 : Int) (lhf_m79 : Int → Int) (k789_ : Int → Option (Int × (Int → Int) × Int × (Int → Int) × (Int → Int))) (j789_ : Int → Option (Int × (Int → Int) × Int × (Int → Int) × (Int → Int))) (v103 : Int) : Option (Int × (Int → Int) × Int × (Int → Int) × (Int → Int)) :=
  jck v103 63 (if 63 ≤ v103 then k789_ v103 else jb (f_L_heard fu lqf lhf_m79 (v103 + 1)) (fun v104 => jck (jand (jshr v104 v17) 1) 1 (if (jand (jshr v104 v17) 1) ≠ 1 then k789_ v103 else j789_ (v103 + 1))))
def f_L_same_L789 (fu : Nat) (lqf : Int → Int) (v17 : Int) (lhf_m79 : Int → Int) (k789_ : Int → Option (Int × (Int → Int) × Int × (Int → Int) × (Int → Int))) : Nat → Int → Option (Int × (Int → Int) × Int × (Int → Int) × (Int → Int))
  | 0 => fun _ => none
  | n + 1 => f_L_same_L789_b fu lqf v17 lhf_m79 k789_ (f_L_same_L789 fu lqf v17 lhf_m79 k789_ n)
def f_L_same_X772 (fu : Nat) (r_se : Int → Int) (r_tr : Int → Int) (r_fi : Int → Int) (r_la : Int → Int) (r_sh : Int → Int) (r_ac : Int → Int) (r_no : Int) (lqf : Int → Int) (lnf : Int → Int) (v17 : Int) (p_eh_m76 : Int → Int) (p_we_m77 : Int) (p_hf_m78 : Int → Int) (lhf_m79 : Int → Int) (v80 : Int) (v82 : Int) (v84 : Int) (v85 : Int) (j661_ : (Int → Int) → Int → (Int → Int) → (Int → Int) → Int → Int → Int → Option (Int × (Int → Int) × Int × (Int → Int) × (Int → Int))) (v86 : Int) : Option (Int × (Int → Int) × Int × (Int → Int) × (Int → Int)) :=
  jck v84 0 (if v84 = 0 then j661_ p_eh_m76 p_we_m77 p_hf_m78 lhf_m79 v80 v86 (v82 + 1) else jck v85 0 (if v85 = 0 then f_L_same_L789 fu lqf v17 lhf_m79 (f_L_same_X821 fu r_se r_tr r_fi r_la r_sh r_ac r_no lqf lnf v17 p_eh_m76 p_we_m77 p_hf_m78 lhf_m79 v80 v82 v86 j661_) fu v82 else j661_ p_eh_m76 p_we_m77 p_hf_m78 lhf_m79 v80 v86 (v82 + 1)))
def f_L_same_L726_b (fu : Nat) (lqf : Int → Int) (lnf : Int → Int) (v17 : Int) (v82 : Int) (v85 : Int) (k726_ : Int → Option (Int × (Int → Int) × Int × (Int → Int) × (Int → Int))) (j726_ : Int → Int → Option (Int × (Int → Int) × Int × (Int → Int) × (Int → Int))) (v105 : Int) (v106 : Int) : Option (Int × (Int → Int) × Int × (Int → Int) × (Int → Int)) :=
  jix 5 4 (jck v106 (lqf 4) (if (lqf 4) ≤ v106 then k726_ v105 else jix 64 (5 * v106) (jck (lnf (5 * v106)) ((100 * v82) + v17) (if (lnf (5 * v106)) ≠ ((100 * v82) + v17) then j726_ (v105 + 0) (v106 + 1) else jck v85 0 (if v85 = 0 then j726_ (v105 + 0) (v106 + 1) else j726_ (v105 + 1) (v106 + 1))))))
def f_L_same_L726 (fu : Nat) (lqf : Int → Int) (lnf : Int → Int) (v17 : Int) (v82 : Int) (v85 : Int) (k726_ : Int → Option (Int × (Int → Int) × Int × (Int → Int) × (Int → Int))) : Nat → Int → Int → Option (Int × (Int → Int) × Int × (Int → Int) × (Int → Int))
  | 0 => fun _ _ => none
  | n + 1 => f_L_same_L726_b fu lqf lnf v17 v82 v85 k726_ (f_L_same_L726 fu lqf lnf v17 v82 v85 k726_ n)
def f_L_same_J721 (fu : Nat) (r_se : Int → Int) (r_tr : Int → Int) (r_fi : Int → Int) (r_la : Int → Int) (r_sh : Int → Int) (r_ac : Int → Int) (r_no : Int) (lqf : Int → Int) (lnf : Int → Int) (v17 : Int) (p_eh_m76 : Int → Int) (p_we_m77 : Int) (p_hf_m78 : Int → Int) (lhf_m79 : Int → Int) (v80 : Int) (v81 : Int) (v82 : Int) (v84 : Int) (j661_ : (Int → Int) → Int → (Int → Int) → (Int → Int) → Int → Int → Int → Option (Int × (Int → Int) × Int × (Int → Int) × (Int → Int))) (v85 : Int) : Option (Int × (Int → Int) × Int × (Int → Int) × (Int → Int)) :=
  f_L_same_L726 fu lqf lnf v17 v82 v85 (f_L_same_X772 fu r_se r_tr r_fi r_la r_sh r_ac r_no lqf lnf v17 p_eh_m76 p_we_m77 p_hf_m78 lhf_m79 v80 v82 v84 v85 j661_) fu v81 0
def f_L_same_J720 (fu : Nat) (r_se : Int → Int) (r_tr : Int → Int) (r_fi : Int → Int) (r_la : Int → Int) (r_sh : Int → Int) (r_ac : Int → Int) (r_no : Int) (lqf : Int → Int) (lnf : Int → Int) (v17 : Int) (p_eh_m76 : Int → Int) (p_we_m77 : Int) (p_hf_m78 : Int → Int) (lhf_m79 : Int → Int) (v80 : Int) (v81 : Int) (v82 : Int) (v84 : Int) (j661_ : (Int → Int) → Int → (Int → Int) → (Int → Int) → Int → Int → Int → Option (Int × (Int → Int) × Int × (Int → Int) × (Int → Int)))  : Option (Int × (Int → Int) × Int × (Int → Int) × (Int → Int)) :=
  f_L_same_J721 fu r_se r_tr r_fi r_la r_sh r_ac r_no lqf lnf v17 p_eh_m76 p_we_m77 p_hf_m78 lhf_m79 v80 v81 v82 v84 j661_ 0
def f_L_same_J690 (fu : Nat) (r_se : Int → Int) (r_tr : Int → Int) (r_fi : Int → Int) (r_la : Int → Int) (r_sh : Int → Int) (r_ac : Int → Int) (r_no : Int) (lqf : Int → Int) (lnf : Int → Int) (v17 : Int) (p_eh_m76 : Int → Int) (p_we_m77 : Int) (p_hf_m78 : Int → Int) (lhf_m79 : Int → Int) (v80 : Int) (v81 : Int) (v82 : Int) (j661_ : (Int → Int) → Int → (Int → Int) → (Int → Int) → Int → Int → Int → Option (Int × (Int → Int) × Int × (Int → Int) × (Int → Int))) (v84 : Int) : Option (Int × (Int → Int) × Int × (Int → Int) × (Int → Int)) :=
  jck v82 0 (if v82 ≤ 0 then f_L_same_J720 fu r_se r_tr r_fi r_la r_sh r_ac r_no lqf lnf v17 p_eh_m76 p_we_m77 p_hf_m78 lhf_m79 v80 v81 v82 v84 j661_ else jb (f_L_heard fu lqf lhf_m79 (v82 - 1)) (fun v107 => jck (jand (jshr v107 v17) 1) 1 (if (jand (jshr v107 v17) 1) ≠ 1 then f_L_same_J720 fu r_se r_tr r_fi r_la r_sh r_ac r_no lqf lnf v17 p_eh_m76 p_we_m77 p_hf_m78 lhf_m79 v80 v81 v82 v84 j661_ else f_L_same_J721 fu r_se r_tr r_fi r_la r_sh r_ac r_no lqf lnf v17 p_eh_m76 p_we_m77 p_hf_m78 lhf_m79 v80 v81 v82 v84 j661_ 1)))
def f_L_same_L661_b (fu : Nat) (r_se : Int → Int) (r_tr : Int → Int) (r_fi : Int → Int) (r_la : Int → Int) (r_sh : Int → Int) (r_ac : Int → Int) (r_no : Int) (lqf : Int → Int) (lnf : Int → Int) (v17 : Int) (k661_ : (Int → Int) → Int → (Int → Int) → (Int → Int) → Int → Int → Option (Int × (Int → Int) × Int × (Int → Int) × (Int → Int))) (j661_ : (Int → Int) → Int → (Int → Int) → (Int → Int) → Int → Int → Int → Option (Int × (Int → Int) × Int × (Int → Int) × (Int → Int))) (p_eh_m76 : Int → Int) (p_we_m77 : Int) (p_hf_m78 : Int → Int) (lhf_m79 : Int → Int) (v80 : Int) (v81 : Int) (v82 : Int) : Option (Int × (Int → Int) × Int × (Int → Int) × (Int → Int)) :=
  jck v82 64 (if 64 ≤ v82 then k661_ p_eh_m76 p_we_m77 p_hf_m78 lhf_m79 v80 v81 else jb (f_L_heard fu lqf lhf_m79 v82) (fun v83 => jck (jand (jshr v83 v17) 1) 1 (if (jand (jshr v83 v17) 1) ≠ 1 then f_L_same_J690 fu r_se r_tr r_fi r_la r_sh r_ac r_no lqf lnf v17 p_eh_m76 p_we_m77 p_hf_m78 lhf_m79 v80 v81 v82 j661_ 0 else f_L_same_J690 fu r_se r_tr r_fi r_la r_sh r_ac r_no lqf lnf v17 p_eh_m76 p_we_m77 p_hf_m78 lhf_m79 v80 v81 v82 j661_ 1)))
def f_L_same_L661 (fu : Nat) (r_se : Int → Int) (r_tr : Int → Int) (r_fi : Int → Int) (r_la : Int → Int) (r_sh : Int → Int) (r_ac : Int → Int) (r_no : Int) (lqf : Int → Int) (lnf : Int → Int) (v17 : Int) (k661_ : (Int → Int) → Int → (Int → Int) → (Int → Int) → Int → Int → Option (Int × (Int → Int) × Int × (Int → Int) × (Int → Int))) : Nat → (Int → Int) → Int → (Int → Int) → (Int → Int) → Int → Int → Int → Option (Int × (Int → Int) × Int × (Int → Int) × (Int → Int))
  | 0 => fun _ _ _ _ _ _ _ => none
  | n + 1 => f_L_same_L661_b fu r_se r_tr r_fi r_la r_sh r_ac r_no lqf lnf v17 k661_ (f_L_same_L661 fu r_se r_tr r_fi r_la r_sh r_ac r_no lqf lnf v17 k661_ n)
def f_L_same_X644 (fu : Nat) (r_se : Int → Int) (r_tr : Int → Int) (r_fi : Int → Int) (r_la : Int → Int) (r_sh : Int → Int) (r_ac : Int → Int) (r_no : Int) (d_le : Int) (g_si : Int) (lqf : Int → Int) (lnf : Int → Int) (x1 : Int) (v1 : Int) (v7 : Int) (v8 : Int) (v9 : Int) (p_eh_m11 : Int → Int) (p_we_m12 : Int) (p_hf_m13 : Int → Int) (lhf_m14 : Int → Int) (v15 : Int) (v16 : Int) : Option (Int × (Int → Int) × Int × (Int → Int) × (Int → Int)) :=
  jb (f_L_low fu x1 12) (fun v17 => f_L_same_L661 fu r_se r_tr r_fi r_la r_sh r_ac r_no lqf lnf v17 (f_L_same_X945 fu r_se r_tr r_fi r_la r_sh r_ac r_no d_le g_si lqf v1 v7 v8 v9 v15 v16 v17) fu p_eh_m11 p_we_m12 p_hf_m13 lhf_m14 0 0 0)
def f_L_same_J633 (fu : Nat) (lhf_m111 : Int → Int) (v112 : Int) (v114 : Int) (v119 : Int) (v120 : Int) (v149 : Int) (p_eh_m150 : Int → Int) (p_we_m151 : Int) (p_hf_m152 : Int → Int) (j315_ : (Int → Int) → Int → (Int → Int) → (Int → Int) → Int → Int → Int → Option (Int × (Int → Int) × Int × (Int → Int) × (Int → Int))) (v153 : Int) : Option (Int × (Int → Int) × Int × (Int → Int) × (Int → Int)) :=
  jck v149 v153 (if v149 = v153 then j315_ p_eh_m150 p_we_m151 p_hf_m152 lhf_m111 (v112 + v119) v120 (v114 + 1) else jbo 0 (some (0, p_eh_m150, p_we_m151, p_hf_m152, lhf_m111)))
def f_L_same_J503 (fu : Nat) (r_se : Int → Int) (r_tr : Int → Int) (r_fi : Int → Int) (r_la : Int → Int) (r_sh : Int → Int) (r_ac : Int → Int) (r_no : Int) (lnf : Int → Int) (p_eh_m108 : Int → Int) (p_we_m109 : Int) (p_hf_m110 : Int → Int) (lhf_m111 : Int → Int) (v112 : Int) (v114 : Int) (v115 : Int) (v116 : Int) (v117 : Int) (v118 : Int) (v119 : Int) (j315_ : (Int → Int) → Int → (Int → Int) → (Int → Int) → Int → Int → Int → Option (Int × (Int → Int) × Int × (Int → Int) × (Int → Int))) (v120 : Int) : Option (Int × (Int → Int) × Int × (Int → Int) × (Int → Int)) :=
  jb4 (f_X4_of fu r_se r_tr r_fi r_la r_sh r_ac r_no p_eh_m108 p_we_m109 p_hf_m110 v114 0) (fun v121 p_eh_m122 p_we_m123 p_hf_m124 => jck v121 v115 (if v121 ≠ v115 then jbo 0 (some (0, p_eh_m122, p_we_m123, p_hf_m124, lhf_m111)) else jb4 (f_X4_of fu r_se r_tr r_fi r_la r_sh r_ac r_no p_eh_m122 p_we_m123 p_hf_m124 v114 1) (fun v125 p_eh_m126 p_we_m127 p_hf_m128 => jix 64 (5 * v114) (jre (lnf (5 * v114)) 100 (jck v125 ((lnf (5 * v114)) / 100) (if v125 ≠ ((lnf (5 * v114)) / 100) then jbo 0 (some (0, p_eh_m126, p_we_m127, p_hf_m128, lhf_m111)) else jb4 (f_X4_of fu r_se r_tr r_fi r_la r_sh r_ac r_no p_eh_m126 p_we_m127 p_hf_m128 v114 2) (fun v129 p_eh_m130 p_we_m131 p_hf_m132 => jix 64 ((5 * v114) + 1) (jck v129 (lnf ((5 * v114) + 1)) (if v129 ≠ (lnf ((5 * v114) + 1)) then jbo 0 (some (0, p_eh_m130, p_we_m131, p_hf_m132, lhf_m111)) else jb4 (f_X4_of fu r_se r_tr r_fi r_la r_sh r_ac r_no p_eh_m130 p_we_m131 p_hf_m132 v114 3) (fun v133 p_eh_m134 p_we_m135 p_hf_m136 => jix 64 ((5 * v114) + 2) (jck v133 (lnf ((5 * v114) + 2)) (if v133 ≠ (lnf ((5 * v114) + 2)) then jbo 0 (some (0, p_eh_m134, p_we_m135, p_hf_m136, lhf_m111)) else jb4 (f_X4_of fu r_se r_tr r_fi r_la r_sh r_ac r_no p_eh_m134 p_we_m135 p_hf_m136 v114 4) (fun v137 p_eh_m138 p_we_m139 p_hf_m140 => jix 64 ((5 * v114) + 3) (jck v137 (lnf ((5 * v114) + 3)) (if v137 ≠ (lnf ((5 * v114) + 3)) then jbo 0 (some (0, p_eh_m138, p_we_m139, p_hf_m140, lhf_m111)) else jb4 (f_X4_of fu r_se r_tr r_fi r_la r_sh r_ac r_no p_eh_m138 p_we_m139 p_hf_m140 v114 5) (fun v141 p_eh_m142 p_we_m143 p_hf_m144 => jck v141 v116 (if v141 ≠ v116 then jbo 0 (some (0, p_eh_m142, p_we_m143, p_hf_m144, lhf_m111)) else jb4 (f_X4_of fu r_se r_tr r_fi r_la r_sh r_ac r_no p_eh_m142 p_we_m143 p_hf_m144 v114 6) (fun v145 p_eh_m146 p_we_m147 p_hf_m148 => jck v145 v117 (if v145 ≠ v117 then jbo 0 (some (0, p_eh_m146, p_we_m147, p_hf_m148, lhf_m111)) else jb4 (f_X4_of fu r_se r_tr r_fi r_la r_sh r_ac r_no p_eh_m146 p_we_m147 p_hf_m148 v114 7) (fun v149 p_eh_m150 p_we_m151 p_hf_m152 => jck v118 0 (if v118 = 0 then f_L_same_J633 fu lhf_m111 v112 v114 v119 v120 v149 p_eh_m150 p_we_m151 p_hf_m152 j315_ 0 else f_L_same_J633 fu lhf_m111 v112 v114 v119 v120 v149 p_eh_m150 p_we_m151 p_hf_m152 j315_ 1)))))))))))))))))))))
def f_L_same_J474 (fu : Nat) (r_se : Int → Int) (r_tr : Int → Int) (r_fi : Int → Int) (r_la : Int → Int) (r_sh : Int → Int) (r_ac : Int → Int) (r_no : Int) (lnf : Int → Int) (p_eh_m108 : Int → Int) (p_we_m109 : Int) (p_hf_m110 : Int → Int) (lhf_m111 : Int → Int) (v112 : Int) (v113 : Int) (v114 : Int) (v115 : Int) (v116 : Int) (v117 : Int) (v118 : Int) (j315_ : (Int → Int) → Int → (Int → Int) → (Int → Int) → Int → Int → Int → Option (Int × (Int → Int) × Int × (Int → Int) × (Int → Int))) (v119 : Int) : Option (Int × (Int → Int) × Int × (Int → Int) × (Int → Int)) :=
  jix 64 ((5 * v114) + 1) (jck (lnf ((5 * v114) + 1)) v113 (if (lnf ((5 * v114) + 1)) ≤ v113 then f_L_same_J503 fu r_se r_tr r_fi r_la r_sh r_ac r_no lnf p_eh_m108 p_we_m109 p_hf_m110 lhf_m111 v112 v114 v115 v116 v117 v118 v119 j315_ v113 else jix 64 ((5 * v114) + 1) (f_L_same_J503 fu r_se r_tr r_fi r_la r_sh r_ac r_no lnf p_eh_m108 p_we_m109 p_hf_m110 lhf_m111 v112 v114 v115 v116 v117 v118 v119 j315_ (lnf ((5 * v114) + 1)))))
def f_L_same_X462 (fu : Nat) (r_se : Int → Int) (r_tr : Int → Int) (r_fi : Int → Int) (r_la : Int → Int) (r_sh : Int → Int) (r_ac : Int → Int) (r_no : Int) (lnf : Int → Int) (p_eh_m108 : Int → Int) (p_we_m109 : Int) (p_hf_m110 : Int → Int) (lhf_m111 : Int → Int) (v112 : Int) (v113 : Int) (v114 : Int) (j315_ : (Int → Int) → Int → (Int → Int) → (Int → Int) → Int → Int → Int → Option (Int × (Int → Int) × Int × (Int → Int) × (Int → Int))) (v115 : Int) (v116 : Int) (v117 : Int) (v118 : Int) : Option (Int × (Int → Int) × Int × (Int → Int) × (Int → Int)) :=
  jck v118 0 (if v118 = 0 then f_L_same_J474 fu r_se r_tr r_fi r_la r_sh r_ac r_no lnf p_eh_m108 p_we_m109 p_hf_m110 lhf_m111 v112 v113 v114 v115 v116 v117 v118 j315_ 1 else f_L_same_J474 fu r_se r_tr r_fi r_la r_sh r_ac r_no lnf p_eh_m108 p_we_m109 p_hf_m110 lhf_m111 v112 v113 v114 v115 v116 v117 v118 j315_ 0)
def f_L_same_J425 (fu : Nat) (lqf : Int → Int) (lhf_m111 : Int → Int) (v154 : Int) (v155 : Int) (v158 : Int) (v159 : Int) (v161 : Int) (v162 : Int) (j357_ : Int → Int → Int → Int → Int → Int → Option (Int × (Int → Int) × Int × (Int → Int) × (Int → Int))) (v163 : Int) : Option (Int × (Int → Int) × Int × (Int → Int) × (Int → Int)) :=
  jck v158 0 (if v158 = 0 then j357_ v154 (v155 + v161) v162 v163 0 (v159 + 1) else jb (f_L_heard fu lqf lhf_m111 v159) (fun v164 => jck (jand (jshr v164 v154) 1) 1 (if (jand (jshr v164 v154) 1) ≠ 1 then j357_ v154 (v155 + v161) v162 v163 0 (v159 + 1) else j357_ v154 (v155 + v161) v162 v163 1 (v159 + 1))))
def f_L_same_J409 (fu : Nat) (lqf : Int → Int) (lhf_m111 : Int → Int) (v154 : Int) (v155 : Int) (v157 : Int) (v158 : Int) (v159 : Int) (v161 : Int) (j357_ : Int → Int → Int → Int → Int → Int → Option (Int × (Int → Int) × Int × (Int → Int) × (Int → Int))) (v162 : Int) : Option (Int × (Int → Int) × Int × (Int → Int) × (Int → Int)) :=
  jck v162 v157 (if v162 ≤ v157 then f_L_same_J425 fu lqf lhf_m111 v154 v155 v158 v159 v161 v162 j357_ v157 else f_L_same_J425 fu lqf lhf_m111 v154 v155 v158 v159 v161 v162 j357_ v162)
def f_L_same_J393 (fu : Nat) (lqf : Int → Int) (lhf_m111 : Int → Int) (v154 : Int) (v155 : Int) (v156 : Int) (v157 : Int) (v158 : Int) (v159 : Int) (v160 : Int) (j357_ : Int → Int → Int → Int → Int → Int → Option (Int × (Int → Int) × Int × (Int → Int) × (Int → Int))) (v161 : Int) : Option (Int × (Int → Int) × Int × (Int → Int) × (Int → Int)) :=
  jck v160 0 (if v160 = 0 then f_L_same_J409 fu lqf lhf_m111 v154 v155 v157 v158 v159 v161 j357_ (v156 + 1) else f_L_same_J409 fu lqf lhf_m111 v154 v155 v157 v158 v159 v161 j357_ 0)
def f_L_same_L357_b (fu : Nat) (lqf : Int → Int) (lnf : Int → Int) (lhf_m111 : Int → Int) (v114 : Int) (k357_ : Int → Int → Int → Int → Option (Int × (Int → Int) × Int × (Int → Int) × (Int → Int))) (j357_ : Int → Int → Int → Int → Int → Int → Option (Int × (Int → Int) × Int × (Int → Int) × (Int → Int))) (v154 : Int) (v155 : Int) (v156 : Int) (v157 : Int) (v158 : Int) (v159 : Int) : Option (Int × (Int → Int) × Int × (Int → Int) × (Int → Int)) :=
  jix 64 ((5 * v114) + 1) (jck v159 (lnf ((5 * v114) + 1)) (if (lnf ((5 * v114) + 1)) < v159 then k357_ v154 v155 v157 v158 else jb (f_L_hole fu lqf lnf v114 v159) (fun v160 => jck v160 0 (if v160 = 0 then f_L_same_J393 fu lqf lhf_m111 v154 v155 v156 v157 v158 v159 v160 j357_ 1 else f_L_same_J393 fu lqf lhf_m111 v154 v155 v156 v157 v158 v159 v160 j357_ 0))))
def f_L_same_L357 (fu : Nat) (lqf : Int → Int) (lnf : Int → Int) (lhf_m111 : Int → Int) (v114 : Int) (k357_ : Int → Int → Int → Int → Option (Int × (Int → Int) × Int × (Int → Int) × (Int → Int))) : Nat → Int → Int → Int → Int → Int → Int → Option (Int × (Int → Int) × Int × (Int → Int) × (Int → Int))
  | 0 => fun _ _ _ _ _ _ => none
  | n + 1 => f_L_same_L357_b fu lqf lnf lhf_m111 v114 k357_ (f_L_same_L357 fu lqf lnf lhf_m111 v114 k357_ n)
def f_L_same_L315_b (fu : Nat) (r_se : Int → Int) (r_tr : Int → Int) (r_fi : Int → Int) (r_la : Int → Int) (r_sh : Int → Int) (r_ac : Int → Int) (r_no : Int) (lqf : Int → Int) (lnf : Int → Int) (k315_ : (Int → Int) → Int → (Int → Int) → (Int → Int) → Int → Int → Option (Int × (Int → Int) × Int × (Int → Int) × (Int → Int))) (j315_ : (Int → Int) → Int → (Int → Int) → (Int → Int) → Int → Int → Int → Option (Int × (Int → Int) × Int × (Int → Int) × (Int → Int))) (p_eh_m108 : Int → Int) (p_we_m109 : Int) (p_hf_m110 : Int → Int) (lhf_m111 : Int → Int) (v112 : Int) (v113 : Int) (v114 : Int) : Option (Int × (Int → Int) × Int × (Int → Int) × (Int → Int)) :=
  jix 5 4 (jck v114 (lqf 4) (if (lqf 4) ≤ v114 then k315_ p_eh_m108 p_we_m109 p_hf_m110 lhf_m111 v112 v113 else jix 64 (5 * v114) (jre (lnf (5 * v114)) 100 (jix 64 (5 * v114) (jre (lnf (5 * v114)) 100 (f_L_same_L357 fu lqf lnf lhf_m111 v114 (f_L_same_X462 fu r_se r_tr r_fi r_la r_sh r_ac r_no lnf p_eh_m108 p_we_m109 p_hf_m110 lhf_m111 v112 v113 v114 j315_) fu ((lnf (5 * v114)) % 100) 0 0 0 1 ((lnf (5 * v114)) / 100)))))))
def f_L_same_L315 (fu : Nat) (r_se : Int → Int) (r_tr : Int → Int) (r_fi : Int → Int) (r_la : Int → Int) (r_sh : Int → Int) (r_ac : Int → Int) (r_no : Int) (lqf : Int → Int) (lnf : Int → Int) (k315_ : (Int → Int) → Int → (Int → Int) → (Int → Int) → Int → Int → Option (Int × (Int → Int) × Int × (Int → Int) × (Int → Int))) : Nat → (Int → Int) → Int → (Int → Int) → (Int → Int) → Int → Int → Int → Option (Int × (Int → Int) × Int × (Int → Int) × (Int → Int))
  | 0 => fun _ _ _ _ _ _ _ => none
  | n + 1 => f_L_same_L315_b fu r_se r_tr r_fi r_la r_sh r_ac r_no lqf lnf k315_ (f_L_same_L315 fu r_se r_tr r_fi r_la r_sh r_ac r_no lqf lnf k315_ n)
def f_L_same_X312 (fu : Nat) (r_se : Int → Int) (r_tr : Int → Int) (r_fi : Int → Int) (r_la : Int → Int) (r_sh : Int → Int) (r_ac : Int → Int) (r_no : Int) (d_le : Int) (g_si : Int) (lqf : Int → Int) (lnf : Int → Int) (x1 : Int) (v1 : Int) (p_eh_m3 : Int → Int) (p_we_m4 : Int) (p_hf_m5 : Int → Int) (lhf_m6 : Int → Int) (v7 : Int) (v8 : Int) (v9 : Int) (v10 : Int) : Option (Int × (Int → Int) × Int × (Int → Int) × (Int → Int)) :=
  f_L_same_L315 fu r_se r_tr r_fi r_la r_sh r_ac r_no lqf lnf (f_L_same_X644 fu r_se r_tr r_fi r_la r_sh r_ac r_no d_le g_si lqf lnf x1 v1 v7 v8 v9) fu p_eh_m3 p_we_m4 p_hf_m5 lhf_m6 0 v10 0
def f_L_same_J301 (fu : Nat) (lhf_m168 : Int → Int) (v172 : Int) (v173 : Int) (v178 : Int) (v179 : Int) (v180 : Int) (v198 : Int) (p_eh_m199 : Int → Int) (p_we_m200 : Int) (p_hf_m201 : Int → Int) (j29_ : (Int → Int) → Int → (Int → Int) → (Int → Int) → Int → Int → Int → Int → Int → Option (Int × (Int → Int) × Int × (Int → Int) × (Int → Int))) (v203 : Int) : Option (Int × (Int → Int) × Int × (Int → Int) × (Int → Int)) :=
  jck v198 v203 (if v198 = v203 then j29_ p_eh_m199 p_we_m200 p_hf_m201 lhf_m168 v178 v180 v179 v172 (v173 + 1) else jbo 0 (some (0, p_eh_m199, p_we_m200, p_hf_m201, lhf_m168)))
def f_L_same_J216 (fu : Nat) (r_se : Int → Int) (r_tr : Int → Int) (r_fi : Int → Int) (r_la : Int → Int) (r_sh : Int → Int) (r_ac : Int → Int) (r_no : Int) (lqf : Int → Int) (p_eh_m165 : Int → Int) (p_we_m166 : Int) (p_hf_m167 : Int → Int) (lhf_m168 : Int → Int) (v172 : Int) (v173 : Int) (v174 : Int) (v176 : Int) (v178 : Int) (v179 : Int) (j29_ : (Int → Int) → Int → (Int → Int) → (Int → Int) → Int → Int → Int → Int → Int → Option (Int × (Int → Int) × Int × (Int → Int) × (Int → Int))) (v180 : Int) : Option (Int × (Int → Int) × Int × (Int → Int) × (Int → Int)) :=
  jb4 (f_X4_at fu r_se r_tr r_fi r_la r_sh r_ac r_no p_eh_m165 p_we_m166 p_hf_m167 v173 0) (fun v181 p_eh_m182 p_we_m183 p_hf_m184 => jix 64 v173 (jck v181 (lhf_m168 v173) (if v181 ≠ (lhf_m168 v173) then jbo 0 (some (0, p_eh_m182, p_we_m183, p_hf_m184, lhf_m168)) else jb4 (f_X4_at fu r_se r_tr r_fi r_la r_sh r_ac r_no p_eh_m182 p_we_m183 p_hf_m184 v173 1) (fun v185 p_eh_m186 p_we_m187 p_hf_m188 => jck v185 v174 (if v185 ≠ v174 then jbo 0 (some (0, p_eh_m186, p_we_m187, p_hf_m188, lhf_m168)) else jb4 (f_X4_at fu r_se r_tr r_fi r_la r_sh r_ac r_no p_eh_m186 p_we_m187 p_hf_m188 v173 2) (fun v189 p_eh_m190 p_we_m191 p_hf_m192 => jck v189 v176 (if v189 ≠ v176 then jbo 0 (some (0, p_eh_m190, p_we_m191, p_hf_m192, lhf_m168)) else jb4 (f_X4_at fu r_se r_tr r_fi r_la r_sh r_ac r_no p_eh_m190 p_we_m191 p_hf_m192 v173 3) (fun v193 p_eh_m194 p_we_m195 p_hf_m196 => jix 64 v173 (jb (f_L_side fu (lhf_m168 v173)) (fun v197 => jck v193 v197 (if v193 ≠ v197 then jbo 0 (some (0, p_eh_m194, p_we_m195, p_hf_m196, lhf_m168)) else jb4 (f_X4_at fu r_se r_tr r_fi r_la r_sh r_ac r_no p_eh_m194 p_we_m195 p_hf_m196 v173 4) (fun v198 p_eh_m199 p_we_m200 p_hf_m201 => jix 64 v173 (jb (f_L_side fu (lhf_m168 v173)) (fun v202 => jix 5 3 (jck v202 (lqf 3) (if v202 < (lqf 3) then f_L_same_J301 fu lhf_m168 v172 v173 v178 v179 v180 v198 p_eh_m199 p_we_m200 p_hf_m201 j29_ 0 else f_L_same_J301 fu lhf_m168 v172 v173 v178 v179 v180 v198 p_eh_m199 p_we_m200 p_hf_m201 j29_ 1))))))))))))))))
def f_L_same_J214 (fu : Nat) (r_se : Int → Int) (r_tr : Int → Int) (r_fi : Int → Int) (r_la : Int → Int) (r_sh : Int → Int) (r_ac : Int → Int) (r_no : Int) (lqf : Int → Int) (p_eh_m165 : Int → Int) (p_we_m166 : Int) (p_hf_m167 : Int → Int) (lhf_m168 : Int → Int) (v170 : Int) (v172 : Int) (v173 : Int) (v174 : Int) (v176 : Int) (v178 : Int) (v179 : Int) (j29_ : (Int → Int) → Int → (Int → Int) → (Int → Int) → Int → Int → Int → Int → Int → Option (Int × (Int → Int) × Int × (Int → Int) × (Int → Int)))  : Option (Int × (Int → Int) × Int × (Int → Int) × (Int → Int)) :=
  f_L_same_J216 fu r_se r_tr r_fi r_la r_sh r_ac r_no lqf p_eh_m165 p_we_m166 p_hf_m167 lhf_m168 v172 v173 v174 v176 v178 v179 j29_ v170
def f_L_same_X190 (fu : Nat) (r_se : Int → Int) (r_tr : Int → Int) (r_fi : Int → Int) (r_la : Int → Int) (r_sh : Int → Int) (r_ac : Int → Int) (r_no : Int) (lqf : Int → Int) (p_eh_m165 : Int → Int) (p_we_m166 : Int) (p_hf_m167 : Int → Int) (lhf_m168 : Int → Int) (v170 : Int) (v172 : Int) (v173 : Int) (v174 : Int) (v176 : Int) (v178 : Int) (j29_ : (Int → Int) → Int → (Int → Int) → (Int → Int) → Int → Int → Int → Int → Int → Option (Int × (Int → Int) × Int × (Int → Int) × (Int → Int))) (v179 : Int) : Option (Int × (Int → Int) × Int × (Int → Int) × (Int → Int)) :=
  jck v170 0 (if 0 ≤ v170 then f_L_same_J214 fu r_se r_tr r_fi r_la r_sh r_ac r_no lqf p_eh_m165 p_we_m166 p_hf_m167 lhf_m168 v170 v172 v173 v174 v176 v178 v179 j29_ else jix 64 v173 (jb (f_L_side fu (lhf_m168 v173)) (fun v204 => jix 5 3 (jck v204 (lqf 3) (if v204 < (lqf 3) then f_L_same_J214 fu r_se r_tr r_fi r_la r_sh r_ac r_no lqf p_eh_m165 p_we_m166 p_hf_m167 lhf_m168 v170 v172 v173 v174 v176 v178 v179 j29_ else f_L_same_J216 fu r_se r_tr r_fi r_la r_sh r_ac r_no lqf p_eh_m165 p_we_m166 p_hf_m167 lhf_m168 v172 v173 v174 v176 v178 v179 j29_ v173)))))
def f_L_same_L170_b (fu : Nat) (k170_ : Int → Option (Int × (Int → Int) × Int × (Int → Int) × (Int → Int))) (j170_ : Int → Int → Option (Int × (Int → Int) × Int × (Int → Int) × (Int → Int))) (v205 : Int) (v206 : Int) : Option (Int × (Int → Int) × Int × (Int → Int) × (Int → Int)) :=
  jck v206 0 (if v206 = 0 then k170_ v205 else j170_ (v205 + 1) (jand v206 (v206 - 1)))
def f_L_same_L170 (fu : Nat) (k170_ : Int → Option (Int × (Int → Int) × Int × (Int → Int) × (Int → Int))) : Nat → Int → Int → Option (Int × (Int → Int) × Int × (Int → Int) × (Int → Int))
  | 0 => fun _ _ => none
  | n + 1 => f_L_same_L170_b fu k170_ (f_L_same_L170 fu k170_ n)
def f_L_same_X166 (fu : Nat) (r_se : Int → Int) (r_tr : Int → Int) (r_fi : Int → Int) (r_la : Int → Int) (r_sh : Int → Int) (r_ac : Int → Int) (r_no : Int) (lqf : Int → Int) (p_eh_m165 : Int → Int) (p_we_m166 : Int) (p_hf_m167 : Int → Int) (lhf_m168 : Int → Int) (v170 : Int) (v171 : Int) (v172 : Int) (v173 : Int) (v174 : Int) (v176 : Int) (v177 : Int) (j29_ : (Int → Int) → Int → (Int → Int) → (Int → Int) → Int → Int → Int → Int → Int → Option (Int × (Int → Int) × Int × (Int → Int) × (Int → Int))) (v178 : Int) : Option (Int × (Int → Int) × Int × (Int → Int) × (Int → Int)) :=
  f_L_same_L170 fu (f_L_same_X190 fu r_se r_tr r_fi r_la r_sh r_ac r_no lqf p_eh_m165 p_we_m166 p_hf_m167 lhf_m168 v170 v172 v173 v174 v176 v178 j29_) fu v171 v177
def f_L_same_L146_b (fu : Nat) (k146_ : Int → Option (Int × (Int → Int) × Int × (Int → Int) × (Int → Int))) (j146_ : Int → Int → Option (Int × (Int → Int) × Int × (Int → Int) × (Int → Int))) (v207 : Int) (v208 : Int) : Option (Int × (Int → Int) × Int × (Int → Int) × (Int → Int)) :=
  jck v208 0 (if v208 = 0 then k146_ v207 else j146_ (v207 + 1) (jand v208 (v208 - 1)))
def f_L_same_L146 (fu : Nat) (k146_ : Int → Option (Int × (Int → Int) × Int × (Int → Int) × (Int → Int))) : Nat → Int → Int → Option (Int × (Int → Int) × Int × (Int → Int) × (Int → Int))
  | 0 => fun _ _ => none
  | n + 1 => f_L_same_L146_b fu k146_ (f_L_same_L146 fu k146_ n)
def f_L_same_X139 (fu : Nat) (r_se : Int → Int) (r_tr : Int → Int) (r_fi : Int → Int) (r_la : Int → Int) (r_sh : Int → Int) (r_ac : Int → Int) (r_no : Int) (lqf : Int → Int) (p_eh_m165 : Int → Int) (p_we_m166 : Int) (p_hf_m167 : Int → Int) (lhf_m168 : Int → Int) (v169 : Int) (v170 : Int) (v171 : Int) (v172 : Int) (v173 : Int) (v174 : Int) (j29_ : (Int → Int) → Int → (Int → Int) → (Int → Int) → Int → Int → Int → Int → Int → Option (Int × (Int → Int) × Int × (Int → Int) × (Int → Int))) (v176 : Int) (v177 : Int) : Option (Int × (Int → Int) × Int × (Int → Int) × (Int → Int)) :=
  jix 64 v173 (f_L_same_L146 fu (f_L_same_X166 fu r_se r_tr r_fi r_la r_sh r_ac r_no lqf p_eh_m165 p_we_m166 p_hf_m167 lhf_m168 v170 v171 v172 v173 v174 v176 v177 j29_) fu v169 (lhf_m168 v173))
def f_L_same_L78_b (fu : Nat) (lqf : Int → Int) (lnf : Int → Int) (v173 : Int) (k78_ : Int → Int → Option (Int × (Int → Int) × Int × (Int → Int) × (Int → Int))) (j78_ : Int → Int → Int → Option (Int × (Int → Int) × Int × (Int → Int) × (Int → Int))) (v209 : Int) (v210 : Int) (v211 : Int) : Option (Int × (Int → Int) × Int × (Int → Int) × (Int → Int)) :=
  jix 5 4 (jck v211 (lqf 4) (if (lqf 4) ≤ v211 then k78_ v209 v210 else jix 64 (5 * v211) (jre (lnf (5 * v211)) 100 (jck ((lnf (5 * v211)) / 100) v173 (if v173 < ((lnf (5 * v211)) / 100) then j78_ (jor v209 0) v210 (v211 + 1) else jix 64 ((5 * v211) + 1) (jck v173 (lnf ((5 * v211) + 1)) (if (lnf ((5 * v211) + 1)) < v173 then j78_ (jor v209 0) v210 (v211 + 1) else jix 64 (5 * v211) (jre (lnf (5 * v211)) 100 (j78_ (jor v209 (jshl 1 ((lnf (5 * v211)) % 100))) v210 (v211 + 1))))))))))
def f_L_same_L78 (fu : Nat) (lqf : Int → Int) (lnf : Int → Int) (v173 : Int) (k78_ : Int → Int → Option (Int × (Int → Int) × Int × (Int → Int) × (Int → Int))) : Nat → Int → Int → Int → Option (Int × (Int → Int) × Int × (Int → Int) × (Int → Int))
  | 0 => fun _ _ _ => none
  | n + 1 => f_L_same_L78_b fu lqf lnf v173 k78_ (f_L_same_L78 fu lqf lnf v173 k78_ n)
def f_L_same_J70 (fu : Nat) (r_se : Int → Int) (r_tr : Int → Int) (r_fi : Int → Int) (r_la : Int → Int) (r_sh : Int → Int) (r_ac : Int → Int) (r_no : Int) (lqf : Int → Int) (lnf : Int → Int) (p_eh_m165 : Int → Int) (p_we_m166 : Int) (p_hf_m167 : Int → Int) (lhf_m168 : Int → Int) (v169 : Int) (v170 : Int) (v171 : Int) (v172 : Int) (v173 : Int) (v174 : Int) (j29_ : (Int → Int) → Int → (Int → Int) → (Int → Int) → Int → Int → Int → Int → Int → Option (Int × (Int → Int) × Int × (Int → Int) × (Int → Int))) (v175 : Int) : Option (Int × (Int → Int) × Int × (Int → Int) × (Int → Int)) :=
  f_L_same_L78 fu lqf lnf v173 (f_L_same_X139 fu r_se r_tr r_fi r_la r_sh r_ac r_no lqf p_eh_m165 p_we_m166 p_hf_m167 lhf_m168 v169 v170 v171 v172 v173 v174 j29_) fu 0 (jand v174 (jxor v175 (-1))) 0
def f_L_same_L29_b (fu : Nat) (r_se : Int → Int) (r_tr : Int → Int) (r_fi : Int → Int) (r_la : Int → Int) (r_sh : Int → Int) (r_ac : Int → Int) (r_no : Int) (lqf : Int → Int) (lnf : Int → Int) (k29_ : (Int → Int) → Int → (Int → Int) → (Int → Int) → Int → Int → Int → Int → Option (Int × (Int → Int) × Int × (Int → Int) × (Int → Int))) (j29_ : (Int → Int) → Int → (Int → Int) → (Int → Int) → Int → Int → Int → Int → Int → Option (Int × (Int → Int) × Int × (Int → Int) × (Int → Int))) (p_eh_m165 : Int → Int) (p_we_m166 : Int) (p_hf_m167 : Int → Int) (lhf_m168 : Int → Int) (v169 : Int) (v170 : Int) (v171 : Int) (v172 : Int) (v173 : Int) : Option (Int × (Int → Int) × Int × (Int → Int) × (Int → Int)) :=
  jck v173 64 (if 64 ≤ v173 then k29_ p_eh_m165 p_we_m166 p_hf_m167 lhf_m168 v169 v170 v171 v172 else jb (f_L_heard fu lqf lhf_m168 v173) (fun v174 => jck v173 0 (if v173 ≠ 0 then jb (f_L_heard fu lqf lhf_m168 (v173 - 1)) (fun v212 => f_L_same_J70 fu r_se r_tr r_fi r_la r_sh r_ac r_no lqf lnf p_eh_m165 p_we_m166 p_hf_m167 lhf_m168 v169 v170 v171 v172 v173 v174 j29_ v212) else f_L_same_J70 fu r_se r_tr r_fi r_la r_sh r_ac r_no lqf lnf p_eh_m165 p_we_m166 p_hf_m167 lhf_m168 v169 v170 v171 v172 v173 v174 j29_ 0)))
def f_L_same_L29 (fu : Nat) (r_se : Int → Int) (r_tr : Int → Int) (r_fi : Int → Int) (r_la : Int → Int) (r_sh : Int → Int) (r_ac : Int → Int) (r_no : Int) (lqf : Int → Int) (lnf : Int → Int) (k29_ : (Int → Int) → Int → (Int → Int) → (Int → Int) → Int → Int → Int → Int → Option (Int × (Int → Int) × Int × (Int → Int) × (Int → Int))) : Nat → (Int → Int) → Int → (Int → Int) → (Int → Int) → Int → Int → Int → Int → Int → Option (Int × (Int → Int) × Int × (Int → Int) × (Int → Int))
  | 0 => fun _ _ _ _ _ _ _ _ _ => none
  | n + 1 => f_L_same_L29_b fu r_se r_tr r_fi r_la r_sh r_ac r_no lqf lnf k29_ (f_L_same_L29 fu r_se r_tr r_fi r_la r_sh r_ac r_no lqf lnf k29_ n)
def f_L_same (fu : Nat) (r_se : Int → Int) (r_tr : Int → Int) (r_fi : Int → Int) (r_la : Int → Int) (r_sh : Int → Int) (r_ac : Int → Int) (r_no : Int) (p_eh : Int → Int) (p_we : Int) (p_hf : Int → Int) (d_le : Int) (g_si : Int) (lqf : Int → Int) (lnf : Int → Int) (lhf : Int → Int) (x1 : Int) : Option (Int × (Int → Int) × Int × (Int → Int) × (Int → Int)) :=
  jb2 (f_L_weak fu lqf lnf lhf) (fun v1 lhf_m2 => f_L_same_L29 fu r_se r_tr r_fi r_la r_sh r_ac r_no lqf lnf (f_L_same_X312 fu r_se r_tr r_fi r_la r_sh r_ac r_no d_le g_si lqf lnf x1 v1) fu p_eh p_we p_hf lhf_m2 0 (-6) 0 (-6) 0)
def f_L_would_X166 (fu : Nat) (r_se : Int → Int) (r_tr : Int → Int) (r_fi : Int → Int) (r_la : Int → Int) (r_sh : Int → Int) (r_ac : Int → Int) (r_no : Int) (v27 : Int) (u_se_m28 : Int → Int) (u_tr_m29 : Int → Int) (u_fi_m30 : Int → Int) (u_la_m31 : Int → Int) (u_sh_m32 : Int → Int) (u_ac_m33 : Int → Int) (u_no_m34 : Int) (p_eh_m35 : Int → Int) (p_we_m36 : Int) (p_hf_m37 : Int → Int) (lqf_m38 : Int → Int) (lnf_m39 : Int → Int) (lhf_m40 : Int → Int) (v41 : Int) (v42 : Int) (v43 : Int) : Option (Int × (Int → Int) × (Int → Int) × (Int → Int) × (Int → Int) × (Int → Int) × (Int → Int) × Int × (Int → Int) × Int × (Int → Int) × (Int → Int) × (Int → Int) × (Int → Int)) :=
  jix 64 ((5 * v27) + 2) (jb11 (f_X4_bestShift fu r_se r_tr r_fi r_la r_sh r_ac r_no u_se_m28 u_tr_m29 u_fi_m30 u_la_m31 u_sh_m32 u_ac_m33 u_no_m34 p_eh_m35 p_we_m36 p_hf_m37 v27 0) (fun v44 u_se_m45 u_tr_m46 u_fi_m47 u_la_m48 u_sh_m49 u_ac_m50 u_no_m51 p_eh_m52 p_we_m53 p_hf_m54 => jck v44 v42 (if v44 ≠ v42 then jbo 0 (some (0, u_se_m45, u_tr_m46, u_fi_m47, u_la_m48, u_sh_m49, u_ac_m50, u_no_m51, p_eh_m52, p_we_m53, p_hf_m54, lqf_m38, (uI lnf_m39 ((5 * v27) + 2) v41), lhf_m40)) else jb11 (f_X4_bestShift fu r_se r_tr r_fi r_la r_sh r_ac r_no u_se_m45 u_tr_m46 u_fi_m47 u_la_m48 u_sh_m49 u_ac_m50 u_no_m51 p_eh_m52 p_we_m53 p_hf_m54 v27 1) (fun v55 u_se_m56 u_tr_m57 u_fi_m58 u_la_m59 u_sh_m60 u_ac_m61 u_no_m62 p_eh_m63 p_we_m64 p_hf_m65 => jck v55 v43 (if v55 ≠ v43 then jbo 0 (some (0, u_se_m56, u_tr_m57, u_fi_m58, u_la_m59, u_sh_m60, u_ac_m61, u_no_m62, p_eh_m63, p_we_m64, p_hf_m65, lqf_m38, (uI lnf_m39 ((5 * v27) + 2) v41), lhf_m40)) else jbo 1 (some (1, u_se_m56, u_tr_m57, u_fi_m58, u_la_m59, u_sh_m60, u_ac_m61, u_no_m62, p_eh_m63, p_we_m64, p_hf_m65, lqf_m38, (uI lnf_m39 ((5 * v27) + 2) v41), lhf_m40)))))))
def f_L_would_J142 (fu : Nat) (v27 : Int) (u_se_m66 : Int → Int) (u_tr_m67 : Int → Int) (u_fi_m68 : Int → Int) (u_la_m69 : Int → Int) (u_sh_m70 : Int → Int) (u_ac_m71 : Int → Int) (u_no_m72 : Int) (p_eh_m73 : Int → Int) (p_we_m74 : Int) (p_hf_m75 : Int → Int) (lqf_m76 : Int → Int) (lnf_m77 : Int → Int) (v79 : Int) (v81 : Int) (v82 : Int) (v83 : Int) (lhf_m84 : Int → Int) (j104_ : (Int → Int) → (Int → Int) → (Int → Int) → (Int → Int) → (Int → Int) → (Int → Int) → Int → (Int → Int) → Int → (Int → Int) → (Int → Int) → (Int → Int) → (Int → Int) → Int → Int → Int → Int → Option (Int × (Int → Int) × (Int → Int) × (Int → Int) × (Int → Int) × (Int → Int) × (Int → Int) × Int × (Int → Int) × Int × (Int → Int) × (Int → Int) × (Int → Int) × (Int → Int))) (v85 : Int) : Option (Int × (Int → Int) × (Int → Int) × (Int → Int) × (Int → Int) × (Int → Int) × (Int → Int) × Int × (Int → Int) × Int × (Int → Int) × (Int → Int) × (Int → Int) × (Int → Int)) :=
  jck v83 v81 (if v81 < v83 then j104_ u_se_m66 u_tr_m67 u_fi_m68 u_la_m69 u_sh_m70 u_ac_m71 u_no_m72 p_eh_m73 p_we_m74 p_hf_m75 lqf_m76 (uI lnf_m77 ((5 * v27) + 2) v82) lhf_m84 v79 v85 v81 (v82 + (-1)) else j104_ u_se_m66 u_tr_m67 u_fi_m68 u_la_m69 u_sh_m70 u_ac_m71 u_no_m72 p_eh_m73 p_we_m74 p_hf_m75 lqf_m76 (uI lnf_m77 ((5 * v27) + 2) v82) lhf_m84 v79 v85 v83 (v82 + (-1)))
def f_L_would_L104_b (fu : Nat) (v27 : Int) (k104_ : (Int → Int) → (Int → Int) → (Int → Int) → (Int → Int) → (Int → Int) → (Int → Int) → Int → (Int → Int) → Int → (Int → Int) → (Int → Int) → (Int → Int) → (Int → Int) → Int → Int → Int → Option (Int × (Int → Int) × (Int → Int) × (Int → Int) × (Int → Int) × (Int → Int) × (Int → Int) × Int × (Int → Int) × Int × (Int → Int) × (Int → Int) × (Int → Int) × (Int → Int))) (j104_ : (Int → Int) → (Int → Int) → (Int → Int) → (Int → Int) → (Int → Int) → (Int → Int) → Int → (Int → Int) → Int → (Int → Int) → (Int → Int) → (Int → Int) → (Int → Int) → Int → Int → Int → Int → Option (Int × (Int → Int) × (Int → Int) × (Int → Int) × (Int → Int) × (Int → Int) × (Int → Int) × Int × (Int → Int) × Int × (Int → Int) × (Int → Int) × (Int → Int) × (Int → Int))) (u_se_m66 : Int → Int) (u_tr_m67 : Int → Int) (u_fi_m68 : Int → Int) (u_la_m69 : Int → Int) (u_sh_m70 : Int → Int) (u_ac_m71 : Int → Int) (u_no_m72 : Int) (p_eh_m73 : Int → Int) (p_we_m74 : Int) (p_hf_m75 : Int → Int) (lqf_m76 : Int → Int) (lnf_m77 : Int → Int) (lhf_m78 : Int → Int) (v79 : Int) (v80 : Int) (v81 : Int) (v82 : Int) : Option (Int × (Int → Int) × (Int → Int) × (Int → Int) × (Int → Int) × (Int → Int) × (Int → Int) × Int × (Int → Int) × Int × (Int → Int) × (Int → Int) × (Int → Int) × (Int → Int)) :=
  jck v82 0 (if v82 < 0 then k104_ u_se_m66 u_tr_m67 u_fi_m68 u_la_m69 u_sh_m70 u_ac_m71 u_no_m72 p_eh_m73 p_we_m74 p_hf_m75 lqf_m76 lnf_m77 lhf_m78 v79 v80 v81 else jix 64 ((5 * v27) + 2) (jb2 (f_L_weak fu lqf_m76 (uI lnf_m77 ((5 * v27) + 2) v82) lhf_m78) (fun v83 lhf_m84 => jck v83 v81 (if v81 < v83 then f_L_would_J142 fu v27 u_se_m66 u_tr_m67 u_fi_m68 u_la_m69 u_sh_m70 u_ac_m71 u_no_m72 p_eh_m73 p_we_m74 p_hf_m75 lqf_m76 lnf_m77 v79 v81 v82 v83 lhf_m84 j104_ v80 else f_L_would_J142 fu v27 u_se_m66 u_tr_m67 u_fi_m68 u_la_m69 u_sh_m70 u_ac_m71 u_no_m72 p_eh_m73 p_we_m74 p_hf_m75 lqf_m76 lnf_m77 v79 v81 v82 v83 lhf_m84 j104_ v82))))
def f_L_would_L104 (fu : Nat) (v27 : Int) (k104_ : (Int → Int) → (Int → Int) → (Int → Int) → (Int → Int) → (Int → Int) → (Int → Int) → Int → (Int → Int) → Int → (Int → Int) → (Int → Int) → (Int → Int) → (Int → Int) → Int → Int → Int → Option (Int × (Int → Int) × (Int → Int) × (Int → Int) × (Int → Int) × (Int → Int) × (Int → Int) × Int × (Int → Int) × Int × (Int → Int) × (Int → Int) × (Int → Int) × (Int → Int))) : Nat → (Int → Int) → (Int → Int) → (Int → Int) → (Int → Int) → (Int → Int) → (Int → Int) → Int → (Int → Int) → Int → (Int → Int) → (Int → Int) → (Int → Int) → (Int → Int) → Int → Int → Int → Int → Option (Int × (Int → Int) × (Int → Int) × (Int → Int) × (Int → Int) × (Int → Int) × (Int → Int) × Int × (Int → Int) × Int × (Int → Int) × (Int → Int) × (Int → Int) × (Int → Int))
  | 0 => fun _ _ _ _ _ _ _ _ _ _ _ _ _ _ _ _ _ => none
  | n + 1 => f_L_would_L104_b fu v27 k104_ (f_L_would_L104 fu v27 k104_ n)
def f_L_would_X49 (fu : Nat) (r_se : Int → Int) (r_tr : Int → Int) (r_fi : Int → Int) (r_la : Int → Int) (r_sh : Int → Int) (r_ac : Int → Int) (r_no : Int) (x1 : Int) (u_se_m1 : Int → Int) (u_tr_m2 : Int → Int) (u_fi_m3 : Int → Int) (u_la_m4 : Int → Int) (u_sh_m5 : Int → Int) (u_ac_m6 : Int → Int) (u_no_m7 : Int) (p_eh_m8 : Int → Int) (p_we_m9 : Int) (p_hf_m10 : Int → Int) (lqf_m11 : Int → Int) (lnf_m12 : Int → Int) (lhf_m13 : Int → Int) (v14 : Int) (v15 : Int) : Option (Int × (Int → Int) × (Int → Int) × (Int → Int) × (Int → Int) × (Int → Int) × (Int → Int) × Int × (Int → Int) × Int × (Int → Int) × (Int → Int) × (Int → Int) × (Int → Int)) :=
  jix 5 0 (jb11 (f_X4_greatestRun fu r_se r_tr r_fi r_la r_sh r_ac r_no u_se_m1 u_tr_m2 u_fi_m3 u_la_m4 u_sh_m5 u_ac_m6 u_no_m7 p_eh_m8 p_we_m9 p_hf_m10) (fun v16 u_se_m17 u_tr_m18 u_fi_m19 u_la_m20 u_sh_m21 u_ac_m22 u_no_m23 p_eh_m24 p_we_m25 p_hf_m26 => jck v16 v15 (if v16 = v15 then jix 5 4 (jck ((uI lqf_m11 0 v14) 4) 0 (if ((uI lqf_m11 0 v14) 4) ≠ 0 then jix 5 4 (jb (f_L_low fu x1 ((uI lqf_m11 0 v14) 4)) (fun v27 => jix 64 ((5 * v27) + 2) (f_L_would_L104 fu v27 (f_L_would_X166 fu r_se r_tr r_fi r_la r_sh r_ac r_no v27) fu u_se_m17 u_tr_m18 u_fi_m19 u_la_m20 u_sh_m21 u_ac_m22 u_no_m23 p_eh_m24 p_we_m25 p_hf_m26 (uI lqf_m11 0 v14) lnf_m12 lhf_m13 (lnf_m12 ((5 * v27) + 2)) (-1) 999 12))) else jbo 1 (some (1, u_se_m17, u_tr_m18, u_fi_m19, u_la_m20, u_sh_m21, u_ac_m22, u_no_m23, p_eh_m24, p_we_m25, p_hf_m26, (uI lqf_m11 0 v14), lnf_m12, lhf_m13)))) else jbo 0 (some (0, u_se_m17, u_tr_m18, u_fi_m19, u_la_m20, u_sh_m21, u_ac_m22, u_no_m23, p_eh_m24, p_we_m25, p_hf_m26, (uI lqf_m11 0 v14), lnf_m12, lhf_m13)))))
def f_L_would_L12_b (fu : Nat) (k12_ : (Int → Int) → (Int → Int) → (Int → Int) → (Int → Int) → (Int → Int) → (Int → Int) → Int → (Int → Int) → Int → (Int → Int) → (Int → Int) → (Int → Int) → (Int → Int) → Int → Int → Option (Int × (Int → Int) × (Int → Int) × (Int → Int) × (Int → Int) × (Int → Int) × (Int → Int) × Int × (Int → Int) × Int × (Int → Int) × (Int → Int) × (Int → Int) × (Int → Int))) (j12_ : (Int → Int) → (Int → Int) → (Int → Int) → (Int → Int) → (Int → Int) → (Int → Int) → Int → (Int → Int) → Int → (Int → Int) → (Int → Int) → (Int → Int) → (Int → Int) → Int → Int → Int → Option (Int × (Int → Int) × (Int → Int) × (Int → Int) × (Int → Int) × (Int → Int) × (Int → Int) × Int × (Int → Int) × Int × (Int → Int) × (Int → Int) × (Int → Int) × (Int → Int))) (u_se_m86 : Int → Int) (u_tr_m87 : Int → Int) (u_fi_m88 : Int → Int) (u_la_m89 : Int → Int) (u_sh_m90 : Int → Int) (u_ac_m91 : Int → Int) (u_no_m92 : Int) (p_eh_m93 : Int → Int) (p_we_m94 : Int) (p_hf_m95 : Int → Int) (lqf_m96 : Int → Int) (lnf_m97 : Int → Int) (lhf_m98 : Int → Int) (v99 : Int) (v100 : Int) (v101 : Int) : Option (Int × (Int → Int) × (Int → Int) × (Int → Int) × (Int → Int) × (Int → Int) × (Int → Int) × Int × (Int → Int) × Int × (Int → Int) × (Int → Int) × (Int → Int) × (Int → Int)) :=
  jck v101 10 (if 10 ≤ v101 then k12_ u_se_m86 u_tr_m87 u_fi_m88 u_la_m89 u_sh_m90 u_ac_m91 u_no_m92 p_eh_m93 p_we_m94 p_hf_m95 lqf_m96 lnf_m97 lhf_m98 v99 v100 else jix 5 0 (jb2 (f_L_weak fu (uI lqf_m96 0 v101) lnf_m97 lhf_m98) (fun v102 lhf_m103 => jck v102 0 (if v102 ≠ 0 then j12_ u_se_m86 u_tr_m87 u_fi_m88 u_la_m89 u_sh_m90 u_ac_m91 u_no_m92 p_eh_m93 p_we_m94 p_hf_m95 (uI lqf_m96 0 v101) lnf_m97 lhf_m103 v99 v100 (v101 + 1) else j12_ u_se_m86 u_tr_m87 u_fi_m88 u_la_m89 u_sh_m90 u_ac_m91 u_no_m92 p_eh_m93 p_we_m94 p_hf_m95 (uI lqf_m96 0 v101) lnf_m97 lhf_m103 v99 v101 (v101 + 1)))))
def f_L_would_L12 (fu : Nat) (k12_ : (Int → Int) → (Int → Int) → (Int → Int) → (Int → Int) → (Int → Int) → (Int → Int) → Int → (Int → Int) → Int → (Int → Int) → (Int → Int) → (Int → Int) → (Int → Int) → Int → Int → Option (Int × (Int → Int) × (Int → Int) × (Int → Int) × (Int → Int) × (Int → Int) × (Int → Int) × Int × (Int → Int) × Int × (Int → Int) × (Int → Int) × (Int → Int) × (Int → Int))) : Nat → (Int → Int) → (Int → Int) → (Int → Int) → (Int → Int) → (Int → Int) → (Int → Int) → Int → (Int → Int) → Int → (Int → Int) → (Int → Int) → (Int → Int) → (Int → Int) → Int → Int → Int → Option (Int × (Int → Int) × (Int → Int) × (Int → Int) × (Int → Int) × (Int → Int) × (Int → Int) × Int × (Int → Int) × Int × (Int → Int) × (Int → Int) × (Int → Int) × (Int → Int))
  | 0 => fun _ _ _ _ _ _ _ _ _ _ _ _ _ _ _ _ => none
  | n + 1 => f_L_would_L12_b fu k12_ (f_L_would_L12 fu k12_ n)
def f_L_would (fu : Nat) (r_se : Int → Int) (r_tr : Int → Int) (r_fi : Int → Int) (r_la : Int → Int) (r_sh : Int → Int) (r_ac : Int → Int) (r_no : Int) (u_se : Int → Int) (u_tr : Int → Int) (u_fi : Int → Int) (u_la : Int → Int) (u_sh : Int → Int) (u_ac : Int → Int) (u_no : Int) (p_eh : Int → Int) (p_we : Int) (p_hf : Int → Int) (lqf : Int → Int) (lnf : Int → Int) (lhf : Int → Int) (x1 : Int) : Option (Int × (Int → Int) × (Int → Int) × (Int → Int) × (Int → Int) × (Int → Int) × (Int → Int) × Int × (Int → Int) × Int × (Int → Int) × (Int → Int) × (Int → Int) × (Int → Int)) :=
  jix 5 0 (f_L_would_L12 fu (f_L_would_X49 fu r_se r_tr r_fi r_la r_sh r_ac r_no x1) fu u_se u_tr u_fi u_la u_sh u_ac u_no p_eh p_we p_hf lqf lnf lhf (lqf 0) (-6) 1)
def f_L_law_X1440 (fu : Nat)  (r_se_m1 : Int → Int) (r_tr_m2 : Int → Int) (r_fi_m3 : Int → Int) (r_la_m4 : Int → Int) (r_sh_m5 : Int → Int) (r_ac_m6 : Int → Int) (r_no_m7 : Int) (u_se_m8 : Int → Int) (u_tr_m9 : Int → Int) (u_fi_m10 : Int → Int) (u_la_m11 : Int → Int) (u_sh_m12 : Int → Int) (u_ac_m13 : Int → Int) (u_no_m14 : Int) (p_eh_m15 : Int → Int) (p_we_m16 : Int) (p_hf_m17 : Int → Int) (g_ol_m18 : Int) (g_si_m19 : Int) (k_se_m20 : Int → Int → Int) (k_tr_m21 : Int → Int → Int) (k_fi_m22 : Int → Int → Int) (k_la_m23 : Int → Int → Int) (k_sh_m24 : Int → Int → Int) (k_ac_m25 : Int → Int → Int) (k_no_m26 : Int → Int) (lqf_m27 : Int → Int) (lnf_m28 : Int → Int) (lhf_m29 : Int → Int) : Option (Int × (Int → Int) × (Int → Int) × (Int → Int) × (Int → Int) × (Int → Int) × (Int → Int) × Int × (Int → Int) × (Int → Int) × (Int → Int) × (Int → Int) × (Int → Int) × (Int → Int) × Int × (Int → Int) × Int × (Int → Int) × Int × Int × (Int → Int → Int) × (Int → Int → Int) × (Int → Int → Int) × (Int → Int → Int) × (Int → Int → Int) × (Int → Int → Int) × (Int → Int) × (Int → Int) × (Int → Int) × (Int → Int)) :=
  jbo 1 (some (1, r_se_m1, r_tr_m2, r_fi_m3, r_la_m4, r_sh_m5, r_ac_m6, r_no_m7, u_se_m8, u_tr_m9, u_fi_m10, u_la_m11, u_sh_m12, u_ac_m13, u_no_m14, p_eh_m15, p_we_m16, p_hf_m17, g_ol_m18, g_si_m19, k_se_m20, k_tr_m21, k_fi_m22, k_la_m23, k_sh_m24, k_ac_m25, k_no_m26, lqf_m27, lnf_m28, lhf_m29))
def f_L_law_J1390 (fu : Nat) (d_le : Int) (xc : Int → Int) (v59 : Int) (j42_ : (Int → Int) → (Int → Int) → (Int → Int) → (Int → Int) → (Int → Int) → (Int → Int) → Int → (Int → Int) → (Int → Int) → (Int → Int) → (Int → Int) → (Int → Int) → (Int → Int) → Int → (Int → Int) → Int → (Int → Int) → Int → Int → (Int → Int → Int) → (Int → Int → Int) → (Int → Int → Int) → (Int → Int → Int) → (Int → Int → Int) → (Int → Int → Int) → (Int → Int) → (Int → Int) → (Int → Int) → (Int → Int) → Int → Option (Int × (Int → Int) × (Int → Int) × (Int → Int) × (Int → Int) × (Int → Int) × (Int → Int) × Int × (Int → Int) × (Int → Int) × (Int → Int) × (Int → Int) × (Int → Int) × (Int → Int) × Int × (Int → Int) × Int × (Int → Int) × Int × Int × (Int → Int → Int) × (Int → Int → Int) × (Int → Int → Int) × (Int → Int → Int) × (Int → Int → Int) × (Int → Int → Int) × (Int → Int) × (Int → Int) × (Int → Int) × (Int → Int))) (r_se_m63 : Int → Int) (r_tr_m64 : Int → Int) (r_fi_m65 : Int → Int) (r_la_m66 : Int → Int) (r_sh_m67 : Int → Int) (r_ac_m68 : Int → Int) (r_no_m69 : Int) (u_se_m70 : Int → Int) (u_tr_m71 : Int → Int) (u_fi_m72 : Int → Int) (u_la_m73 : Int → Int) (u_sh_m74 : Int → Int) (u_ac_m75 : Int → Int) (u_no_m76 : Int) (p_eh_m77 : Int → Int) (p_we_m78 : Int) (p_hf_m79 : Int → Int) (g_ol_m80 : Int) (g_si_m81 : Int) (k_se_m82 : Int → Int → Int) (k_tr_m83 : Int → Int → Int) (k_fi_m84 : Int → Int → Int) (k_la_m85 : Int → Int → Int) (k_sh_m86 : Int → Int → Int) (k_ac_m87 : Int → Int → Int) (k_no_m88 : Int → Int) (lqf_m89 : Int → Int) (lnf_m90 : Int → Int) (lhf_m91 : Int → Int) : Option (Int × (Int → Int) × (Int → Int) × (Int → Int) × (Int → Int) × (Int → Int) × (Int → Int) × Int × (Int → Int) × (Int → Int) × (Int → Int) × (Int → Int) × (Int → Int) × (Int → Int) × Int × (Int → Int) × Int × (Int → Int) × Int × Int × (Int → Int → Int) × (Int → Int → Int) × (Int → Int → Int) × (Int → Int → Int) × (Int → Int → Int) × (Int → Int → Int) × (Int → Int) × (Int → Int) × (Int → Int) × (Int → Int)) :=
  jb5 (f_L_same fu r_se_m63 r_tr_m64 r_fi_m65 r_la_m66 r_sh_m67 r_ac_m68 r_no_m69 p_eh_m77 p_we_m78 p_hf_m79 d_le g_si_m81 lqf_m89 lnf_m90 lhf_m91 (jshr (xc v59) 3)) (fun v92 p_eh_m93 p_we_m94 p_hf_m95 lhf_m96 => jck v92 0 (if v92 = 0 then jbo 0 (some (0, r_se_m63, r_tr_m64, r_fi_m65, r_la_m66, r_sh_m67, r_ac_m68, r_no_m69, u_se_m70, u_tr_m71, u_fi_m72, u_la_m73, u_sh_m74, u_ac_m75, u_no_m76, p_eh_m93, p_we_m94, p_hf_m95, g_ol_m80, g_si_m81, k_se_m82, k_tr_m83, k_fi_m84, k_la_m85, k_sh_m86, k_ac_m87, k_no_m88, lqf_m89, lnf_m90, lhf_m96)) else jb (f_L_low fu (jshr (xc v59) 14) 4) (fun v97 => jck v97 0 (if v97 ≠ 0 then j42_ r_se_m63 r_tr_m64 r_fi_m65 r_la_m66 r_sh_m67 r_ac_m68 r_no_m69 u_se_m70 u_tr_m71 u_fi_m72 u_la_m73 u_sh_m74 u_ac_m75 u_no_m76 p_eh_m93 p_we_m94 p_hf_m95 g_ol_m80 g_si_m81 k_se_m82 k_tr_m83 k_fi_m84 k_la_m85 k_sh_m86 k_ac_m87 k_no_m88 lqf_m89 lnf_m90 lhf_m96 (v59 + 1) else jb14 (f_L_would fu r_se_m63 r_tr_m64 r_fi_m65 r_la_m66 r_sh_m67 r_ac_m68 r_no_m69 u_se_m70 u_tr_m71 u_fi_m72 u_la_m73 u_sh_m74 u_ac_m75 u_no_m76 p_eh_m93 p_we_m94 p_hf_m95 lqf_m89 lnf_m90 lhf_m96 (jshr (xc v59) 2)) (fun v98 u_se_m99 u_tr_m100 u_fi_m101 u_la_m102 u_sh_m103 u_ac_m104 u_no_m105 p_eh_m106 p_we_m107 p_hf_m108 lqf_m109 lnf_m110 lhf_m111 => jck v98 0 (if v98 ≠ 0 then j42_ r_se_m63 r_tr_m64 r_fi_m65 r_la_m66 r_sh_m67 r_ac_m68 r_no_m69 u_se_m99 u_tr_m100 u_fi_m101 u_la_m102 u_sh_m103 u_ac_m104 u_no_m105 p_eh_m106 p_we_m107 p_hf_m108 g_ol_m80 g_si_m81 k_se_m82 k_tr_m83 k_fi_m84 k_la_m85 k_sh_m86 k_ac_m87 k_no_m88 lqf_m109 lnf_m110 lhf_m111 (v59 + 1) else jbo 0 (some (0, r_se_m63, r_tr_m64, r_fi_m65, r_la_m66, r_sh_m67, r_ac_m68, r_no_m69, u_se_m99, u_tr_m100, u_fi_m101, u_la_m102, u_sh_m103, u_ac_m104, u_no_m105, p_eh_m106, p_we_m107, p_hf_m108, g_ol_m80, g_si_m81, k_se_m82, k_tr_m83, k_fi_m84, k_la_m85, k_sh_m86, k_ac_m87, k_no_m88, lqf_m109, lnf_m110, lhf_m111))))))))
def f_L_law_J1365 (fu : Nat) (d_le : Int) (xc : Int → Int) (r_se_m30 : Int → Int) (r_tr_m31 : Int → Int) (r_fi_m32 : Int → Int) (r_la_m33 : Int → Int) (r_sh_m34 : Int → Int) (r_ac_m35 : Int → Int) (r_no_m36 : Int) (u_se_m37 : Int → Int) (u_tr_m38 : Int → Int) (u_fi_m39 : Int → Int) (u_la_m40 : Int → Int) (u_sh_m41 : Int → Int) (u_ac_m42 : Int → Int) (u_no_m43 : Int) (p_eh_m44 : Int → Int) (p_we_m45 : Int) (p_hf_m46 : Int → Int) (g_ol_m47 : Int) (g_si_m48 : Int) (lqf_m56 : Int → Int) (lnf_m57 : Int → Int) (lhf_m58 : Int → Int) (v59 : Int) (v112 : Int) (j42_ : (Int → Int) → (Int → Int) → (Int → Int) → (Int → Int) → (Int → Int) → (Int → Int) → Int → (Int → Int) → (Int → Int) → (Int → Int) → (Int → Int) → (Int → Int) → (Int → Int) → Int → (Int → Int) → Int → (Int → Int) → Int → Int → (Int → Int → Int) → (Int → Int → Int) → (Int → Int → Int) → (Int → Int → Int) → (Int → Int → Int) → (Int → Int → Int) → (Int → Int) → (Int → Int) → (Int → Int) → (Int → Int) → Int → Option (Int × (Int → Int) × (Int → Int) × (Int → Int) × (Int → Int) × (Int → Int) × (Int → Int) × Int × (Int → Int) × (Int → Int) × (Int → Int) × (Int → Int) × (Int → Int) × (Int → Int) × Int × (Int → Int) × Int × (Int → Int) × Int × Int × (Int → Int → Int) × (Int → Int → Int) × (Int → Int → Int) × (Int → Int → Int) × (Int → Int → Int) × (Int → Int → Int) × (Int → Int) × (Int → Int) × (Int → Int) × (Int → Int))) (k_se_m49 : Int → Int → Int) (k_tr_m50 : Int → Int → Int) (k_fi_m51 : Int → Int → Int) (k_la_m52 : Int → Int → Int) (k_sh_m53 : Int → Int → Int) (k_ac_m54 : Int → Int → Int) (k_no_m55 : Int → Int) (v113 : Int) : Option (Int × (Int → Int) × (Int → Int) × (Int → Int) × (Int → Int) × (Int → Int) × (Int → Int) × Int × (Int → Int) × (Int → Int) × (Int → Int) × (Int → Int) × (Int → Int) × (Int → Int) × Int × (Int → Int) × Int × (Int → Int) × Int × Int × (Int → Int → Int) × (Int → Int → Int) × (Int → Int → Int) × (Int → Int → Int) × (Int → Int → Int) × (Int → Int → Int) × (Int → Int) × (Int → Int) × (Int → Int) × (Int → Int)) :=
  jb11 (f_X4_set fu r_se_m30 r_tr_m31 r_fi_m32 r_la_m33 r_sh_m34 r_ac_m35 r_no_m36 g_ol_m47 g_si_m48 k_se_m49 k_tr_m50 k_fi_m51 k_la_m52 k_sh_m53 k_ac_m54 k_no_m55 v112 v113) (fun v114 r_se_m115 g_ol_m116 g_si_m117 k_se_m118 k_tr_m119 k_fi_m120 k_la_m121 k_sh_m122 k_ac_m123 k_no_m124 => jix 5 v112 (jck v114 (lqf_m56 v112) (if v114 = (lqf_m56 v112) then jix 5 v112 (f_L_law_J1390 fu d_le xc v59 j42_ r_se_m115 r_tr_m31 r_fi_m32 r_la_m33 r_sh_m34 r_ac_m35 r_no_m36 u_se_m37 u_tr_m38 u_fi_m39 u_la_m40 u_sh_m41 u_ac_m42 u_no_m43 p_eh_m44 p_we_m45 p_hf_m46 g_ol_m116 g_si_m117 k_se_m118 k_tr_m119 k_fi_m120 k_la_m121 k_sh_m122 k_ac_m123 k_no_m124 (uI lqf_m56 v112 v113) lnf_m57 lhf_m58) else jbo 0 (some (0, r_se_m115, r_tr_m31, r_fi_m32, r_la_m33, r_sh_m34, r_ac_m35, r_no_m36, u_se_m37, u_tr_m38, u_fi_m39, u_la_m40, u_sh_m41, u_ac_m42, u_no_m43, p_eh_m44, p_we_m45, p_hf_m46, g_ol_m116, g_si_m117, k_se_m118, k_tr_m119, k_fi_m120, k_la_m121, k_sh_m122, k_ac_m123, k_no_m124, lqf_m56, lnf_m57, lhf_m58)))))
def f_L_law_X1278 (fu : Nat) (d_le : Int) (xc : Int → Int) (v59 : Int) (j42_ : (Int → Int) → (Int → Int) → (Int → Int) → (Int → Int) → (Int → Int) → (Int → Int) → Int → (Int → Int) → (Int → Int) → (Int → Int) → (Int → Int) → (Int → Int) → (Int → Int) → Int → (Int → Int) → Int → (Int → Int) → Int → Int → (Int → Int → Int) → (Int → Int → Int) → (Int → Int → Int) → (Int → Int → Int) → (Int → Int → Int) → (Int → Int → Int) → (Int → Int) → (Int → Int) → (Int → Int) → (Int → Int) → Int → Option (Int × (Int → Int) × (Int → Int) × (Int → Int) × (Int → Int) × (Int → Int) × (Int → Int) × Int × (Int → Int) × (Int → Int) × (Int → Int) × (Int → Int) × (Int → Int) × (Int → Int) × Int × (Int → Int) × Int × (Int → Int) × Int × Int × (Int → Int → Int) × (Int → Int → Int) × (Int → Int → Int) × (Int → Int → Int) × (Int → Int → Int) × (Int → Int → Int) × (Int → Int) × (Int → Int) × (Int → Int) × (Int → Int))) (r_se_m162 : Int → Int) (r_tr_m163 : Int → Int) (r_fi_m164 : Int → Int) (r_la_m165 : Int → Int) (r_sh_m166 : Int → Int) (r_ac_m167 : Int → Int) (r_no_m168 : Int) (u_se_m169 : Int → Int) (u_tr_m170 : Int → Int) (u_fi_m171 : Int → Int) (u_la_m172 : Int → Int) (u_sh_m173 : Int → Int) (u_ac_m174 : Int → Int) (u_no_m175 : Int) (p_eh_m176 : Int → Int) (p_we_m177 : Int) (p_hf_m178 : Int → Int) (g_ol_m179 : Int) (g_si_m180 : Int) (k_se_m181 : Int → Int → Int) (k_tr_m182 : Int → Int → Int) (k_fi_m183 : Int → Int → Int) (k_la_m184 : Int → Int → Int) (k_sh_m185 : Int → Int → Int) (k_ac_m186 : Int → Int → Int) (k_no_m187 : Int → Int) (lqf_m188 : Int → Int) (lnf_m189 : Int → Int) (lhf_m190 : Int → Int) : Option (Int × (Int → Int) × (Int → Int) × (Int → Int) × (Int → Int) × (Int → Int) × (Int → Int) × Int × (Int → Int) × (Int → Int) × (Int → Int) × (Int → Int) × (Int → Int) × (Int → Int) × Int × (Int → Int) × Int × (Int → Int) × Int × Int × (Int → Int → Int) × (Int → Int → Int) × (Int → Int → Int) × (Int → Int → Int) × (Int → Int → Int) × (Int → Int → Int) × (Int → Int) × (Int → Int) × (Int → Int) × (Int → Int)) :=
  jb (f_L_sort fu lqf_m188 lnf_m189) (fun lnf_m191 => f_L_law_J1390 fu d_le xc v59 j42_ r_se_m162 r_tr_m163 r_fi_m164 r_la_m165 r_sh_m166 r_ac_m167 r_no_m168 u_se_m169 u_tr_m170 u_fi_m171 u_la_m172 u_sh_m173 u_ac_m174 u_no_m175 p_eh_m176 p_we_m177 p_hf_m178 g_ol_m179 g_si_m180 k_se_m181 k_tr_m182 k_fi_m183 k_la_m184 k_sh_m185 k_ac_m186 k_no_m187 lqf_m188 lnf_m191 lhf_m190)
def f_L_law_L1177_b (fu : Nat) (v62 : Int) (v130 : Int) (v132 : Int) (v135 : Int) (v136 : Int) (k1177_ : (Int → Int) → (Int → Int) → (Int → Int) → (Int → Int) → (Int → Int) → (Int → Int) → Int → (Int → Int) → (Int → Int) → (Int → Int) → (Int → Int) → (Int → Int) → (Int → Int) → Int → (Int → Int) → Int → (Int → Int) → Int → Int → (Int → Int → Int) → (Int → Int → Int) → (Int → Int → Int) → (Int → Int → Int) → (Int → Int → Int) → (Int → Int → Int) → (Int → Int) → (Int → Int) → (Int → Int) → (Int → Int) → Option (Int × (Int → Int) × (Int → Int) × (Int → Int) × (Int → Int) × (Int → Int) × (Int → Int) × Int × (Int → Int) × (Int → Int) × (Int → Int) × (Int → Int) × (Int → Int) × (Int → Int) × Int × (Int → Int) × Int × (Int → Int) × Int × Int × (Int → Int → Int) × (Int → Int → Int) × (Int → Int → Int) × (Int → Int → Int) × (Int → Int → Int) × (Int → Int → Int) × (Int → Int) × (Int → Int) × (Int → Int) × (Int → Int))) (j1177_ : (Int → Int) → (Int → Int) → (Int → Int) → (Int → Int) → (Int → Int) → (Int → Int) → Int → (Int → Int) → (Int → Int) → (Int → Int) → (Int → Int) → (Int → Int) → (Int → Int) → Int → (Int → Int) → Int → (Int → Int) → Int → Int → (Int → Int → Int) → (Int → Int → Int) → (Int → Int → Int) → (Int → Int → Int) → (Int → Int → Int) → (Int → Int → Int) → (Int → Int) → (Int → Int) → (Int → Int) → (Int → Int) → Int → Option (Int × (Int → Int) × (Int → Int) × (Int → Int) × (Int → Int) × (Int → Int) × (Int → Int) × Int × (Int → Int) × (Int → Int) × (Int → Int) × (Int → Int) × (Int → Int) × (Int → Int) × Int × (Int → Int) × Int × (Int → Int) × Int × Int × (Int → Int → Int) × (Int → Int → Int) × (Int → Int → Int) × (Int → Int → Int) × (Int → Int → Int) × (Int → Int → Int) × (Int → Int) × (Int → Int) × (Int → Int) × (Int → Int))) (r_se_m192 : Int → Int) (r_tr_m193 : Int → Int) (r_fi_m194 : Int → Int) (r_la_m195 : Int → Int) (r_sh_m196 : Int → Int) (r_ac_m197 : Int → Int) (r_no_m198 : Int) (u_se_m199 : Int → Int) (u_tr_m200 : Int → Int) (u_fi_m201 : Int → Int) (u_la_m202 : Int → Int) (u_sh_m203 : Int → Int) (u_ac_m204 : Int → Int) (u_no_m205 : Int) (p_eh_m206 : Int → Int) (p_we_m207 : Int) (p_hf_m208 : Int → Int) (g_ol_m209 : Int) (g_si_m210 : Int) (k_se_m211 : Int → Int → Int) (k_tr_m212 : Int → Int → Int) (k_fi_m213 : Int → Int → Int) (k_la_m214 : Int → Int → Int) (k_sh_m215 : Int → Int → Int) (k_ac_m216 : Int → Int → Int) (k_no_m217 : Int → Int) (lqf_m218 : Int → Int) (lnf_m219 : Int → Int) (lhf_m220 : Int → Int) (v221 : Int) : Option (Int × (Int → Int) × (Int → Int) × (Int → Int) × (Int → Int) × (Int → Int) × (Int → Int) × Int × (Int → Int) × (Int → Int) × (Int → Int) × (Int → Int) × (Int → Int) × (Int → Int) × Int × (Int → Int) × Int × (Int → Int) × Int × Int × (Int → Int → Int) × (Int → Int → Int) × (Int → Int → Int) × (Int → Int → Int) × (Int → Int → Int) × (Int → Int → Int) × (Int → Int) × (Int → Int) × (Int → Int) × (Int → Int)) :=
  jck v221 v136 (if v136 ≤ v221 then k1177_ r_se_m192 r_tr_m193 r_fi_m194 r_la_m195 r_sh_m196 r_ac_m197 r_no_m198 u_se_m199 u_tr_m200 u_fi_m201 u_la_m202 u_sh_m203 u_ac_m204 u_no_m205 p_eh_m206 p_we_m207 p_hf_m208 g_ol_m209 g_si_m210 k_se_m211 k_tr_m212 k_fi_m213 k_la_m214 k_sh_m215 k_ac_m216 k_no_m217 lqf_m218 lnf_m219 lhf_m220 else jck v135 0 (if v135 = 0 then k1177_ r_se_m192 r_tr_m193 r_fi_m194 r_la_m195 r_sh_m196 r_ac_m197 r_no_m198 u_se_m199 u_tr_m200 u_fi_m201 u_la_m202 u_sh_m203 u_ac_m204 u_no_m205 p_eh_m206 p_we_m207 p_hf_m208 g_ol_m209 g_si_m210 k_se_m211 k_tr_m212 k_fi_m213 k_la_m214 k_sh_m215 k_ac_m216 k_no_m217 lqf_m218 lnf_m219 lhf_m220 else jix 64 (5 * v221) (jre (lnf_m219 (5 * v221)) 100 (jck ((lnf_m219 (5 * v221)) / 100) v62 (if ((lnf_m219 (5 * v221)) / 100) < v62 then j1177_ r_se_m192 r_tr_m193 r_fi_m194 r_la_m195 r_sh_m196 r_ac_m197 r_no_m198 u_se_m199 u_tr_m200 u_fi_m201 u_la_m202 u_sh_m203 u_ac_m204 u_no_m205 p_eh_m206 p_we_m207 p_hf_m208 g_ol_m209 g_si_m210 k_se_m211 k_tr_m212 k_fi_m213 k_la_m214 k_sh_m215 k_ac_m216 k_no_m217 lqf_m218 lnf_m219 lhf_m220 (v221 + 1) else jix 64 ((5 * v221) + 1) (jck (lnf_m219 ((5 * v221) + 1)) v132 (if v132 < (lnf_m219 ((5 * v221) + 1)) then j1177_ r_se_m192 r_tr_m193 r_fi_m194 r_la_m195 r_sh_m196 r_ac_m197 r_no_m198 u_se_m199 u_tr_m200 u_fi_m201 u_la_m202 u_sh_m203 u_ac_m204 u_no_m205 p_eh_m206 p_we_m207 p_hf_m208 g_ol_m209 g_si_m210 k_se_m211 k_tr_m212 k_fi_m213 k_la_m214 k_sh_m215 k_ac_m216 k_no_m217 lqf_m218 lnf_m219 lhf_m220 (v221 + 1) else jix 64 (5 * v221) (jre (lnf_m219 (5 * v221)) 100 (jix 64 ((5 * v221) + 1) (jix 64 ((5 * v221) + 2) (jix 64 ((5 * v221) + 3) (jb2 (f_L_add fu lqf_m218 lnf_m219 ((lnf_m219 (5 * v221)) % 100) ((((lnf_m219 (5 * v221)) / 100) + v130) - v62) (((lnf_m219 ((5 * v221) + 1)) + v130) - v62) (lnf_m219 ((5 * v221) + 2)) (lnf_m219 ((5 * v221) + 3))) (fun lqf_m222 lnf_m223 => j1177_ r_se_m192 r_tr_m193 r_fi_m194 r_la_m195 r_sh_m196 r_ac_m197 r_no_m198 u_se_m199 u_tr_m200 u_fi_m201 u_la_m202 u_sh_m203 u_ac_m204 u_no_m205 p_eh_m206 p_we_m207 p_hf_m208 g_ol_m209 g_si_m210 k_se_m211 k_tr_m212 k_fi_m213 k_la_m214 k_sh_m215 k_ac_m216 k_no_m217 lqf_m222 lnf_m223 lhf_m220 (v221 + 1))))))))))))))
def f_L_law_L1177 (fu : Nat) (v62 : Int) (v130 : Int) (v132 : Int) (v135 : Int) (v136 : Int) (k1177_ : (Int → Int) → (Int → Int) → (Int → Int) → (Int → Int) → (Int → Int) → (Int → Int) → Int → (Int → Int) → (Int → Int) → (Int → Int) → (Int → Int) → (Int → Int) → (Int → Int) → Int → (Int → Int) → Int → (Int → Int) → Int → Int → (Int → Int → Int) → (Int → Int → Int) → (Int → Int → Int) → (Int → Int → Int) → (Int → Int → Int) → (Int → Int → Int) → (Int → Int) → (Int → Int) → (Int → Int) → (Int → Int) → Option (Int × (Int → Int) × (Int → Int) × (Int → Int) × (Int → Int) × (Int → Int) × (Int → Int) × Int × (Int → Int) × (Int → Int) × (Int → Int) × (Int → Int) × (Int → Int) × (Int → Int) × Int × (Int → Int) × Int × (Int → Int) × Int × Int × (Int → Int → Int) × (Int → Int → Int) × (Int → Int → Int) × (Int → Int → Int) × (Int → Int → Int) × (Int → Int → Int) × (Int → Int) × (Int → Int) × (Int → Int) × (Int → Int))) : Nat → (Int → Int) → (Int → Int) → (Int → Int) → (Int → Int) → (Int → Int) → (Int → Int) → Int → (Int → Int) → (Int → Int) → (Int → Int) → (Int → Int) → (Int → Int) → (Int → Int) → Int → (Int → Int) → Int → (Int → Int) → Int → Int → (Int → Int → Int) → (Int → Int → Int) → (Int → Int → Int) → (Int → Int → Int) → (Int → Int → Int) → (Int → Int → Int) → (Int → Int) → (Int → Int) → (Int → Int) → (Int → Int) → Int → Option (Int × (Int → Int) × (Int → Int) × (Int → Int) × (Int → Int) × (Int → Int) × (Int → Int) × Int × (Int → Int) × (Int → Int) × (Int → Int) × (Int → Int) × (Int → Int) × (Int → Int) × Int × (Int → Int) × Int × (Int → Int) × Int × Int × (Int → Int → Int) × (Int → Int → Int) × (Int → Int → Int) × (Int → Int → Int) × (Int → Int → Int) × (Int → Int → Int) × (Int → Int) × (Int → Int) × (Int → Int) × (Int → Int))
  | 0 => fun _ _ _ _ _ _ _ _ _ _ _ _ _ _ _ _ _ _ _ _ _ _ _ _ _ _ _ _ _ _ => none
  | n + 1 => f_L_law_L1177_b fu v62 v130 v132 v135 v136 k1177_ (f_L_law_L1177 fu v62 v130 v132 v135 v136 k1177_ n)
def f_L_law_J1169 (fu : Nat) (d_le : Int) (xc : Int → Int) (p_eh_m44 : Int → Int) (p_we_m45 : Int) (p_hf_m46 : Int → Int) (lqf_m56 : Int → Int) (lnf_m57 : Int → Int) (lhf_m58 : Int → Int) (v59 : Int) (v62 : Int) (v130 : Int) (v132 : Int) (v135 : Int) (v136 : Int) (v137 : Int) (r_se_m138 : Int → Int) (r_tr_m139 : Int → Int) (r_fi_m140 : Int → Int) (r_la_m141 : Int → Int) (r_sh_m142 : Int → Int) (r_ac_m143 : Int → Int) (r_no_m144 : Int) (u_se_m145 : Int → Int) (u_tr_m146 : Int → Int) (u_fi_m147 : Int → Int) (u_la_m148 : Int → Int) (u_sh_m149 : Int → Int) (u_ac_m150 : Int → Int) (u_no_m151 : Int) (g_ol_m152 : Int) (g_si_m153 : Int) (j42_ : (Int → Int) → (Int → Int) → (Int → Int) → (Int → Int) → (Int → Int) → (Int → Int) → Int → (Int → Int) → (Int → Int) → (Int → Int) → (Int → Int) → (Int → Int) → (Int → Int) → Int → (Int → Int) → Int → (Int → Int) → Int → Int → (Int → Int → Int) → (Int → Int → Int) → (Int → Int → Int) → (Int → Int → Int) → (Int → Int → Int) → (Int → Int → Int) → (Int → Int) → (Int → Int) → (Int → Int) → (Int → Int) → Int → Option (Int × (Int → Int) × (Int → Int) × (Int → Int) × (Int → Int) × (Int → Int) × (Int → Int) × Int × (Int → Int) × (Int → Int) × (Int → Int) × (Int → Int) × (Int → Int) × (Int → Int) × Int × (Int → Int) × Int × (Int → Int) × Int × Int × (Int → Int → Int) × (Int → Int → Int) × (Int → Int → Int) × (Int → Int → Int) × (Int → Int → Int) × (Int → Int → Int) × (Int → Int) × (Int → Int) × (Int → Int) × (Int → Int))) (k_se_m154 : Int → Int → Int) (k_tr_m155 : Int → Int → Int) (k_fi_m156 : Int → Int → Int) (k_la_m157 : Int → Int → Int) (k_sh_m158 : Int → Int → Int) (k_ac_m159 : Int → Int → Int) (k_no_m160 : Int → Int) (v161 : Int) : Option (Int × (Int → Int) × (Int → Int) × (Int → Int) × (Int → Int) × (Int → Int) × (Int → Int) × Int × (Int → Int) × (Int → Int) × (Int → Int) × (Int → Int) × (Int → Int) × (Int → Int) × Int × (Int → Int) × Int × (Int → Int) × Int × Int × (Int → Int → Int) × (Int → Int → Int) × (Int → Int → Int) × (Int → Int → Int) × (Int → Int → Int) × (Int → Int → Int) × (Int → Int) × (Int → Int) × (Int → Int) × (Int → Int)) :=
  jck v137 v161 (if v137 = v161 then f_L_law_L1177 fu v62 v130 v132 v135 v136 (f_L_law_X1278 fu d_le xc v59 j42_) fu r_se_m138 r_tr_m139 r_fi_m140 r_la_m141 r_sh_m142 r_ac_m143 r_no_m144 u_se_m145 u_tr_m146 u_fi_m147 u_la_m148 u_sh_m149 u_ac_m150 u_no_m151 p_eh_m44 p_we_m45 p_hf_m46 g_ol_m152 g_si_m153 k_se_m154 k_tr_m155 k_fi_m156 k_la_m157 k_sh_m158 k_ac_m159 k_no_m160 lqf_m56 lnf_m57 lhf_m58 0 else jbo 0 (some (0, r_se_m138, r_tr_m139, r_fi_m140, r_la_m141, r_sh_m142, r_ac_m143, r_no_m144, u_se_m145, u_tr_m146, u_fi_m147, u_la_m148, u_sh_m149, u_ac_m150, u_no_m151, p_eh_m44, p_we_m45, p_hf_m46, g_ol_m152, g_si_m153, k_se_m154, k_tr_m155, k_fi_m156, k_la_m157, k_sh_m158, k_ac_m159, k_no_m160, lqf_m56, lnf_m57, lhf_m58)))
def f_L_law_X1129 (fu : Nat) (d_le : Int) (xc : Int → Int) (r_se_m30 : Int → Int) (r_tr_m31 : Int → Int) (r_fi_m32 : Int → Int) (r_la_m33 : Int → Int) (r_sh_m34 : Int → Int) (r_ac_m35 : Int → Int) (r_no_m36 : Int) (u_se_m37 : Int → Int) (u_tr_m38 : Int → Int) (u_fi_m39 : Int → Int) (u_la_m40 : Int → Int) (u_sh_m41 : Int → Int) (u_ac_m42 : Int → Int) (u_no_m43 : Int) (p_eh_m44 : Int → Int) (p_we_m45 : Int) (p_hf_m46 : Int → Int) (g_ol_m47 : Int) (g_si_m48 : Int) (lqf_m56 : Int → Int) (lnf_m57 : Int → Int) (lhf_m58 : Int → Int) (v59 : Int) (v62 : Int) (v130 : Int) (j42_ : (Int → Int) → (Int → Int) → (Int → Int) → (Int → Int) → (Int → Int) → (Int → Int) → Int → (Int → Int) → (Int → Int) → (Int → Int) → (Int → Int) → (Int → Int) → (Int → Int) → Int → (Int → Int) → Int → (Int → Int) → Int → Int → (Int → Int → Int) → (Int → Int → Int) → (Int → Int → Int) → (Int → Int → Int) → (Int → Int → Int) → (Int → Int → Int) → (Int → Int) → (Int → Int) → (Int → Int) → (Int → Int) → Int → Option (Int × (Int → Int) × (Int → Int) × (Int → Int) × (Int → Int) × (Int → Int) × (Int → Int) × Int × (Int → Int) × (Int → Int) × (Int → Int) × (Int → Int) × (Int → Int) × (Int → Int) × Int × (Int → Int) × Int × (Int → Int) × Int × Int × (Int → Int → Int) × (Int → Int → Int) × (Int → Int → Int) × (Int → Int → Int) × (Int → Int → Int) × (Int → Int → Int) × (Int → Int) × (Int → Int) × (Int → Int) × (Int → Int))) (k_se_m49 : Int → Int → Int) (k_tr_m50 : Int → Int → Int) (k_fi_m51 : Int → Int → Int) (k_la_m52 : Int → Int → Int) (k_sh_m53 : Int → Int → Int) (k_ac_m54 : Int → Int → Int) (k_no_m55 : Int → Int) (v131 : Int) (v132 : Int) (v133 : Int) (v134 : Int) (v135 : Int) (v136 : Int) : Option (Int × (Int → Int) × (Int → Int) × (Int → Int) × (Int → Int) × (Int → Int) × (Int → Int) × Int × (Int → Int) × (Int → Int) × (Int → Int) × (Int → Int) × (Int → Int) × (Int → Int) × Int × (Int → Int) × Int × (Int → Int) × Int × Int × (Int → Int → Int) × (Int → Int → Int) × (Int → Int → Int) × (Int → Int → Int) × (Int → Int → Int) × (Int → Int → Int) × (Int → Int) × (Int → Int) × (Int → Int) × (Int → Int)) :=
  jck v134 0 (if v134 ≠ 0 then j42_ r_se_m30 r_tr_m31 r_fi_m32 r_la_m33 r_sh_m34 r_ac_m35 r_no_m36 u_se_m37 u_tr_m38 u_fi_m39 u_la_m40 u_sh_m41 u_ac_m42 u_no_m43 p_eh_m44 p_we_m45 p_hf_m46 g_ol_m47 g_si_m48 k_se_m49 k_tr_m50 k_fi_m51 k_la_m52 k_sh_m53 k_ac_m54 k_no_m55 lqf_m56 lnf_m57 lhf_m58 (v59 + 1) else jck (v136 + v133) 12 (if (v136 + v133) ≤ 12 then jb24 (f_X4_copy fu r_se_m30 r_tr_m31 r_fi_m32 r_la_m33 r_sh_m34 r_ac_m35 r_no_m36 u_se_m37 u_tr_m38 u_fi_m39 u_la_m40 u_sh_m41 u_ac_m42 u_no_m43 g_ol_m47 g_si_m48 k_se_m49 k_tr_m50 k_fi_m51 k_la_m52 k_sh_m53 k_ac_m54 k_no_m55 v62 v132 v130) (fun v137 r_se_m138 r_tr_m139 r_fi_m140 r_la_m141 r_sh_m142 r_ac_m143 r_no_m144 u_se_m145 u_tr_m146 u_fi_m147 u_la_m148 u_sh_m149 u_ac_m150 u_no_m151 g_ol_m152 g_si_m153 k_se_m154 k_tr_m155 k_fi_m156 k_la_m157 k_sh_m158 k_ac_m159 k_no_m160 => jck v135 0 (if v135 = 0 then f_L_law_J1169 fu d_le xc p_eh_m44 p_we_m45 p_hf_m46 lqf_m56 lnf_m57 lhf_m58 v59 v62 v130 v132 v135 v136 v137 r_se_m138 r_tr_m139 r_fi_m140 r_la_m141 r_sh_m142 r_ac_m143 r_no_m144 u_se_m145 u_tr_m146 u_fi_m147 u_la_m148 u_sh_m149 u_ac_m150 u_no_m151 g_ol_m152 g_si_m153 j42_ k_se_m154 k_tr_m155 k_fi_m156 k_la_m157 k_sh_m158 k_ac_m159 k_no_m160 (-5) else f_L_law_J1169 fu d_le xc p_eh_m44 p_we_m45 p_hf_m46 lqf_m56 lnf_m57 lhf_m58 v59 v62 v130 v132 v135 v136 v137 r_se_m138 r_tr_m139 r_fi_m140 r_la_m141 r_sh_m142 r_ac_m143 r_no_m144 u_se_m145 u_tr_m146 u_fi_m147 u_la_m148 u_sh_m149 u_ac_m150 u_no_m151 g_ol_m152 g_si_m153 j42_ k_se_m154 k_tr_m155 k_fi_m156 k_la_m157 k_sh_m158 k_ac_m159 k_no_m160 v133)) else j42_ r_se_m30 r_tr_m31 r_fi_m32 r_la_m33 r_sh_m34 r_ac_m35 r_no_m36 u_se_m37 u_tr_m38 u_fi_m39 u_la_m40 u_sh_m41 u_ac_m42 u_no_m43 p_eh_m44 p_we_m45 p_hf_m46 g_ol_m47 g_si_m48 k_se_m49 k_tr_m50 k_fi_m51 k_la_m52 k_sh_m53 k_ac_m54 k_no_m55 lqf_m56 lnf_m57 lhf_m58 (v59 + 1)))
def f_L_law_J1063 (fu : Nat) (lqf_m56 : Int → Int) (lnf_m57 : Int → Int) (v62 : Int) (v130 : Int) (v224 : Int) (v225 : Int) (v226 : Int) (v228 : Int) (v229 : Int) (v230 : Int) (j994_ : Int → Int → Int → Int → Int → Int → Int → Option (Int × (Int → Int) × (Int → Int) × (Int → Int) × (Int → Int) × (Int → Int) × (Int → Int) × Int × (Int → Int) × (Int → Int) × (Int → Int) × (Int → Int) × (Int → Int) × (Int → Int) × Int × (Int → Int) × Int × (Int → Int) × Int × Int × (Int → Int → Int) × (Int → Int → Int) × (Int → Int → Int) × (Int → Int → Int) × (Int → Int → Int) × (Int → Int → Int) × (Int → Int) × (Int → Int) × (Int → Int) × (Int → Int))) (v231 : Int) : Option (Int × (Int → Int) × (Int → Int) × (Int → Int) × (Int → Int) × (Int → Int) × (Int → Int) × Int × (Int → Int) × (Int → Int) × (Int → Int) × (Int → Int) × (Int → Int) × (Int → Int) × Int × (Int → Int) × Int × (Int → Int) × Int × Int × (Int → Int → Int) × (Int → Int → Int) × (Int → Int → Int) × (Int → Int → Int) × (Int → Int → Int) × (Int → Int → Int) × (Int → Int) × (Int → Int) × (Int → Int) × (Int → Int)) :=
  jck v228 0 (if v228 = 0 then j994_ v224 v225 (v226 + 1) v231 0 v229 (v230 + 1) else jix 64 (5 * v230) (jre (lnf_m57 (5 * v230)) 100 (jix 64 (5 * v230) (jre (lnf_m57 (5 * v230)) 100 (jix 64 ((5 * v230) + 1) (jb (f_L_taken fu lqf_m56 lnf_m57 ((lnf_m57 (5 * v230)) % 100) ((((lnf_m57 (5 * v230)) / 100) + v130) - v62) (((lnf_m57 ((5 * v230) + 1)) + v130) - v62)) (fun v232 => jck v232 0 (if v232 ≠ 0 then j994_ v224 v225 (v226 + 1) v231 0 v229 (v230 + 1) else j994_ v224 v225 (v226 + 1) v231 1 v229 (v230 + 1)))))))))
def f_L_law_J1058 (fu : Nat) (lqf_m56 : Int → Int) (lnf_m57 : Int → Int) (v62 : Int) (v130 : Int) (v224 : Int) (v225 : Int) (v226 : Int) (v228 : Int) (v229 : Int) (v230 : Int) (j994_ : Int → Int → Int → Int → Int → Int → Int → Option (Int × (Int → Int) × (Int → Int) × (Int → Int) × (Int → Int) × (Int → Int) × (Int → Int) × Int × (Int → Int) × (Int → Int) × (Int → Int) × (Int → Int) × (Int → Int) × (Int → Int) × Int × (Int → Int) × Int × (Int → Int) × Int × Int × (Int → Int → Int) × (Int → Int → Int) × (Int → Int → Int) × (Int → Int → Int) × (Int → Int → Int) × (Int → Int → Int) × (Int → Int) × (Int → Int) × (Int → Int) × (Int → Int)))  : Option (Int × (Int → Int) × (Int → Int) × (Int → Int) × (Int → Int) × (Int → Int) × (Int → Int) × Int × (Int → Int) × (Int → Int) × (Int → Int) × (Int → Int) × (Int → Int) × (Int → Int) × Int × (Int → Int) × Int × (Int → Int) × Int × Int × (Int → Int → Int) × (Int → Int → Int) × (Int → Int → Int) × (Int → Int → Int) × (Int → Int → Int) × (Int → Int → Int) × (Int → Int) × (Int → Int) × (Int → Int) × (Int → Int)) :=
  f_L_law_J1063 fu lqf_m56 lnf_m57 v62 v130 v224 v225 v226 v228 v229 v230 j994_ 1
def f_L_law_L994_b (fu : Nat) (lqf_m56 : Int → Int) (lnf_m57 : Int → Int) (v62 : Int) (v130 : Int) (k994_ : Int → Int → Int → Int → Int → Int → Option (Int × (Int → Int) × (Int → Int) × (Int → Int) × (Int → Int) × (Int → Int) × (Int → Int) × Int × (Int → Int) × (Int → Int) × (Int → Int) × (Int → Int) × (Int → Int) × (Int → Int) × Int × (Int → Int) × Int × (Int → Int) × Int × Int × (Int → Int → Int) × (Int → Int → Int) × (Int → Int → Int) × (Int → Int → Int) × (Int → Int → Int) × (Int → Int → Int) × (Int → Int) × (Int → Int) × (Int → Int) × (Int → Int))) (j994_ : Int → Int → Int → Int → Int → Int → Int → Option (Int × (Int → Int) × (Int → Int) × (Int → Int) × (Int → Int) × (Int → Int) × (Int → Int) × Int × (Int → Int) × (Int → Int) × (Int → Int) × (Int → Int) × (Int → Int) × (Int → Int) × Int × (Int → Int) × Int × (Int → Int) × Int × Int × (Int → Int → Int) × (Int → Int → Int) × (Int → Int → Int) × (Int → Int → Int) × (Int → Int → Int) × (Int → Int → Int) × (Int → Int) × (Int → Int) × (Int → Int) × (Int → Int))) (v224 : Int) (v225 : Int) (v226 : Int) (v227 : Int) (v228 : Int) (v229 : Int) (v230 : Int) : Option (Int × (Int → Int) × (Int → Int) × (Int → Int) × (Int → Int) × (Int → Int) × (Int → Int) × Int × (Int → Int) × (Int → Int) × (Int → Int) × (Int → Int) × (Int → Int) × (Int → Int) × Int × (Int → Int) × Int × (Int → Int) × Int × Int × (Int → Int → Int) × (Int → Int → Int) × (Int → Int → Int) × (Int → Int → Int) × (Int → Int → Int) × (Int → Int → Int) × (Int → Int) × (Int → Int) × (Int → Int) × (Int → Int)) :=
  jck v230 v229 (if v229 ≤ v230 then k994_ v224 v225 v226 v227 v228 v229 else jix 64 (5 * v230) (jre (lnf_m57 (5 * v230)) 100 (jck ((lnf_m57 (5 * v230)) / 100) v62 (if ((lnf_m57 (5 * v230)) / 100) < v62 then j994_ v224 v225 v226 v227 v228 v229 (v230 + 1) else jix 64 ((5 * v230) + 1) (jck (lnf_m57 ((5 * v230) + 1)) v225 (if (lnf_m57 ((5 * v230) + 1)) ≤ v225 then jck v227 0 (if v227 ≠ 0 then f_L_law_J1058 fu lqf_m56 lnf_m57 v62 v130 v224 v225 v226 v228 v229 v230 j994_ else jix 64 ((5 * v230) + 1) (jck (((lnf_m57 ((5 * v230) + 1)) + v130) - v62) 59 (if (((lnf_m57 ((5 * v230) + 1)) + v130) - v62) ≤ 59 then f_L_law_J1063 fu lqf_m56 lnf_m57 v62 v130 v224 v225 v226 v228 v229 v230 j994_ 0 else f_L_law_J1058 fu lqf_m56 lnf_m57 v62 v130 v224 v225 v226 v228 v229 v230 j994_))) else j994_ v224 v225 v226 v227 v228 v229 (v230 + 1)))))))
def f_L_law_L994 (fu : Nat) (lqf_m56 : Int → Int) (lnf_m57 : Int → Int) (v62 : Int) (v130 : Int) (k994_ : Int → Int → Int → Int → Int → Int → Option (Int × (Int → Int) × (Int → Int) × (Int → Int) × (Int → Int) × (Int → Int) × (Int → Int) × Int × (Int → Int) × (Int → Int) × (Int → Int) × (Int → Int) × (Int → Int) × (Int → Int) × Int × (Int → Int) × Int × (Int → Int) × Int × Int × (Int → Int → Int) × (Int → Int → Int) × (Int → Int → Int) × (Int → Int → Int) × (Int → Int → Int) × (Int → Int → Int) × (Int → Int) × (Int → Int) × (Int → Int) × (Int → Int))) : Nat → Int → Int → Int → Int → Int → Int → Int → Option (Int × (Int → Int) × (Int → Int) × (Int → Int) × (Int → Int) × (Int → Int) × (Int → Int) × Int × (Int → Int) × (Int → Int) × (Int → Int) × (Int → Int) × (Int → Int) × (Int → Int) × Int × (Int → Int) × Int × (Int → Int) × Int × Int × (Int → Int → Int) × (Int → Int → Int) × (Int → Int → Int) × (Int → Int → Int) × (Int → Int → Int) × (Int → Int → Int) × (Int → Int) × (Int → Int) × (Int → Int) × (Int → Int))
  | 0 => fun _ _ _ _ _ _ _ => none
  | n + 1 => f_L_law_L994_b fu lqf_m56 lnf_m57 v62 v130 k994_ (f_L_law_L994 fu lqf_m56 lnf_m57 v62 v130 k994_ n)
def f_L_law_X911 (fu : Nat) (d_le : Int) (xc : Int → Int) (v59 : Int) (v62 : Int) (j42_ : (Int → Int) → (Int → Int) → (Int → Int) → (Int → Int) → (Int → Int) → (Int → Int) → Int → (Int → Int) → (Int → Int) → (Int → Int) → (Int → Int) → (Int → Int) → (Int → Int) → Int → (Int → Int) → Int → (Int → Int) → Int → Int → (Int → Int → Int) → (Int → Int → Int) → (Int → Int → Int) → (Int → Int → Int) → (Int → Int → Int) → (Int → Int → Int) → (Int → Int) → (Int → Int) → (Int → Int) → (Int → Int) → Int → Option (Int × (Int → Int) × (Int → Int) × (Int → Int) × (Int → Int) × (Int → Int) × (Int → Int) × Int × (Int → Int) × (Int → Int) × (Int → Int) × (Int → Int) × (Int → Int) × (Int → Int) × Int × (Int → Int) × Int × (Int → Int) × Int × Int × (Int → Int → Int) × (Int → Int → Int) × (Int → Int → Int) × (Int → Int → Int) × (Int → Int → Int) × (Int → Int → Int) × (Int → Int) × (Int → Int) × (Int → Int) × (Int → Int))) (r_se_m234 : Int → Int) (r_tr_m235 : Int → Int) (r_fi_m236 : Int → Int) (r_la_m237 : Int → Int) (r_sh_m238 : Int → Int) (r_ac_m239 : Int → Int) (r_no_m240 : Int) (u_se_m241 : Int → Int) (u_tr_m242 : Int → Int) (u_fi_m243 : Int → Int) (u_la_m244 : Int → Int) (u_sh_m245 : Int → Int) (u_ac_m246 : Int → Int) (u_no_m247 : Int) (p_eh_m248 : Int → Int) (p_we_m249 : Int) (p_hf_m250 : Int → Int) (g_ol_m251 : Int) (g_si_m252 : Int) (k_se_m253 : Int → Int → Int) (k_tr_m254 : Int → Int → Int) (k_fi_m255 : Int → Int → Int) (k_la_m256 : Int → Int → Int) (k_sh_m257 : Int → Int → Int) (k_ac_m258 : Int → Int → Int) (k_no_m259 : Int → Int) (lqf_m260 : Int → Int) (lnf_m261 : Int → Int) (lhf_m262 : Int → Int) (v263 : Int) (v264 : Int) (v265 : Int) : Option (Int × (Int → Int) × (Int → Int) × (Int → Int) × (Int → Int) × (Int → Int) × (Int → Int) × Int × (Int → Int) × (Int → Int) × (Int → Int) × (Int → Int) × (Int → Int) × (Int → Int) × Int × (Int → Int) × Int × (Int → Int) × Int × Int × (Int → Int → Int) × (Int → Int → Int) × (Int → Int → Int) × (Int → Int → Int) × (Int → Int → Int) × (Int → Int → Int) × (Int → Int) × (Int → Int) × (Int → Int) × (Int → Int)) :=
  jb24 (f_X4_cut fu r_se_m234 r_tr_m235 r_fi_m236 r_la_m237 r_sh_m238 r_ac_m239 r_no_m240 u_se_m241 u_tr_m242 u_fi_m243 u_la_m244 u_sh_m245 u_ac_m246 u_no_m247 g_ol_m251 g_si_m252 k_se_m253 k_tr_m254 k_fi_m255 k_la_m256 k_sh_m257 k_ac_m258 k_no_m259 v62 v264) (fun v266 r_se_m267 r_tr_m268 r_fi_m269 r_la_m270 r_sh_m271 r_ac_m272 r_no_m273 u_se_m274 u_tr_m275 u_fi_m276 u_la_m277 u_sh_m278 u_ac_m279 u_no_m280 g_ol_m281 g_si_m282 k_se_m283 k_tr_m284 k_fi_m285 k_la_m286 k_sh_m287 k_ac_m288 k_no_m289 => jix 5 4 (jck v266 ((lqf_m260 4) - v265) (if v266 = ((lqf_m260 4) - v265) then jix 5 4 (jb (f_L_sort fu (uI lqf_m260 4 v265) lnf_m261) (fun lnf_m290 => f_L_law_J1390 fu d_le xc v59 j42_ r_se_m267 r_tr_m268 r_fi_m269 r_la_m270 r_sh_m271 r_ac_m272 r_no_m273 u_se_m274 u_tr_m275 u_fi_m276 u_la_m277 u_sh_m278 u_ac_m279 u_no_m280 p_eh_m248 p_we_m249 p_hf_m250 g_ol_m281 g_si_m282 k_se_m283 k_tr_m284 k_fi_m285 k_la_m286 k_sh_m287 k_ac_m288 k_no_m289 (uI lqf_m260 4 v265) lnf_m290 lhf_m262)) else jbo 0 (some (0, r_se_m267, r_tr_m268, r_fi_m269, r_la_m270, r_sh_m271, r_ac_m272, r_no_m273, u_se_m274, u_tr_m275, u_fi_m276, u_la_m277, u_sh_m278, u_ac_m279, u_no_m280, p_eh_m248, p_we_m249, p_hf_m250, g_ol_m281, g_si_m282, k_se_m283, k_tr_m284, k_fi_m285, k_la_m286, k_sh_m287, k_ac_m288, k_no_m289, lqf_m260, lnf_m261, lhf_m262)))))
def f_L_law_X827 (fu : Nat) (r_se_m291 : Int → Int) (r_tr_m292 : Int → Int) (r_fi_m293 : Int → Int) (r_la_m294 : Int → Int) (r_sh_m295 : Int → Int) (r_ac_m296 : Int → Int) (r_no_m297 : Int) (u_se_m298 : Int → Int) (u_tr_m299 : Int → Int) (u_fi_m300 : Int → Int) (u_la_m301 : Int → Int) (u_sh_m302 : Int → Int) (u_ac_m303 : Int → Int) (u_no_m304 : Int) (p_eh_m305 : Int → Int) (p_we_m306 : Int) (p_hf_m307 : Int → Int) (g_ol_m308 : Int) (g_si_m309 : Int) (lqf_m317 : Int → Int) (lnf_m318 : Int → Int) (lhf_m319 : Int → Int) (v320 : Int) (v321 : Int) (v322 : Int) (v323 : Int) (k_se_m310 : Int → Int → Int) (k_tr_m311 : Int → Int → Int) (k_fi_m312 : Int → Int → Int) (k_la_m313 : Int → Int → Int) (k_sh_m314 : Int → Int → Int) (k_ac_m315 : Int → Int → Int) (k_no_m316 : Int → Int) (j726_ : (Int → Int) → (Int → Int) → (Int → Int) → (Int → Int) → (Int → Int) → (Int → Int) → Int → (Int → Int) → (Int → Int) → (Int → Int) → (Int → Int) → (Int → Int) → (Int → Int) → Int → (Int → Int) → Int → (Int → Int) → Int → Int → (Int → Int → Int) → (Int → Int → Int) → (Int → Int → Int) → (Int → Int → Int) → (Int → Int → Int) → (Int → Int → Int) → (Int → Int) → (Int → Int) → (Int → Int) → (Int → Int) → Int → Int → Int → Int → Option (Int × (Int → Int) × (Int → Int) × (Int → Int) × (Int → Int) × (Int → Int) × (Int → Int) × Int × (Int → Int) × (Int → Int) × (Int → Int) × (Int → Int) × (Int → Int) × (Int → Int) × Int × (Int → Int) × Int × (Int → Int) × Int × Int × (Int → Int → Int) × (Int → Int → Int) × (Int → Int → Int) × (Int → Int → Int) × (Int → Int → Int) × (Int → Int → Int) × (Int → Int) × (Int → Int) × (Int → Int) × (Int → Int))) (v324 : Int) (v325 : Int) : Option (Int × (Int → Int) × (Int → Int) × (Int → Int) × (Int → Int) × (Int → Int) × (Int → Int) × Int × (Int → Int) × (Int → Int) × (Int → Int) × (Int → Int) × (Int → Int) × (Int → Int) × Int × (Int → Int) × Int × (Int → Int) × Int × Int × (Int → Int → Int) × (Int → Int → Int) × (Int → Int → Int) × (Int → Int → Int) × (Int → Int → Int) × (Int → Int → Int) × (Int → Int) × (Int → Int) × (Int → Int) × (Int → Int)) :=
  jck v324 0 (if 0 ≤ v324 then jix 64 (5 * v323) (jre (lnf_m318 (5 * v323)) 100 (jix 64 ((5 * v323) + 2) (jix 64 ((5 * v322) + 2) (jix 64 ((5 * v323) + 3) (jix 64 ((5 * v322) + 3) (jix 64 (5 * v322) (jix 64 ((5 * v322) + 1) (j726_ r_se_m291 r_tr_m292 r_fi_m293 r_la_m294 r_sh_m295 r_ac_m296 r_no_m297 u_se_m298 u_tr_m299 u_fi_m300 u_la_m301 u_sh_m302 u_ac_m303 u_no_m304 p_eh_m305 p_we_m306 p_hf_m307 g_ol_m308 g_si_m309 k_se_m310 k_tr_m311 k_fi_m312 k_la_m313 k_sh_m314 k_ac_m315 k_no_m316 lqf_m317 (uI (uI (uI (uI lnf_m318 ((5 * v322) + 2) (lnf_m318 ((5 * v323) + 2))) ((5 * v322) + 3) ((uI lnf_m318 ((5 * v322) + 2) (lnf_m318 ((5 * v323) + 2))) ((5 * v323) + 3))) (5 * v322) ((100 * v324) + ((lnf_m318 (5 * v323)) % 100))) ((5 * v322) + 1) v325) lhf_m319 v320 v321 (v322 + 1) (v323 + 1))))))))) else j726_ r_se_m291 r_tr_m292 r_fi_m293 r_la_m294 r_sh_m295 r_ac_m296 r_no_m297 u_se_m298 u_tr_m299 u_fi_m300 u_la_m301 u_sh_m302 u_ac_m303 u_no_m304 p_eh_m305 p_we_m306 p_hf_m307 g_ol_m308 g_si_m309 k_se_m310 k_tr_m311 k_fi_m312 k_la_m313 k_sh_m314 k_ac_m315 k_no_m316 lqf_m317 lnf_m318 lhf_m319 v320 v321 v322 (v323 + 1))
def f_L_law_J801 (fu : Nat) (v326 : Int) (v328 : Int) (j751_ : Int → Int → Int → Option (Int × (Int → Int) × (Int → Int) × (Int → Int) × (Int → Int) × (Int → Int) × (Int → Int) × Int × (Int → Int) × (Int → Int) × (Int → Int) × (Int → Int) × (Int → Int) × (Int → Int) × Int × (Int → Int) × Int × (Int → Int) × Int × Int × (Int → Int → Int) × (Int → Int → Int) × (Int → Int → Int) × (Int → Int → Int) × (Int → Int → Int) × (Int → Int → Int) × (Int → Int) × (Int → Int) × (Int → Int) × (Int → Int))) (v329 : Int) : Option (Int × (Int → Int) × (Int → Int) × (Int → Int) × (Int → Int) × (Int → Int) × (Int → Int) × Int × (Int → Int) × (Int → Int) × (Int → Int) × (Int → Int) × (Int → Int) × (Int → Int) × Int × (Int → Int) × Int × (Int → Int) × Int × Int × (Int → Int → Int) × (Int → Int → Int) × (Int → Int → Int) × (Int → Int → Int) × (Int → Int → Int) × (Int → Int → Int) × (Int → Int) × (Int → Int) × (Int → Int) × (Int → Int)) :=
  jck v326 0 (if 0 ≤ v326 then j751_ v326 v329 (v328 + 1) else j751_ v329 v329 (v328 + 1))
def f_L_law_J784 (fu : Nat) (v62 : Int) (v321 : Int) (v326 : Int) (v328 : Int) (j751_ : Int → Int → Int → Option (Int × (Int → Int) × (Int → Int) × (Int → Int) × (Int → Int) × (Int → Int) × (Int → Int) × Int × (Int → Int) × (Int → Int) × (Int → Int) × (Int → Int) × (Int → Int) × (Int → Int) × Int × (Int → Int) × Int × (Int → Int) × Int × Int × (Int → Int → Int) × (Int → Int → Int) × (Int → Int → Int) × (Int → Int → Int) × (Int → Int → Int) × (Int → Int → Int) × (Int → Int) × (Int → Int) × (Int → Int) × (Int → Int)))  : Option (Int × (Int → Int) × (Int → Int) × (Int → Int) × (Int → Int) × (Int → Int) × (Int → Int) × Int × (Int → Int) × (Int → Int) × (Int → Int) × (Int → Int) × (Int → Int) × (Int → Int) × Int × (Int → Int) × Int × (Int → Int) × Int × Int × (Int → Int → Int) × (Int → Int → Int) × (Int → Int → Int) × (Int → Int → Int) × (Int → Int → Int) × (Int → Int → Int) × (Int → Int) × (Int → Int) × (Int → Int) × (Int → Int)) :=
  jck v328 v62 (if v62 ≤ v328 then f_L_law_J801 fu v326 v328 j751_ (v328 - v321) else f_L_law_J801 fu v326 v328 j751_ v328)
def f_L_law_L751_b (fu : Nat) (v62 : Int) (lnf_m318 : Int → Int) (v321 : Int) (v323 : Int) (k751_ : Int → Int → Option (Int × (Int → Int) × (Int → Int) × (Int → Int) × (Int → Int) × (Int → Int) × (Int → Int) × Int × (Int → Int) × (Int → Int) × (Int → Int) × (Int → Int) × (Int → Int) × (Int → Int) × Int × (Int → Int) × Int × (Int → Int) × Int × Int × (Int → Int → Int) × (Int → Int → Int) × (Int → Int → Int) × (Int → Int → Int) × (Int → Int → Int) × (Int → Int → Int) × (Int → Int) × (Int → Int) × (Int → Int) × (Int → Int))) (j751_ : Int → Int → Int → Option (Int × (Int → Int) × (Int → Int) × (Int → Int) × (Int → Int) × (Int → Int) × (Int → Int) × Int × (Int → Int) × (Int → Int) × (Int → Int) × (Int → Int) × (Int → Int) × (Int → Int) × Int × (Int → Int) × Int × (Int → Int) × Int × Int × (Int → Int → Int) × (Int → Int → Int) × (Int → Int → Int) × (Int → Int → Int) × (Int → Int → Int) × (Int → Int → Int) × (Int → Int) × (Int → Int) × (Int → Int) × (Int → Int))) (v326 : Int) (v327 : Int) (v328 : Int) : Option (Int × (Int → Int) × (Int → Int) × (Int → Int) × (Int → Int) × (Int → Int) × (Int → Int) × Int × (Int → Int) × (Int → Int) × (Int → Int) × (Int → Int) × (Int → Int) × (Int → Int) × Int × (Int → Int) × Int × (Int → Int) × Int × Int × (Int → Int → Int) × (Int → Int → Int) × (Int → Int → Int) × (Int → Int → Int) × (Int → Int → Int) × (Int → Int → Int) × (Int → Int) × (Int → Int) × (Int → Int) × (Int → Int)) :=
  jix 64 ((5 * v323) + 1) (jck v328 (lnf_m318 ((5 * v323) + 1)) (if (lnf_m318 ((5 * v323) + 1)) < v328 then k751_ v326 v327 else jck v328 v62 (if v328 < v62 then f_L_law_J784 fu v62 v321 v326 v328 j751_ else jck v328 (v62 + v321) (if (v62 + v321) ≤ v328 then f_L_law_J784 fu v62 v321 v326 v328 j751_ else j751_ v326 v327 (v328 + 1)))))
def f_L_law_L751 (fu : Nat) (v62 : Int) (lnf_m318 : Int → Int) (v321 : Int) (v323 : Int) (k751_ : Int → Int → Option (Int × (Int → Int) × (Int → Int) × (Int → Int) × (Int → Int) × (Int → Int) × (Int → Int) × Int × (Int → Int) × (Int → Int) × (Int → Int) × (Int → Int) × (Int → Int) × (Int → Int) × Int × (Int → Int) × Int × (Int → Int) × Int × Int × (Int → Int → Int) × (Int → Int → Int) × (Int → Int → Int) × (Int → Int → Int) × (Int → Int → Int) × (Int → Int → Int) × (Int → Int) × (Int → Int) × (Int → Int) × (Int → Int))) : Nat → Int → Int → Int → Option (Int × (Int → Int) × (Int → Int) × (Int → Int) × (Int → Int) × (Int → Int) × (Int → Int) × Int × (Int → Int) × (Int → Int) × (Int → Int) × (Int → Int) × (Int → Int) × (Int → Int) × Int × (Int → Int) × Int × (Int → Int) × Int × Int × (Int → Int → Int) × (Int → Int → Int) × (Int → Int → Int) × (Int → Int → Int) × (Int → Int → Int) × (Int → Int → Int) × (Int → Int) × (Int → Int) × (Int → Int) × (Int → Int))
  | 0 => fun _ _ _ => none
  | n + 1 => f_L_law_L751_b fu v62 lnf_m318 v321 v323 k751_ (f_L_law_L751 fu v62 lnf_m318 v321 v323 k751_ n)
def f_L_law_L726_b (fu : Nat) (v62 : Int) (k726_ : (Int → Int) → (Int → Int) → (Int → Int) → (Int → Int) → (Int → Int) → (Int → Int) → Int → (Int → Int) → (Int → Int) → (Int → Int) → (Int → Int) → (Int → Int) → (Int → Int) → Int → (Int → Int) → Int → (Int → Int) → Int → Int → (Int → Int → Int) → (Int → Int → Int) → (Int → Int → Int) → (Int → Int → Int) → (Int → Int → Int) → (Int → Int → Int) → (Int → Int) → (Int → Int) → (Int → Int) → (Int → Int) → Int → Int → Int → Option (Int × (Int → Int) × (Int → Int) × (Int → Int) × (Int → Int) × (Int → Int) × (Int → Int) × Int × (Int → Int) × (Int → Int) × (Int → Int) × (Int → Int) × (Int → Int) × (Int → Int) × Int × (Int → Int) × Int × (Int → Int) × Int × Int × (Int → Int → Int) × (Int → Int → Int) × (Int → Int → Int) × (Int → Int → Int) × (Int → Int → Int) × (Int → Int → Int) × (Int → Int) × (Int → Int) × (Int → Int) × (Int → Int))) (j726_ : (Int → Int) → (Int → Int) → (Int → Int) → (Int → Int) → (Int → Int) → (Int → Int) → Int → (Int → Int) → (Int → Int) → (Int → Int) → (Int → Int) → (Int → Int) → (Int → Int) → Int → (Int → Int) → Int → (Int → Int) → Int → Int → (Int → Int → Int) → (Int → Int → Int) → (Int → Int → Int) → (Int → Int → Int) → (Int → Int → Int) → (Int → Int → Int) → (Int → Int) → (Int → Int) → (Int → Int) → (Int → Int) → Int → Int → Int → Int → Option (Int × (Int → Int) × (Int → Int) × (Int → Int) × (Int → Int) × (Int → Int) × (Int → Int) × Int × (Int → Int) × (Int → Int) × (Int → Int) × (Int → Int) × (Int → Int) × (Int → Int) × Int × (Int → Int) × Int × (Int → Int) × Int × Int × (Int → Int → Int) × (Int → Int → Int) × (Int → Int → Int) × (Int → Int → Int) × (Int → Int → Int) × (Int → Int → Int) × (Int → Int) × (Int → Int) × (Int → Int) × (Int → Int))) (r_se_m291 : Int → Int) (r_tr_m292 : Int → Int) (r_fi_m293 : Int → Int) (r_la_m294 : Int → Int) (r_sh_m295 : Int → Int) (r_ac_m296 : Int → Int) (r_no_m297 : Int) (u_se_m298 : Int → Int) (u_tr_m299 : Int → Int) (u_fi_m300 : Int → Int) (u_la_m301 : Int → Int) (u_sh_m302 : Int → Int) (u_ac_m303 : Int → Int) (u_no_m304 : Int) (p_eh_m305 : Int → Int) (p_we_m306 : Int) (p_hf_m307 : Int → Int) (g_ol_m308 : Int) (g_si_m309 : Int) (k_se_m310 : Int → Int → Int) (k_tr_m311 : Int → Int → Int) (k_fi_m312 : Int → Int → Int) (k_la_m313 : Int → Int → Int) (k_sh_m314 : Int → Int → Int) (k_ac_m315 : Int → Int → Int) (k_no_m316 : Int → Int) (lqf_m317 : Int → Int) (lnf_m318 : Int → Int) (lhf_m319 : Int → Int) (v320 : Int) (v321 : Int) (v322 : Int) (v323 : Int) : Option (Int × (Int → Int) × (Int → Int) × (Int → Int) × (Int → Int) × (Int → Int) × (Int → Int) × Int × (Int → Int) × (Int → Int) × (Int → Int) × (Int → Int) × (Int → Int) × (Int → Int) × Int × (Int → Int) × Int × (Int → Int) × Int × Int × (Int → Int → Int) × (Int → Int → Int) × (Int → Int → Int) × (Int → Int → Int) × (Int → Int → Int) × (Int → Int → Int) × (Int → Int) × (Int → Int) × (Int → Int) × (Int → Int)) :=
  jix 5 4 (jck v323 (lqf_m317 4) (if (lqf_m317 4) ≤ v323 then k726_ r_se_m291 r_tr_m292 r_fi_m293 r_la_m294 r_sh_m295 r_ac_m296 r_no_m297 u_se_m298 u_tr_m299 u_fi_m300 u_la_m301 u_sh_m302 u_ac_m303 u_no_m304 p_eh_m305 p_we_m306 p_hf_m307 g_ol_m308 g_si_m309 k_se_m310 k_tr_m311 k_fi_m312 k_la_m313 k_sh_m314 k_ac_m315 k_no_m316 lqf_m317 lnf_m318 lhf_m319 v320 v321 v322 else jix 64 (5 * v323) (jre (lnf_m318 (5 * v323)) 100 (f_L_law_L751 fu v62 lnf_m318 v321 v323 (f_L_law_X827 fu r_se_m291 r_tr_m292 r_fi_m293 r_la_m294 r_sh_m295 r_ac_m296 r_no_m297 u_se_m298 u_tr_m299 u_fi_m300 u_la_m301 u_sh_m302 u_ac_m303 u_no_m304 p_eh_m305 p_we_m306 p_hf_m307 g_ol_m308 g_si_m309 lqf_m317 lnf_m318 lhf_m319 v320 v321 v322 v323 k_se_m310 k_tr_m311 k_fi_m312 k_la_m313 k_sh_m314 k_ac_m315 k_no_m316 j726_) fu (-1) (-1) ((lnf_m318 (5 * v323)) / 100)))))
def f_L_law_L726 (fu : Nat) (v62 : Int) (k726_ : (Int → Int) → (Int → Int) → (Int → Int) → (Int → Int) → (Int → Int) → (Int → Int) → Int → (Int → Int) → (Int → Int) → (Int → Int) → (Int → Int) → (Int → Int) → (Int → Int) → Int → (Int → Int) → Int → (Int → Int) → Int → Int → (Int → Int → Int) → (Int → Int → Int) → (Int → Int → Int) → (Int → Int → Int) → (Int → Int → Int) → (Int → Int → Int) → (Int → Int) → (Int → Int) → (Int → Int) → (Int → Int) → Int → Int → Int → Option (Int × (Int → Int) × (Int → Int) × (Int → Int) × (Int → Int) × (Int → Int) × (Int → Int) × Int × (Int → Int) × (Int → Int) × (Int → Int) × (Int → Int) × (Int → Int) × (Int → Int) × Int × (Int → Int) × Int × (Int → Int) × Int × Int × (Int → Int → Int) × (Int → Int → Int) × (Int → Int → Int) × (Int → Int → Int) × (Int → Int → Int) × (Int → Int → Int) × (Int → Int) × (Int → Int) × (Int → Int) × (Int → Int))) : Nat → (Int → Int) → (Int → Int) → (Int → Int) → (Int → Int) → (Int → Int) → (Int → Int) → Int → (Int → Int) → (Int → Int) → (Int → Int) → (Int → Int) → (Int → Int) → (Int → Int) → Int → (Int → Int) → Int → (Int → Int) → Int → Int → (Int → Int → Int) → (Int → Int → Int) → (Int → Int → Int) → (Int → Int → Int) → (Int → Int → Int) → (Int → Int → Int) → (Int → Int) → (Int → Int) → (Int → Int) → (Int → Int) → Int → Int → Int → Int → Option (Int × (Int → Int) × (Int → Int) × (Int → Int) × (Int → Int) × (Int → Int) × (Int → Int) × Int × (Int → Int) × (Int → Int) × (Int → Int) × (Int → Int) × (Int → Int) × (Int → Int) × Int × (Int → Int) × Int × (Int → Int) × Int × Int × (Int → Int → Int) × (Int → Int → Int) × (Int → Int → Int) × (Int → Int → Int) × (Int → Int → Int) × (Int → Int → Int) × (Int → Int) × (Int → Int) × (Int → Int) × (Int → Int))
  | 0 => fun _ _ _ _ _ _ _ _ _ _ _ _ _ _ _ _ _ _ _ _ _ _ _ _ _ _ _ _ _ _ _ _ _ => none
  | n + 1 => f_L_law_L726_b fu v62 k726_ (f_L_law_L726 fu v62 k726_ n)
def f_L_law_X681 (fu : Nat) (d_le : Int) (xc : Int → Int) (v59 : Int) (v62 : Int) (v332 : Int) (j42_ : (Int → Int) → (Int → Int) → (Int → Int) → (Int → Int) → (Int → Int) → (Int → Int) → Int → (Int → Int) → (Int → Int) → (Int → Int) → (Int → Int) → (Int → Int) → (Int → Int) → Int → (Int → Int) → Int → (Int → Int) → Int → Int → (Int → Int → Int) → (Int → Int → Int) → (Int → Int → Int) → (Int → Int → Int) → (Int → Int → Int) → (Int → Int → Int) → (Int → Int) → (Int → Int) → (Int → Int) → (Int → Int) → Int → Option (Int × (Int → Int) × (Int → Int) × (Int → Int) × (Int → Int) × (Int → Int) × (Int → Int) × Int × (Int → Int) × (Int → Int) × (Int → Int) × (Int → Int) × (Int → Int) × (Int → Int) × Int × (Int → Int) × Int × (Int → Int) × Int × Int × (Int → Int → Int) × (Int → Int → Int) × (Int → Int → Int) × (Int → Int → Int) × (Int → Int → Int) × (Int → Int → Int) × (Int → Int) × (Int → Int) × (Int → Int) × (Int → Int))) (r_se_m334 : Int → Int) (r_tr_m335 : Int → Int) (r_fi_m336 : Int → Int) (r_la_m337 : Int → Int) (r_sh_m338 : Int → Int) (r_ac_m339 : Int → Int) (r_no_m340 : Int) (u_se_m341 : Int → Int) (u_tr_m342 : Int → Int) (u_fi_m343 : Int → Int) (u_la_m344 : Int → Int) (u_sh_m345 : Int → Int) (u_ac_m346 : Int → Int) (u_no_m347 : Int) (p_eh_m348 : Int → Int) (p_we_m349 : Int) (p_hf_m350 : Int → Int) (g_ol_m351 : Int) (g_si_m352 : Int) (k_se_m353 : Int → Int → Int) (k_tr_m354 : Int → Int → Int) (k_fi_m355 : Int → Int → Int) (k_la_m356 : Int → Int → Int) (k_sh_m357 : Int → Int → Int) (k_ac_m358 : Int → Int → Int) (k_no_m359 : Int → Int) (lqf_m360 : Int → Int) (lnf_m361 : Int → Int) (lhf_m362 : Int → Int) (v363 : Int) : Option (Int × (Int → Int) × (Int → Int) × (Int → Int) × (Int → Int) × (Int → Int) × (Int → Int) × Int × (Int → Int) × (Int → Int) × (Int → Int) × (Int → Int) × (Int → Int) × (Int → Int) × Int × (Int → Int) × Int × (Int → Int) × Int × Int × (Int → Int → Int) × (Int → Int → Int) × (Int → Int → Int) × (Int → Int → Int) × (Int → Int → Int) × (Int → Int → Int) × (Int → Int) × (Int → Int) × (Int → Int) × (Int → Int)) :=
  jb12 (f_X4_insert fu r_se_m334 r_tr_m335 r_fi_m336 r_la_m337 r_sh_m338 r_ac_m339 r_no_m340 g_ol_m351 g_si_m352 k_se_m353 k_tr_m354 k_fi_m355 k_la_m356 k_sh_m357 k_ac_m358 k_no_m359 v62 v332) (fun v364 r_fi_m365 r_la_m366 g_ol_m367 g_si_m368 k_se_m369 k_tr_m370 k_fi_m371 k_la_m372 k_sh_m373 k_ac_m374 k_no_m375 => jck v364 v363 (if v364 = v363 then f_L_law_J1390 fu d_le xc v59 j42_ r_se_m334 r_tr_m335 r_fi_m365 r_la_m366 r_sh_m338 r_ac_m339 r_no_m340 u_se_m341 u_tr_m342 u_fi_m343 u_la_m344 u_sh_m345 u_ac_m346 u_no_m347 p_eh_m348 p_we_m349 p_hf_m350 g_ol_m367 g_si_m368 k_se_m369 k_tr_m370 k_fi_m371 k_la_m372 k_sh_m373 k_ac_m374 k_no_m375 lqf_m360 lnf_m361 lhf_m362 else jbo 0 (some (0, r_se_m334, r_tr_m335, r_fi_m365, r_la_m366, r_sh_m338, r_ac_m339, r_no_m340, u_se_m341, u_tr_m342, u_fi_m343, u_la_m344, u_sh_m345, u_ac_m346, u_no_m347, p_eh_m348, p_we_m349, p_hf_m350, g_ol_m367, g_si_m368, k_se_m369, k_tr_m370, k_fi_m371, k_la_m372, k_sh_m373, k_ac_m374, k_no_m375, lqf_m360, lnf_m361, lhf_m362))))
def f_L_law_L604_b (fu : Nat) (v62 : Int) (v332 : Int) (k604_ : (Int → Int) → (Int → Int) → (Int → Int) → (Int → Int) → (Int → Int) → (Int → Int) → Int → (Int → Int) → (Int → Int) → (Int → Int) → (Int → Int) → (Int → Int) → (Int → Int) → Int → (Int → Int) → Int → (Int → Int) → Int → Int → (Int → Int → Int) → (Int → Int → Int) → (Int → Int → Int) → (Int → Int → Int) → (Int → Int → Int) → (Int → Int → Int) → (Int → Int) → (Int → Int) → (Int → Int) → (Int → Int) → Int → Option (Int × (Int → Int) × (Int → Int) × (Int → Int) × (Int → Int) × (Int → Int) × (Int → Int) × Int × (Int → Int) × (Int → Int) × (Int → Int) × (Int → Int) × (Int → Int) × (Int → Int) × Int × (Int → Int) × Int × (Int → Int) × Int × Int × (Int → Int → Int) × (Int → Int → Int) × (Int → Int → Int) × (Int → Int → Int) × (Int → Int → Int) × (Int → Int → Int) × (Int → Int) × (Int → Int) × (Int → Int) × (Int → Int))) (j604_ : (Int → Int) → (Int → Int) → (Int → Int) → (Int → Int) → (Int → Int) → (Int → Int) → Int → (Int → Int) → (Int → Int) → (Int → Int) → (Int → Int) → (Int → Int) → (Int → Int) → Int → (Int → Int) → Int → (Int → Int) → Int → Int → (Int → Int → Int) → (Int → Int → Int) → (Int → Int → Int) → (Int → Int → Int) → (Int → Int → Int) → (Int → Int → Int) → (Int → Int) → (Int → Int) → (Int → Int) → (Int → Int) → Int → Int → Option (Int × (Int → Int) × (Int → Int) × (Int → Int) × (Int → Int) × (Int → Int) × (Int → Int) × Int × (Int → Int) × (Int → Int) × (Int → Int) × (Int → Int) × (Int → Int) × (Int → Int) × Int × (Int → Int) × Int × (Int → Int) × Int × Int × (Int → Int → Int) × (Int → Int → Int) × (Int → Int → Int) × (Int → Int → Int) × (Int → Int → Int) × (Int → Int → Int) × (Int → Int) × (Int → Int) × (Int → Int) × (Int → Int))) (r_se_m376 : Int → Int) (r_tr_m377 : Int → Int) (r_fi_m378 : Int → Int) (r_la_m379 : Int → Int) (r_sh_m380 : Int → Int) (r_ac_m381 : Int → Int) (r_no_m382 : Int) (u_se_m383 : Int → Int) (u_tr_m384 : Int → Int) (u_fi_m385 : Int → Int) (u_la_m386 : Int → Int) (u_sh_m387 : Int → Int) (u_ac_m388 : Int → Int) (u_no_m389 : Int) (p_eh_m390 : Int → Int) (p_we_m391 : Int) (p_hf_m392 : Int → Int) (g_ol_m393 : Int) (g_si_m394 : Int) (k_se_m395 : Int → Int → Int) (k_tr_m396 : Int → Int → Int) (k_fi_m397 : Int → Int → Int) (k_la_m398 : Int → Int → Int) (k_sh_m399 : Int → Int → Int) (k_ac_m400 : Int → Int → Int) (k_no_m401 : Int → Int) (lqf_m402 : Int → Int) (lnf_m403 : Int → Int) (lhf_m404 : Int → Int) (v405 : Int) (v406 : Int) : Option (Int × (Int → Int) × (Int → Int) × (Int → Int) × (Int → Int) × (Int → Int) × (Int → Int) × Int × (Int → Int) × (Int → Int) × (Int → Int) × (Int → Int) × (Int → Int) × (Int → Int) × Int × (Int → Int) × Int × (Int → Int) × Int × Int × (Int → Int → Int) × (Int → Int → Int) × (Int → Int → Int) × (Int → Int → Int) × (Int → Int → Int) × (Int → Int → Int) × (Int → Int) × (Int → Int) × (Int → Int) × (Int → Int)) :=
  jix 5 4 (jck v406 (lqf_m402 4) (if (lqf_m402 4) ≤ v406 then k604_ r_se_m376 r_tr_m377 r_fi_m378 r_la_m379 r_sh_m380 r_ac_m381 r_no_m382 u_se_m383 u_tr_m384 u_fi_m385 u_la_m386 u_sh_m387 u_ac_m388 u_no_m389 p_eh_m390 p_we_m391 p_hf_m392 g_ol_m393 g_si_m394 k_se_m395 k_tr_m396 k_fi_m397 k_la_m398 k_sh_m399 k_ac_m400 k_no_m401 lqf_m402 lnf_m403 lhf_m404 v405 else jix 64 ((5 * v406) + 1) (jck (lnf_m403 ((5 * v406) + 1)) v62 (if v62 ≤ (lnf_m403 ((5 * v406) + 1)) then jix 64 ((5 * v406) + 1) (jix 64 ((5 * v406) + 1) (jix 64 (5 * v406) (jre ((uI lnf_m403 ((5 * v406) + 1) ((lnf_m403 ((5 * v406) + 1)) + v332)) (5 * v406)) 100 (jck (((uI lnf_m403 ((5 * v406) + 1) ((lnf_m403 ((5 * v406) + 1)) + v332)) (5 * v406)) / 100) v62 (if (((uI lnf_m403 ((5 * v406) + 1) ((lnf_m403 ((5 * v406) + 1)) + v332)) (5 * v406)) / 100) < v62 then j604_ r_se_m376 r_tr_m377 r_fi_m378 r_la_m379 r_sh_m380 r_ac_m381 r_no_m382 u_se_m383 u_tr_m384 u_fi_m385 u_la_m386 u_sh_m387 u_ac_m388 u_no_m389 p_eh_m390 p_we_m391 p_hf_m392 g_ol_m393 g_si_m394 k_se_m395 k_tr_m396 k_fi_m397 k_la_m398 k_sh_m399 k_ac_m400 k_no_m401 lqf_m402 (uI lnf_m403 ((5 * v406) + 1) ((lnf_m403 ((5 * v406) + 1)) + v332)) lhf_m404 (v405 + 1) (v406 + 1) else jix 64 (5 * v406) (jix 64 (5 * v406) (j604_ r_se_m376 r_tr_m377 r_fi_m378 r_la_m379 r_sh_m380 r_ac_m381 r_no_m382 u_se_m383 u_tr_m384 u_fi_m385 u_la_m386 u_sh_m387 u_ac_m388 u_no_m389 p_eh_m390 p_we_m391 p_hf_m392 g_ol_m393 g_si_m394 k_se_m395 k_tr_m396 k_fi_m397 k_la_m398 k_sh_m399 k_ac_m400 k_no_m401 lqf_m402 (uI (uI lnf_m403 ((5 * v406) + 1) ((lnf_m403 ((5 * v406) + 1)) + v332)) (5 * v406) (((uI lnf_m403 ((5 * v406) + 1) ((lnf_m403 ((5 * v406) + 1)) + v332)) (5 * v406)) + (100 * v332))) lhf_m404 v405 (v406 + 1)))))))) else j604_ r_se_m376 r_tr_m377 r_fi_m378 r_la_m379 r_sh_m380 r_ac_m381 r_no_m382 u_se_m383 u_tr_m384 u_fi_m385 u_la_m386 u_sh_m387 u_ac_m388 u_no_m389 p_eh_m390 p_we_m391 p_hf_m392 g_ol_m393 g_si_m394 k_se_m395 k_tr_m396 k_fi_m397 k_la_m398 k_sh_m399 k_ac_m400 k_no_m401 lqf_m402 lnf_m403 lhf_m404 v405 (v406 + 1)))))
def f_L_law_L604 (fu : Nat) (v62 : Int) (v332 : Int) (k604_ : (Int → Int) → (Int → Int) → (Int → Int) → (Int → Int) → (Int → Int) → (Int → Int) → Int → (Int → Int) → (Int → Int) → (Int → Int) → (Int → Int) → (Int → Int) → (Int → Int) → Int → (Int → Int) → Int → (Int → Int) → Int → Int → (Int → Int → Int) → (Int → Int → Int) → (Int → Int → Int) → (Int → Int → Int) → (Int → Int → Int) → (Int → Int → Int) → (Int → Int) → (Int → Int) → (Int → Int) → (Int → Int) → Int → Option (Int × (Int → Int) × (Int → Int) × (Int → Int) × (Int → Int) × (Int → Int) × (Int → Int) × Int × (Int → Int) × (Int → Int) × (Int → Int) × (Int → Int) × (Int → Int) × (Int → Int) × Int × (Int → Int) × Int × (Int → Int) × Int × Int × (Int → Int → Int) × (Int → Int → Int) × (Int → Int → Int) × (Int → Int → Int) × (Int → Int → Int) × (Int → Int → Int) × (Int → Int) × (Int → Int) × (Int → Int) × (Int → Int))) : Nat → (Int → Int) → (Int → Int) → (Int → Int) → (Int → Int) → (Int → Int) → (Int → Int) → Int → (Int → Int) → (Int → Int) → (Int → Int) → (Int → Int) → (Int → Int) → (Int → Int) → Int → (Int → Int) → Int → (Int → Int) → Int → Int → (Int → Int → Int) → (Int → Int → Int) → (Int → Int → Int) → (Int → Int → Int) → (Int → Int → Int) → (Int → Int → Int) → (Int → Int) → (Int → Int) → (Int → Int) → (Int → Int) → Int → Int → Option (Int × (Int → Int) × (Int → Int) × (Int → Int) × (Int → Int) × (Int → Int) × (Int → Int) × Int × (Int → Int) × (Int → Int) × (Int → Int) × (Int → Int) × (Int → Int) × (Int → Int) × Int × (Int → Int) × Int × (Int → Int) × Int × Int × (Int → Int → Int) × (Int → Int → Int) × (Int → Int → Int) × (Int → Int → Int) × (Int → Int → Int) × (Int → Int → Int) × (Int → Int) × (Int → Int) × (Int → Int) × (Int → Int))
  | 0 => fun _ _ _ _ _ _ _ _ _ _ _ _ _ _ _ _ _ _ _ _ _ _ _ _ _ _ _ _ _ _ _ => none
  | n + 1 => f_L_law_L604_b fu v62 v332 k604_ (f_L_law_L604 fu v62 v332 k604_ n)
def f_L_law_X593 (fu : Nat) (d_le : Int) (xc : Int → Int) (r_se_m30 : Int → Int) (r_tr_m31 : Int → Int) (r_fi_m32 : Int → Int) (r_la_m33 : Int → Int) (r_sh_m34 : Int → Int) (r_ac_m35 : Int → Int) (r_no_m36 : Int) (u_se_m37 : Int → Int) (u_tr_m38 : Int → Int) (u_fi_m39 : Int → Int) (u_la_m40 : Int → Int) (u_sh_m41 : Int → Int) (u_ac_m42 : Int → Int) (u_no_m43 : Int) (p_eh_m44 : Int → Int) (p_we_m45 : Int) (p_hf_m46 : Int → Int) (g_ol_m47 : Int) (g_si_m48 : Int) (lqf_m56 : Int → Int) (lnf_m57 : Int → Int) (lhf_m58 : Int → Int) (v59 : Int) (v62 : Int) (j42_ : (Int → Int) → (Int → Int) → (Int → Int) → (Int → Int) → (Int → Int) → (Int → Int) → Int → (Int → Int) → (Int → Int) → (Int → Int) → (Int → Int) → (Int → Int) → (Int → Int) → Int → (Int → Int) → Int → (Int → Int) → Int → Int → (Int → Int → Int) → (Int → Int → Int) → (Int → Int → Int) → (Int → Int → Int) → (Int → Int → Int) → (Int → Int → Int) → (Int → Int) → (Int → Int) → (Int → Int) → (Int → Int) → Int → Option (Int × (Int → Int) × (Int → Int) × (Int → Int) × (Int → Int) × (Int → Int) × (Int → Int) × Int × (Int → Int) × (Int → Int) × (Int → Int) × (Int → Int) × (Int → Int) × (Int → Int) × Int × (Int → Int) × Int × (Int → Int) × Int × Int × (Int → Int → Int) × (Int → Int → Int) × (Int → Int → Int) × (Int → Int → Int) × (Int → Int → Int) × (Int → Int → Int) × (Int → Int) × (Int → Int) × (Int → Int) × (Int → Int))) (k_se_m49 : Int → Int → Int) (k_tr_m50 : Int → Int → Int) (k_fi_m51 : Int → Int → Int) (k_la_m52 : Int → Int → Int) (k_sh_m53 : Int → Int → Int) (k_ac_m54 : Int → Int → Int) (k_no_m55 : Int → Int) (v331 : Int) (v332 : Int) (v333 : Int) : Option (Int × (Int → Int) × (Int → Int) × (Int → Int) × (Int → Int) × (Int → Int) × (Int → Int) × Int × (Int → Int) × (Int → Int) × (Int → Int) × (Int → Int) × (Int → Int) × (Int → Int) × Int × (Int → Int) × Int × (Int → Int) × Int × Int × (Int → Int → Int) × (Int → Int → Int) × (Int → Int → Int) × (Int → Int → Int) × (Int → Int → Int) × (Int → Int → Int) × (Int → Int) × (Int → Int) × (Int → Int) × (Int → Int)) :=
  jck v333 0 (if v333 = 0 then f_L_law_L604 fu v62 v332 (f_L_law_X681 fu d_le xc v59 v62 v332 j42_) fu r_se_m30 r_tr_m31 r_fi_m32 r_la_m33 r_sh_m34 r_ac_m35 r_no_m36 u_se_m37 u_tr_m38 u_fi_m39 u_la_m40 u_sh_m41 u_ac_m42 u_no_m43 p_eh_m44 p_we_m45 p_hf_m46 g_ol_m47 g_si_m48 k_se_m49 k_tr_m50 k_fi_m51 k_la_m52 k_sh_m53 k_ac_m54 k_no_m55 lqf_m56 lnf_m57 lhf_m58 0 0 else j42_ r_se_m30 r_tr_m31 r_fi_m32 r_la_m33 r_sh_m34 r_ac_m35 r_no_m36 u_se_m37 u_tr_m38 u_fi_m39 u_la_m40 u_sh_m41 u_ac_m42 u_no_m43 p_eh_m44 p_we_m45 p_hf_m46 g_ol_m47 g_si_m48 k_se_m49 k_tr_m50 k_fi_m51 k_la_m52 k_sh_m53 k_ac_m54 k_no_m55 lqf_m56 lnf_m57 lhf_m58 (v59 + 1))
def f_L_law_L538_b (fu : Nat) (lqf_m56 : Int → Int) (lnf_m57 : Int → Int) (v62 : Int) (k538_ : Int → Int → Int → Option (Int × (Int → Int) × (Int → Int) × (Int → Int) × (Int → Int) × (Int → Int) × (Int → Int) × Int × (Int → Int) × (Int → Int) × (Int → Int) × (Int → Int) × (Int → Int) × (Int → Int) × Int × (Int → Int) × Int × (Int → Int) × Int × Int × (Int → Int → Int) × (Int → Int → Int) × (Int → Int → Int) × (Int → Int → Int) × (Int → Int → Int) × (Int → Int → Int) × (Int → Int) × (Int → Int) × (Int → Int) × (Int → Int))) (j538_ : Int → Int → Int → Int → Option (Int × (Int → Int) × (Int → Int) × (Int → Int) × (Int → Int) × (Int → Int) × (Int → Int) × Int × (Int → Int) × (Int → Int) × (Int → Int) × (Int → Int) × (Int → Int) × (Int → Int) × Int × (Int → Int) × Int × (Int → Int) × Int × Int × (Int → Int → Int) × (Int → Int → Int) × (Int → Int → Int) × (Int → Int → Int) × (Int → Int → Int) × (Int → Int → Int) × (Int → Int) × (Int → Int) × (Int → Int) × (Int → Int))) (v407 : Int) (v408 : Int) (v409 : Int) (v410 : Int) : Option (Int × (Int → Int) × (Int → Int) × (Int → Int) × (Int → Int) × (Int → Int) × (Int → Int) × Int × (Int → Int) × (Int → Int) × (Int → Int) × (Int → Int) × (Int → Int) × (Int → Int) × Int × (Int → Int) × Int × (Int → Int) × Int × Int × (Int → Int → Int) × (Int → Int → Int) × (Int → Int → Int) × (Int → Int → Int) × (Int → Int → Int) × (Int → Int → Int) × (Int → Int) × (Int → Int) × (Int → Int) × (Int → Int)) :=
  jix 5 4 (jck v410 (lqf_m56 4) (if (lqf_m56 4) ≤ v410 then k538_ v407 v408 v409 else jck v409 0 (if v409 ≠ 0 then j538_ v407 v408 1 (v410 + 1) else jix 64 ((5 * v410) + 1) (jck (lnf_m57 ((5 * v410) + 1)) v62 (if (lnf_m57 ((5 * v410) + 1)) < v62 then j538_ v407 v408 0 (v410 + 1) else jix 64 ((5 * v410) + 1) (jck ((lnf_m57 ((5 * v410) + 1)) + v408) 59 (if ((lnf_m57 ((5 * v410) + 1)) + v408) ≤ 59 then j538_ v407 v408 0 (v410 + 1) else j538_ v407 v408 1 (v410 + 1))))))))
def f_L_law_L538 (fu : Nat) (lqf_m56 : Int → Int) (lnf_m57 : Int → Int) (v62 : Int) (k538_ : Int → Int → Int → Option (Int × (Int → Int) × (Int → Int) × (Int → Int) × (Int → Int) × (Int → Int) × (Int → Int) × Int × (Int → Int) × (Int → Int) × (Int → Int) × (Int → Int) × (Int → Int) × (Int → Int) × Int × (Int → Int) × Int × (Int → Int) × Int × Int × (Int → Int → Int) × (Int → Int → Int) × (Int → Int → Int) × (Int → Int → Int) × (Int → Int → Int) × (Int → Int → Int) × (Int → Int) × (Int → Int) × (Int → Int) × (Int → Int))) : Nat → Int → Int → Int → Int → Option (Int × (Int → Int) × (Int → Int) × (Int → Int) × (Int → Int) × (Int → Int) × (Int → Int) × Int × (Int → Int) × (Int → Int) × (Int → Int) × (Int → Int) × (Int → Int) × (Int → Int) × Int × (Int → Int) × Int × (Int → Int) × Int × Int × (Int → Int → Int) × (Int → Int → Int) × (Int → Int → Int) × (Int → Int → Int) × (Int → Int → Int) × (Int → Int → Int) × (Int → Int) × (Int → Int) × (Int → Int) × (Int → Int))
  | 0 => fun _ _ _ _ => none
  | n + 1 => f_L_law_L538_b fu lqf_m56 lnf_m57 v62 k538_ (f_L_law_L538 fu lqf_m56 lnf_m57 v62 k538_ n)
def f_L_law_J509 (fu : Nat) (d_le : Int) (xc : Int → Int) (r_se_m30 : Int → Int) (r_tr_m31 : Int → Int) (r_fi_m32 : Int → Int) (r_la_m33 : Int → Int) (r_sh_m34 : Int → Int) (r_ac_m35 : Int → Int) (r_no_m36 : Int) (u_se_m37 : Int → Int) (u_tr_m38 : Int → Int) (u_fi_m39 : Int → Int) (u_la_m40 : Int → Int) (u_sh_m41 : Int → Int) (u_ac_m42 : Int → Int) (u_no_m43 : Int) (p_eh_m44 : Int → Int) (p_we_m45 : Int) (p_hf_m46 : Int → Int) (g_ol_m47 : Int) (g_si_m48 : Int) (lqf_m56 : Int → Int) (lnf_m57 : Int → Int) (lhf_m58 : Int → Int) (v59 : Int) (v60 : Int) (v62 : Int) (j42_ : (Int → Int) → (Int → Int) → (Int → Int) → (Int → Int) → (Int → Int) → (Int → Int) → Int → (Int → Int) → (Int → Int) → (Int → Int) → (Int → Int) → (Int → Int) → (Int → Int) → Int → (Int → Int) → Int → (Int → Int) → Int → Int → (Int → Int → Int) → (Int → Int → Int) → (Int → Int → Int) → (Int → Int → Int) → (Int → Int → Int) → (Int → Int → Int) → (Int → Int) → (Int → Int) → (Int → Int) → (Int → Int) → Int → Option (Int × (Int → Int) × (Int → Int) × (Int → Int) × (Int → Int) × (Int → Int) × (Int → Int) × Int × (Int → Int) × (Int → Int) × (Int → Int) × (Int → Int) × (Int → Int) × (Int → Int) × Int × (Int → Int) × Int × (Int → Int) × Int × Int × (Int → Int → Int) × (Int → Int → Int) × (Int → Int → Int) × (Int → Int → Int) × (Int → Int → Int) × (Int → Int → Int) × (Int → Int) × (Int → Int) × (Int → Int) × (Int → Int))) (k_se_m49 : Int → Int → Int) (k_tr_m50 : Int → Int → Int) (k_fi_m51 : Int → Int → Int) (k_la_m52 : Int → Int → Int) (k_sh_m53 : Int → Int → Int) (k_ac_m54 : Int → Int → Int) (k_no_m55 : Int → Int)  : Option (Int × (Int → Int) × (Int → Int) × (Int → Int) × (Int → Int) × (Int → Int) × (Int → Int) × Int × (Int → Int) × (Int → Int) × (Int → Int) × (Int → Int) × (Int → Int) × (Int → Int) × Int × (Int → Int) × Int × (Int → Int) × Int × Int × (Int → Int → Int) × (Int → Int → Int) × (Int → Int → Int) × (Int → Int → Int) × (Int → Int → Int) × (Int → Int → Int) × (Int → Int) × (Int → Int) × (Int → Int) × (Int → Int)) :=
  jck v60 6 (if v60 ≠ 6 then jck v60 7 (if v60 ≠ 7 then jck v60 8 (if v60 ≠ 8 then jb (f_L_low fu (jshr (xc v59) 4) 4) (fun v112 => jck v112 0 (if v112 ≠ 0 then jck v112 1 (if v112 ≠ 1 then jck v112 2 (if v112 ≠ 2 then jb (f_L_low fu (jshr (xc v59) 8) 4) (fun v125 => f_L_law_J1365 fu d_le xc r_se_m30 r_tr_m31 r_fi_m32 r_la_m33 r_sh_m34 r_ac_m35 r_no_m36 u_se_m37 u_tr_m38 u_fi_m39 u_la_m40 u_sh_m41 u_ac_m42 u_no_m43 p_eh_m44 p_we_m45 p_hf_m46 g_ol_m47 g_si_m48 lqf_m56 lnf_m57 lhf_m58 v59 v112 j42_ k_se_m49 k_tr_m50 k_fi_m51 k_la_m52 k_sh_m53 k_ac_m54 k_no_m55 (2 + v125)) else jb (f_L_low fu (jshr (xc v59) 8) 5) (fun v126 => f_L_law_J1365 fu d_le xc r_se_m30 r_tr_m31 r_fi_m32 r_la_m33 r_sh_m34 r_ac_m35 r_no_m36 u_se_m37 u_tr_m38 u_fi_m39 u_la_m40 u_sh_m41 u_ac_m42 u_no_m43 p_eh_m44 p_we_m45 p_hf_m46 g_ol_m47 g_si_m48 lqf_m56 lnf_m57 lhf_m58 v59 v112 j42_ k_se_m49 k_tr_m50 k_fi_m51 k_la_m52 k_sh_m53 k_ac_m54 k_no_m55 v126)) else jb (f_L_low fu (jshr (xc v59) 8) 4) (fun v127 => f_L_law_J1365 fu d_le xc r_se_m30 r_tr_m31 r_fi_m32 r_la_m33 r_sh_m34 r_ac_m35 r_no_m36 u_se_m37 u_tr_m38 u_fi_m39 u_la_m40 u_sh_m41 u_ac_m42 u_no_m43 p_eh_m44 p_we_m45 p_hf_m46 g_ol_m47 g_si_m48 lqf_m56 lnf_m57 lhf_m58 v59 v112 j42_ k_se_m49 k_tr_m50 k_fi_m51 k_la_m52 k_sh_m53 k_ac_m54 k_no_m55 (1 + v127))) else jb (f_L_low fu (jshr (xc v59) 8) 9) (fun v128 => f_L_law_J1365 fu d_le xc r_se_m30 r_tr_m31 r_fi_m32 r_la_m33 r_sh_m34 r_ac_m35 r_no_m36 u_se_m37 u_tr_m38 u_fi_m39 u_la_m40 u_sh_m41 u_ac_m42 u_no_m43 p_eh_m44 p_we_m45 p_hf_m46 g_ol_m47 g_si_m48 lqf_m56 lnf_m57 lhf_m58 v59 v112 j42_ k_se_m49 k_tr_m50 k_fi_m51 k_la_m52 k_sh_m53 k_ac_m54 k_no_m55 (1 + v128)))) else jb (f_L_low fu (jshr (xc v59) 11) 20) (fun v129 => jb (f_L_low fu (jshr (xc v59) 13) 44) (fun v130 => jix 5 4 (f_L_law_L994 fu lqf_m56 lnf_m57 v62 v130 (f_L_law_X1129 fu d_le xc r_se_m30 r_tr_m31 r_fi_m32 r_la_m33 r_sh_m34 r_ac_m35 r_no_m36 u_se_m37 u_tr_m38 u_fi_m39 u_la_m40 u_sh_m41 u_ac_m42 u_no_m43 p_eh_m44 p_we_m45 p_hf_m46 g_ol_m47 g_si_m48 lqf_m56 lnf_m57 lhf_m58 v59 v62 v130 j42_ k_se_m49 k_tr_m50 k_fi_m51 k_la_m52 k_sh_m53 k_ac_m54 k_no_m55) fu (xc v59) (v62 + v129) 0 0 1 (lqf_m56 4) 0)))) else jb (f_L_low fu (jshr (xc v59) 11) 8) (fun v233 => f_L_law_L726 fu v62 (f_L_law_X911 fu d_le xc v59 v62 j42_) fu r_se_m30 r_tr_m31 r_fi_m32 r_la_m33 r_sh_m34 r_ac_m35 r_no_m36 u_se_m37 u_tr_m38 u_fi_m39 u_la_m40 u_sh_m41 u_ac_m42 u_no_m43 p_eh_m44 p_we_m45 p_hf_m46 g_ol_m47 g_si_m48 k_se_m49 k_tr_m50 k_fi_m51 k_la_m52 k_sh_m53 k_ac_m54 k_no_m55 lqf_m56 lnf_m57 lhf_m58 (xc v59) (1 + v233) 0 0)) else jb (f_L_low fu (jshr (xc v59) 11) 5) (fun v330 => f_L_law_L538 fu lqf_m56 lnf_m57 v62 (f_L_law_X593 fu d_le xc r_se_m30 r_tr_m31 r_fi_m32 r_la_m33 r_sh_m34 r_ac_m35 r_no_m36 u_se_m37 u_tr_m38 u_fi_m39 u_la_m40 u_sh_m41 u_ac_m42 u_no_m43 p_eh_m44 p_we_m45 p_hf_m46 g_ol_m47 g_si_m48 lqf_m56 lnf_m57 lhf_m58 v59 v62 j42_ k_se_m49 k_tr_m50 k_fi_m51 k_la_m52 k_sh_m53 k_ac_m54 k_no_m55) fu (xc v59) (1 + v330) 0 0))
def f_L_law_J505 (fu : Nat) (d_le : Int) (xc : Int → Int) (r_se_m30 : Int → Int) (r_tr_m31 : Int → Int) (r_fi_m32 : Int → Int) (r_la_m33 : Int → Int) (r_no_m36 : Int) (u_se_m37 : Int → Int) (u_tr_m38 : Int → Int) (u_fi_m39 : Int → Int) (u_la_m40 : Int → Int) (u_sh_m41 : Int → Int) (u_ac_m42 : Int → Int) (u_no_m43 : Int) (p_eh_m44 : Int → Int) (p_we_m45 : Int) (p_hf_m46 : Int → Int) (lqf_m56 : Int → Int) (lnf_m57 : Int → Int) (lhf_m58 : Int → Int) (v59 : Int) (v61 : Int) (v411 : Int) (r_sh_m415 : Int → Int) (r_ac_m426 : Int → Int) (g_ol_m427 : Int) (g_si_m428 : Int) (j42_ : (Int → Int) → (Int → Int) → (Int → Int) → (Int → Int) → (Int → Int) → (Int → Int) → Int → (Int → Int) → (Int → Int) → (Int → Int) → (Int → Int) → (Int → Int) → (Int → Int) → Int → (Int → Int) → Int → (Int → Int) → Int → Int → (Int → Int → Int) → (Int → Int → Int) → (Int → Int → Int) → (Int → Int → Int) → (Int → Int → Int) → (Int → Int → Int) → (Int → Int) → (Int → Int) → (Int → Int) → (Int → Int) → Int → Option (Int × (Int → Int) × (Int → Int) × (Int → Int) × (Int → Int) × (Int → Int) × (Int → Int) × Int × (Int → Int) × (Int → Int) × (Int → Int) × (Int → Int) × (Int → Int) × (Int → Int) × Int × (Int → Int) × Int × (Int → Int) × Int × Int × (Int → Int → Int) × (Int → Int → Int) × (Int → Int → Int) × (Int → Int → Int) × (Int → Int → Int) × (Int → Int → Int) × (Int → Int) × (Int → Int) × (Int → Int) × (Int → Int))) (k_se_m429 : Int → Int → Int) (k_tr_m430 : Int → Int → Int) (k_fi_m431 : Int → Int → Int) (k_la_m432 : Int → Int → Int) (k_sh_m433 : Int → Int → Int) (k_ac_m434 : Int → Int → Int) (k_no_m435 : Int → Int) (v436 : Int) : Option (Int × (Int → Int) × (Int → Int) × (Int → Int) × (Int → Int) × (Int → Int) × (Int → Int) × Int × (Int → Int) × (Int → Int) × (Int → Int) × (Int → Int) × (Int → Int) × (Int → Int) × Int × (Int → Int) × Int × (Int → Int) × Int × Int × (Int → Int → Int) × (Int → Int → Int) × (Int → Int → Int) × (Int → Int → Int) × (Int → Int → Int) × (Int → Int → Int) × (Int → Int) × (Int → Int) × (Int → Int) × (Int → Int)) :=
  jix 64 ((5 * v61) + 3) (f_L_law_J1390 fu d_le xc v59 j42_ r_se_m30 r_tr_m31 r_fi_m32 r_la_m33 r_sh_m415 r_ac_m426 r_no_m36 u_se_m37 u_tr_m38 u_fi_m39 u_la_m40 u_sh_m41 u_ac_m42 u_no_m43 p_eh_m44 p_we_m45 p_hf_m46 g_ol_m427 g_si_m428 k_se_m429 k_tr_m430 k_fi_m431 k_la_m432 k_sh_m433 k_ac_m434 k_no_m435 lqf_m56 (uI (uI lnf_m57 ((5 * v61) + 2) v411) ((5 * v61) + 3) v436) lhf_m58)
def f_L_law_J436 (fu : Nat) (d_le : Int) (xc : Int → Int) (r_se_m30 : Int → Int) (r_tr_m31 : Int → Int) (r_fi_m32 : Int → Int) (r_la_m33 : Int → Int) (r_sh_m34 : Int → Int) (r_ac_m35 : Int → Int) (r_no_m36 : Int) (u_se_m37 : Int → Int) (u_tr_m38 : Int → Int) (u_fi_m39 : Int → Int) (u_la_m40 : Int → Int) (u_sh_m41 : Int → Int) (u_ac_m42 : Int → Int) (u_no_m43 : Int) (p_eh_m44 : Int → Int) (p_we_m45 : Int) (p_hf_m46 : Int → Int) (g_ol_m47 : Int) (g_si_m48 : Int) (lqf_m56 : Int → Int) (lnf_m57 : Int → Int) (lhf_m58 : Int → Int) (v59 : Int) (v61 : Int) (v411 : Int) (j42_ : (Int → Int) → (Int → Int) → (Int → Int) → (Int → Int) → (Int → Int) → (Int → Int) → Int → (Int → Int) → (Int → Int) → (Int → Int) → (Int → Int) → (Int → Int) → (Int → Int) → Int → (Int → Int) → Int → (Int → Int) → Int → Int → (Int → Int → Int) → (Int → Int → Int) → (Int → Int → Int) → (Int → Int → Int) → (Int → Int → Int) → (Int → Int → Int) → (Int → Int) → (Int → Int) → (Int → Int) → (Int → Int) → Int → Option (Int × (Int → Int) × (Int → Int) × (Int → Int) × (Int → Int) × (Int → Int) × (Int → Int) × Int × (Int → Int) × (Int → Int) × (Int → Int) × (Int → Int) × (Int → Int) × (Int → Int) × Int × (Int → Int) × Int × (Int → Int) × Int × Int × (Int → Int → Int) × (Int → Int → Int) × (Int → Int → Int) × (Int → Int → Int) × (Int → Int → Int) × (Int → Int → Int) × (Int → Int) × (Int → Int) × (Int → Int) × (Int → Int))) (k_se_m49 : Int → Int → Int) (k_tr_m50 : Int → Int → Int) (k_fi_m51 : Int → Int → Int) (k_la_m52 : Int → Int → Int) (k_sh_m53 : Int → Int → Int) (k_ac_m54 : Int → Int → Int) (k_no_m55 : Int → Int) (v413 : Int) : Option (Int × (Int → Int) × (Int → Int) × (Int → Int) × (Int → Int) × (Int → Int) × (Int → Int) × Int × (Int → Int) × (Int → Int) × (Int → Int) × (Int → Int) × (Int → Int) × (Int → Int) × Int × (Int → Int) × Int × (Int → Int) × Int × Int × (Int → Int → Int) × (Int → Int → Int) × (Int → Int → Int) × (Int → Int → Int) × (Int → Int → Int) × (Int → Int → Int) × (Int → Int) × (Int → Int) × (Int → Int) × (Int → Int)) :=
  jb11 (f_X4_shift fu r_se_m30 r_tr_m31 r_fi_m32 r_la_m33 r_sh_m34 r_ac_m35 r_no_m36 g_ol_m47 g_si_m48 k_se_m49 k_tr_m50 k_fi_m51 k_la_m52 k_sh_m53 k_ac_m54 k_no_m55 v61 v411) (fun v414 r_sh_m415 g_ol_m416 g_si_m417 k_se_m418 k_tr_m419 k_fi_m420 k_la_m421 k_sh_m422 k_ac_m423 k_no_m424 => jix 64 ((5 * v61) + 2) (jck v414 (lnf_m57 ((5 * v61) + 2)) (if v414 ≠ (lnf_m57 ((5 * v61) + 2)) then jbo 0 (some (0, r_se_m30, r_tr_m31, r_fi_m32, r_la_m33, r_sh_m415, r_ac_m35, r_no_m36, u_se_m37, u_tr_m38, u_fi_m39, u_la_m40, u_sh_m41, u_ac_m42, u_no_m43, p_eh_m44, p_we_m45, p_hf_m46, g_ol_m416, g_si_m417, k_se_m418, k_tr_m419, k_fi_m420, k_la_m421, k_sh_m422, k_ac_m423, k_no_m424, lqf_m56, lnf_m57, lhf_m58)) else jb11 (f_X4_accent fu r_se_m30 r_tr_m31 r_fi_m32 r_la_m33 r_sh_m415 r_ac_m35 r_no_m36 g_ol_m416 g_si_m417 k_se_m418 k_tr_m419 k_fi_m420 k_la_m421 k_sh_m422 k_ac_m423 k_no_m424 v61 v413) (fun v425 r_ac_m426 g_ol_m427 g_si_m428 k_se_m429 k_tr_m430 k_fi_m431 k_la_m432 k_sh_m433 k_ac_m434 k_no_m435 => jix 64 ((5 * v61) + 3) (jck v425 (lnf_m57 ((5 * v61) + 3)) (if v425 = (lnf_m57 ((5 * v61) + 3)) then jix 64 ((5 * v61) + 2) (jck v413 0 (if v413 = 0 then f_L_law_J505 fu d_le xc r_se_m30 r_tr_m31 r_fi_m32 r_la_m33 r_no_m36 u_se_m37 u_tr_m38 u_fi_m39 u_la_m40 u_sh_m41 u_ac_m42 u_no_m43 p_eh_m44 p_we_m45 p_hf_m46 lqf_m56 lnf_m57 lhf_m58 v59 v61 v411 r_sh_m415 r_ac_m426 g_ol_m427 g_si_m428 j42_ k_se_m429 k_tr_m430 k_fi_m431 k_la_m432 k_sh_m433 k_ac_m434 k_no_m435 0 else f_L_law_J505 fu d_le xc r_se_m30 r_tr_m31 r_fi_m32 r_la_m33 r_no_m36 u_se_m37 u_tr_m38 u_fi_m39 u_la_m40 u_sh_m41 u_ac_m42 u_no_m43 p_eh_m44 p_we_m45 p_hf_m46 lqf_m56 lnf_m57 lhf_m58 v59 v61 v411 r_sh_m415 r_ac_m426 g_ol_m427 g_si_m428 j42_ k_se_m429 k_tr_m430 k_fi_m431 k_la_m432 k_sh_m433 k_ac_m434 k_no_m435 1)) else jbo 0 (some (0, r_se_m30, r_tr_m31, r_fi_m32, r_la_m33, r_sh_m415, r_ac_m426, r_no_m36, u_se_m37, u_tr_m38, u_fi_m39, u_la_m40, u_sh_m41, u_ac_m42, u_no_m43, p_eh_m44, p_we_m45, p_hf_m46, g_ol_m427, g_si_m428, k_se_m429, k_tr_m430, k_fi_m431, k_la_m432, k_sh_m433, k_ac_m434, k_no_m435, lqf_m56, lnf_m57, lhf_m58))))))))
def f_L_law_X385 (fu : Nat) (d_le : Int) (xc : Int → Int) (v59 : Int) (j42_ : (Int → Int) → (Int → Int) → (Int → Int) → (Int → Int) → (Int → Int) → (Int → Int) → Int → (Int → Int) → (Int → Int) → (Int → Int) → (Int → Int) → (Int → Int) → (Int → Int) → Int → (Int → Int) → Int → (Int → Int) → Int → Int → (Int → Int → Int) → (Int → Int → Int) → (Int → Int → Int) → (Int → Int → Int) → (Int → Int → Int) → (Int → Int → Int) → (Int → Int) → (Int → Int) → (Int → Int) → (Int → Int) → Int → Option (Int × (Int → Int) × (Int → Int) × (Int → Int) × (Int → Int) × (Int → Int) × (Int → Int) × Int × (Int → Int) × (Int → Int) × (Int → Int) × (Int → Int) × (Int → Int) × (Int → Int) × Int × (Int → Int) × Int × (Int → Int) × Int × Int × (Int → Int → Int) × (Int → Int → Int) × (Int → Int → Int) × (Int → Int → Int) × (Int → Int → Int) × (Int → Int → Int) × (Int → Int) × (Int → Int) × (Int → Int) × (Int → Int))) (r_se_m454 : Int → Int) (r_tr_m455 : Int → Int) (r_fi_m456 : Int → Int) (r_la_m457 : Int → Int) (r_sh_m458 : Int → Int) (r_ac_m459 : Int → Int) (r_no_m460 : Int) (u_se_m461 : Int → Int) (u_tr_m462 : Int → Int) (u_fi_m463 : Int → Int) (u_la_m464 : Int → Int) (u_sh_m465 : Int → Int) (u_ac_m466 : Int → Int) (u_no_m467 : Int) (p_eh_m468 : Int → Int) (p_we_m469 : Int) (p_hf_m470 : Int → Int) (g_ol_m471 : Int) (g_si_m472 : Int) (k_se_m473 : Int → Int → Int) (k_tr_m474 : Int → Int → Int) (k_fi_m475 : Int → Int → Int) (k_la_m476 : Int → Int → Int) (k_sh_m477 : Int → Int → Int) (k_ac_m478 : Int → Int → Int) (k_no_m479 : Int → Int) (lqf_m480 : Int → Int) (lnf_m481 : Int → Int) (lhf_m482 : Int → Int) (v483 : Int) : Option (Int × (Int → Int) × (Int → Int) × (Int → Int) × (Int → Int) × (Int → Int) × (Int → Int) × Int × (Int → Int) × (Int → Int) × (Int → Int) × (Int → Int) × (Int → Int) × (Int → Int) × Int × (Int → Int) × Int × (Int → Int) × Int × Int × (Int → Int → Int) × (Int → Int → Int) × (Int → Int → Int) × (Int → Int → Int) × (Int → Int → Int) × (Int → Int → Int) × (Int → Int) × (Int → Int) × (Int → Int) × (Int → Int)) :=
  jix 5 4 (jix 5 4 (f_L_law_J1390 fu d_le xc v59 j42_ r_se_m454 r_tr_m455 r_fi_m456 r_la_m457 r_sh_m458 r_ac_m459 r_no_m460 u_se_m461 u_tr_m462 u_fi_m463 u_la_m464 u_sh_m465 u_ac_m466 u_no_m467 p_eh_m468 p_we_m469 p_hf_m470 g_ol_m471 g_si_m472 k_se_m473 k_tr_m474 k_fi_m475 k_la_m476 k_sh_m477 k_ac_m478 k_no_m479 (uI lqf_m480 4 ((lqf_m480 4) - 1)) lnf_m481 lhf_m482))
def f_L_law_L357_b (fu : Nat) (k357_ : (Int → Int) → (Int → Int) → (Int → Int) → (Int → Int) → (Int → Int) → (Int → Int) → Int → (Int → Int) → (Int → Int) → (Int → Int) → (Int → Int) → (Int → Int) → (Int → Int) → Int → (Int → Int) → Int → (Int → Int) → Int → Int → (Int → Int → Int) → (Int → Int → Int) → (Int → Int → Int) → (Int → Int → Int) → (Int → Int → Int) → (Int → Int → Int) → (Int → Int) → (Int → Int) → (Int → Int) → (Int → Int) → Int → Option (Int × (Int → Int) × (Int → Int) × (Int → Int) × (Int → Int) × (Int → Int) × (Int → Int) × Int × (Int → Int) × (Int → Int) × (Int → Int) × (Int → Int) × (Int → Int) × (Int → Int) × Int × (Int → Int) × Int × (Int → Int) × Int × Int × (Int → Int → Int) × (Int → Int → Int) × (Int → Int → Int) × (Int → Int → Int) × (Int → Int → Int) × (Int → Int → Int) × (Int → Int) × (Int → Int) × (Int → Int) × (Int → Int))) (j357_ : (Int → Int) → (Int → Int) → (Int → Int) → (Int → Int) → (Int → Int) → (Int → Int) → Int → (Int → Int) → (Int → Int) → (Int → Int) → (Int → Int) → (Int → Int) → (Int → Int) → Int → (Int → Int) → Int → (Int → Int) → Int → Int → (Int → Int → Int) → (Int → Int → Int) → (Int → Int → Int) → (Int → Int → Int) → (Int → Int → Int) → (Int → Int → Int) → (Int → Int) → (Int → Int) → (Int → Int) → (Int → Int) → Int → Int → Option (Int × (Int → Int) × (Int → Int) × (Int → Int) × (Int → Int) × (Int → Int) × (Int → Int) × Int × (Int → Int) × (Int → Int) × (Int → Int) × (Int → Int) × (Int → Int) × (Int → Int) × Int × (Int → Int) × Int × (Int → Int) × Int × Int × (Int → Int → Int) × (Int → Int → Int) × (Int → Int → Int) × (Int → Int → Int) × (Int → Int → Int) × (Int → Int → Int) × (Int → Int) × (Int → Int) × (Int → Int) × (Int → Int))) (r_se_m484 : Int → Int) (r_tr_m485 : Int → Int) (r_fi_m486 : Int → Int) (r_la_m487 : Int → Int) (r_sh_m488 : Int → Int) (r_ac_m489 : Int → Int) (r_no_m490 : Int) (u_se_m491 : Int → Int) (u_tr_m492 : Int → Int) (u_fi_m493 : Int → Int) (u_la_m494 : Int → Int) (u_sh_m495 : Int → Int) (u_ac_m496 : Int → Int) (u_no_m497 : Int) (p_eh_m498 : Int → Int) (p_we_m499 : Int) (p_hf_m500 : Int → Int) (g_ol_m501 : Int) (g_si_m502 : Int) (k_se_m503 : Int → Int → Int) (k_tr_m504 : Int → Int → Int) (k_fi_m505 : Int → Int → Int) (k_la_m506 : Int → Int → Int) (k_sh_m507 : Int → Int → Int) (k_ac_m508 : Int → Int → Int) (k_no_m509 : Int → Int) (lqf_m510 : Int → Int) (lnf_m511 : Int → Int) (lhf_m512 : Int → Int) (v513 : Int) (v514 : Int) : Option (Int × (Int → Int) × (Int → Int) × (Int → Int) × (Int → Int) × (Int → Int) × (Int → Int) × Int × (Int → Int) × (Int → Int) × (Int → Int) × (Int → Int) × (Int → Int) × (Int → Int) × Int × (Int → Int) × Int × (Int → Int) × Int × Int × (Int → Int → Int) × (Int → Int → Int) × (Int → Int → Int) × (Int → Int → Int) × (Int → Int → Int) × (Int → Int → Int) × (Int → Int) × (Int → Int) × (Int → Int) × (Int → Int)) :=
  jix 5 4 (jck (v514 + 5) (5 * (lqf_m510 4)) (if (5 * (lqf_m510 4)) ≤ (v514 + 5) then k357_ r_se_m484 r_tr_m485 r_fi_m486 r_la_m487 r_sh_m488 r_ac_m489 r_no_m490 u_se_m491 u_tr_m492 u_fi_m493 u_la_m494 u_sh_m495 u_ac_m496 u_no_m497 p_eh_m498 p_we_m499 p_hf_m500 g_ol_m501 g_si_m502 k_se_m503 k_tr_m504 k_fi_m505 k_la_m506 k_sh_m507 k_ac_m508 k_no_m509 lqf_m510 lnf_m511 lhf_m512 v513 else jix 64 (v514 + 5) (jix 64 v514 (j357_ r_se_m484 r_tr_m485 r_fi_m486 r_la_m487 r_sh_m488 r_ac_m489 r_no_m490 u_se_m491 u_tr_m492 u_fi_m493 u_la_m494 u_sh_m495 u_ac_m496 u_no_m497 p_eh_m498 p_we_m499 p_hf_m500 g_ol_m501 g_si_m502 k_se_m503 k_tr_m504 k_fi_m505 k_la_m506 k_sh_m507 k_ac_m508 k_no_m509 lqf_m510 (uI lnf_m511 v514 (lnf_m511 (v514 + 5))) lhf_m512 v513 (v514 + 1)))))
def f_L_law_L357 (fu : Nat) (k357_ : (Int → Int) → (Int → Int) → (Int → Int) → (Int → Int) → (Int → Int) → (Int → Int) → Int → (Int → Int) → (Int → Int) → (Int → Int) → (Int → Int) → (Int → Int) → (Int → Int) → Int → (Int → Int) → Int → (Int → Int) → Int → Int → (Int → Int → Int) → (Int → Int → Int) → (Int → Int → Int) → (Int → Int → Int) → (Int → Int → Int) → (Int → Int → Int) → (Int → Int) → (Int → Int) → (Int → Int) → (Int → Int) → Int → Option (Int × (Int → Int) × (Int → Int) × (Int → Int) × (Int → Int) × (Int → Int) × (Int → Int) × Int × (Int → Int) × (Int → Int) × (Int → Int) × (Int → Int) × (Int → Int) × (Int → Int) × Int × (Int → Int) × Int × (Int → Int) × Int × Int × (Int → Int → Int) × (Int → Int → Int) × (Int → Int → Int) × (Int → Int → Int) × (Int → Int → Int) × (Int → Int → Int) × (Int → Int) × (Int → Int) × (Int → Int) × (Int → Int))) : Nat → (Int → Int) → (Int → Int) → (Int → Int) → (Int → Int) → (Int → Int) → (Int → Int) → Int → (Int → Int) → (Int → Int) → (Int → Int) → (Int → Int) → (Int → Int) → (Int → Int) → Int → (Int → Int) → Int → (Int → Int) → Int → Int → (Int → Int → Int) → (Int → Int → Int) → (Int → Int → Int) → (Int → Int → Int) → (Int → Int → Int) → (Int → Int → Int) → (Int → Int) → (Int → Int) → (Int → Int) → (Int → Int) → Int → Int → Option (Int × (Int → Int) × (Int → Int) × (Int → Int) × (Int → Int) × (Int → Int) × (Int → Int) × Int × (Int → Int) × (Int → Int) × (Int → Int) × (Int → Int) × (Int → Int) × (Int → Int) × Int × (Int → Int) × Int × (Int → Int) × Int × Int × (Int → Int → Int) × (Int → Int → Int) × (Int → Int → Int) × (Int → Int → Int) × (Int → Int → Int) × (Int → Int → Int) × (Int → Int) × (Int → Int) × (Int → Int) × (Int → Int))
  | 0 => fun _ _ _ _ _ _ _ _ _ _ _ _ _ _ _ _ _ _ _ _ _ _ _ _ _ _ _ _ _ _ _ => none
  | n + 1 => f_L_law_L357_b fu k357_ (f_L_law_L357 fu k357_ n)
def f_L_law_J340 (fu : Nat) (d_le : Int) (xc : Int → Int) (r_se_m30 : Int → Int) (u_se_m37 : Int → Int) (u_tr_m38 : Int → Int) (u_fi_m39 : Int → Int) (u_la_m40 : Int → Int) (u_sh_m41 : Int → Int) (u_ac_m42 : Int → Int) (u_no_m43 : Int) (p_eh_m44 : Int → Int) (p_we_m45 : Int) (p_hf_m46 : Int → Int) (lqf_m56 : Int → Int) (lnf_m57 : Int → Int) (lhf_m58 : Int → Int) (v59 : Int) (v61 : Int) (v437 : Int) (r_tr_m438 : Int → Int) (r_fi_m439 : Int → Int) (r_la_m440 : Int → Int) (r_sh_m441 : Int → Int) (r_ac_m442 : Int → Int) (r_no_m443 : Int) (g_ol_m444 : Int) (g_si_m445 : Int) (j42_ : (Int → Int) → (Int → Int) → (Int → Int) → (Int → Int) → (Int → Int) → (Int → Int) → Int → (Int → Int) → (Int → Int) → (Int → Int) → (Int → Int) → (Int → Int) → (Int → Int) → Int → (Int → Int) → Int → (Int → Int) → Int → Int → (Int → Int → Int) → (Int → Int → Int) → (Int → Int → Int) → (Int → Int → Int) → (Int → Int → Int) → (Int → Int → Int) → (Int → Int) → (Int → Int) → (Int → Int) → (Int → Int) → Int → Option (Int × (Int → Int) × (Int → Int) × (Int → Int) × (Int → Int) × (Int → Int) × (Int → Int) × Int × (Int → Int) × (Int → Int) × (Int → Int) × (Int → Int) × (Int → Int) × (Int → Int) × Int × (Int → Int) × Int × (Int → Int) × Int × Int × (Int → Int → Int) × (Int → Int → Int) × (Int → Int → Int) × (Int → Int → Int) × (Int → Int → Int) × (Int → Int → Int) × (Int → Int) × (Int → Int) × (Int → Int) × (Int → Int))) (k_se_m446 : Int → Int → Int) (k_tr_m447 : Int → Int → Int) (k_fi_m448 : Int → Int → Int) (k_la_m449 : Int → Int → Int) (k_sh_m450 : Int → Int → Int) (k_ac_m451 : Int → Int → Int) (k_no_m452 : Int → Int) (v453 : Int) : Option (Int × (Int → Int) × (Int → Int) × (Int → Int) × (Int → Int) × (Int → Int) × (Int → Int) × Int × (Int → Int) × (Int → Int) × (Int → Int) × (Int → Int) × (Int → Int) × (Int → Int) × Int × (Int → Int) × Int × (Int → Int) × Int × Int × (Int → Int → Int) × (Int → Int → Int) × (Int → Int → Int) × (Int → Int → Int) × (Int → Int → Int) × (Int → Int → Int) × (Int → Int) × (Int → Int) × (Int → Int) × (Int → Int)) :=
  jck v437 v453 (if v437 = v453 then jix 5 4 (jck (lqf_m56 4) 0 (if (lqf_m56 4) ≤ 0 then f_L_law_J1390 fu d_le xc v59 j42_ r_se_m30 r_tr_m438 r_fi_m439 r_la_m440 r_sh_m441 r_ac_m442 r_no_m443 u_se_m37 u_tr_m38 u_fi_m39 u_la_m40 u_sh_m41 u_ac_m42 u_no_m43 p_eh_m44 p_we_m45 p_hf_m46 g_ol_m444 g_si_m445 k_se_m446 k_tr_m447 k_fi_m448 k_la_m449 k_sh_m450 k_ac_m451 k_no_m452 lqf_m56 lnf_m57 lhf_m58 else f_L_law_L357 fu (f_L_law_X385 fu d_le xc v59 j42_) fu r_se_m30 r_tr_m438 r_fi_m439 r_la_m440 r_sh_m441 r_ac_m442 r_no_m443 u_se_m37 u_tr_m38 u_fi_m39 u_la_m40 u_sh_m41 u_ac_m42 u_no_m43 p_eh_m44 p_we_m45 p_hf_m46 g_ol_m444 g_si_m445 k_se_m446 k_tr_m447 k_fi_m448 k_la_m449 k_sh_m450 k_ac_m451 k_no_m452 lqf_m56 lnf_m57 lhf_m58 (xc v59) (5 * v61))) else jbo 0 (some (0, r_se_m30, r_tr_m438, r_fi_m439, r_la_m440, r_sh_m441, r_ac_m442, r_no_m443, u_se_m37, u_tr_m38, u_fi_m39, u_la_m40, u_sh_m41, u_ac_m42, u_no_m43, p_eh_m44, p_we_m45, p_hf_m46, g_ol_m444, g_si_m445, k_se_m446, k_tr_m447, k_fi_m448, k_la_m449, k_sh_m450, k_ac_m451, k_no_m452, lqf_m56, lnf_m57, lhf_m58)))
def f_L_law_X310 (fu : Nat) (d_le : Int) (xc : Int → Int) (v59 : Int) (j42_ : (Int → Int) → (Int → Int) → (Int → Int) → (Int → Int) → (Int → Int) → (Int → Int) → Int → (Int → Int) → (Int → Int) → (Int → Int) → (Int → Int) → (Int → Int) → (Int → Int) → Int → (Int → Int) → Int → (Int → Int) → Int → Int → (Int → Int → Int) → (Int → Int → Int) → (Int → Int → Int) → (Int → Int → Int) → (Int → Int → Int) → (Int → Int → Int) → (Int → Int) → (Int → Int) → (Int → Int) → (Int → Int) → Int → Option (Int × (Int → Int) × (Int → Int) × (Int → Int) × (Int → Int) × (Int → Int) × (Int → Int) × Int × (Int → Int) × (Int → Int) × (Int → Int) × (Int → Int) × (Int → Int) × (Int → Int) × Int × (Int → Int) × Int × (Int → Int) × Int × Int × (Int → Int → Int) × (Int → Int → Int) × (Int → Int → Int) × (Int → Int → Int) × (Int → Int → Int) × (Int → Int → Int) × (Int → Int) × (Int → Int) × (Int → Int) × (Int → Int))) (r_se_m515 : Int → Int) (r_tr_m516 : Int → Int) (r_fi_m517 : Int → Int) (r_la_m518 : Int → Int) (r_sh_m519 : Int → Int) (r_ac_m520 : Int → Int) (r_no_m521 : Int) (u_se_m522 : Int → Int) (u_tr_m523 : Int → Int) (u_fi_m524 : Int → Int) (u_la_m525 : Int → Int) (u_sh_m526 : Int → Int) (u_ac_m527 : Int → Int) (u_no_m528 : Int) (p_eh_m529 : Int → Int) (p_we_m530 : Int) (p_hf_m531 : Int → Int) (g_ol_m532 : Int) (g_si_m533 : Int) (k_se_m534 : Int → Int → Int) (k_tr_m535 : Int → Int → Int) (k_fi_m536 : Int → Int → Int) (k_la_m537 : Int → Int → Int) (k_sh_m538 : Int → Int → Int) (k_ac_m539 : Int → Int → Int) (k_no_m540 : Int → Int) (lqf_m541 : Int → Int) (lnf_m542 : Int → Int) (lhf_m543 : Int → Int) (v544 : Int) : Option (Int × (Int → Int) × (Int → Int) × (Int → Int) × (Int → Int) × (Int → Int) × (Int → Int) × Int × (Int → Int) × (Int → Int) × (Int → Int) × (Int → Int) × (Int → Int) × (Int → Int) × Int × (Int → Int) × Int × (Int → Int) × Int × Int × (Int → Int → Int) × (Int → Int → Int) × (Int → Int → Int) × (Int → Int → Int) × (Int → Int → Int) × (Int → Int → Int) × (Int → Int) × (Int → Int) × (Int → Int) × (Int → Int)) :=
  f_L_law_J1390 fu d_le xc v59 j42_ r_se_m515 r_tr_m516 r_fi_m517 r_la_m518 r_sh_m519 r_ac_m520 r_no_m521 u_se_m522 u_tr_m523 u_fi_m524 u_la_m525 u_sh_m526 u_ac_m527 u_no_m528 p_eh_m529 p_we_m530 p_hf_m531 g_ol_m532 g_si_m533 k_se_m534 k_tr_m535 k_fi_m536 k_la_m537 k_sh_m538 k_ac_m539 k_no_m540 lqf_m541 lnf_m542 lhf_m543
def f_L_law_J299 (fu : Nat) (v574 : Int) (v575 : Int) (j119_ : (Int → Int) → (Int → Int) → (Int → Int) → (Int → Int) → (Int → Int) → (Int → Int) → Int → (Int → Int) → (Int → Int) → (Int → Int) → (Int → Int) → (Int → Int) → (Int → Int) → Int → (Int → Int) → Int → (Int → Int) → Int → Int → (Int → Int → Int) → (Int → Int → Int) → (Int → Int → Int) → (Int → Int → Int) → (Int → Int → Int) → (Int → Int → Int) → (Int → Int) → (Int → Int) → (Int → Int) → (Int → Int) → Int → Int → Option (Int × (Int → Int) × (Int → Int) × (Int → Int) × (Int → Int) × (Int → Int) × (Int → Int) × Int × (Int → Int) × (Int → Int) × (Int → Int) × (Int → Int) × (Int → Int) × (Int → Int) × Int × (Int → Int) × Int × (Int → Int) × Int × Int × (Int → Int → Int) × (Int → Int → Int) × (Int → Int → Int) × (Int → Int → Int) × (Int → Int → Int) × (Int → Int → Int) × (Int → Int) × (Int → Int) × (Int → Int) × (Int → Int))) (r_se_m600 : Int → Int) (r_tr_m601 : Int → Int) (r_fi_m602 : Int → Int) (r_la_m603 : Int → Int) (r_sh_m604 : Int → Int) (r_ac_m605 : Int → Int) (r_no_m606 : Int) (u_se_m607 : Int → Int) (u_tr_m608 : Int → Int) (u_fi_m609 : Int → Int) (u_la_m610 : Int → Int) (u_sh_m611 : Int → Int) (u_ac_m612 : Int → Int) (u_no_m613 : Int) (p_eh_m614 : Int → Int) (p_we_m615 : Int) (p_hf_m616 : Int → Int) (g_ol_m617 : Int) (g_si_m618 : Int) (k_se_m619 : Int → Int → Int) (k_tr_m620 : Int → Int → Int) (k_fi_m621 : Int → Int → Int) (k_la_m622 : Int → Int → Int) (k_sh_m623 : Int → Int → Int) (k_ac_m624 : Int → Int → Int) (k_no_m625 : Int → Int) (lqf_m626 : Int → Int) (lnf_m627 : Int → Int) (lhf_m628 : Int → Int) : Option (Int × (Int → Int) × (Int → Int) × (Int → Int) × (Int → Int) × (Int → Int) × (Int → Int) × Int × (Int → Int) × (Int → Int) × (Int → Int) × (Int → Int) × (Int → Int) × (Int → Int) × Int × (Int → Int) × Int × (Int → Int) × Int × Int × (Int → Int → Int) × (Int → Int → Int) × (Int → Int → Int) × (Int → Int → Int) × (Int → Int → Int) × (Int → Int → Int) × (Int → Int) × (Int → Int) × (Int → Int) × (Int → Int)) :=
  jb (f_L_sort fu lqf_m626 lnf_m627) (fun lnf_m629 => j119_ r_se_m600 r_tr_m601 r_fi_m602 r_la_m603 r_sh_m604 r_ac_m605 r_no_m606 u_se_m607 u_tr_m608 u_fi_m609 u_la_m610 u_sh_m611 u_ac_m612 u_no_m613 p_eh_m614 p_we_m615 p_hf_m616 g_ol_m617 g_si_m618 k_se_m619 k_tr_m620 k_fi_m621 k_la_m622 k_sh_m623 k_ac_m624 k_no_m625 lqf_m626 lnf_m629 lhf_m628 v574 (v575 + 1))
def f_L_law_J276 (fu : Nat) (r_se_m545 : Int → Int) (u_se_m552 : Int → Int) (u_tr_m553 : Int → Int) (u_fi_m554 : Int → Int) (u_la_m555 : Int → Int) (u_sh_m556 : Int → Int) (u_ac_m557 : Int → Int) (u_no_m558 : Int) (p_eh_m559 : Int → Int) (p_we_m560 : Int) (p_hf_m561 : Int → Int) (lqf_m571 : Int → Int) (lnf_m572 : Int → Int) (lhf_m573 : Int → Int) (v574 : Int) (v575 : Int) (v576 : Int) (v577 : Int) (v580 : Int) (v581 : Int) (v583 : Int) (r_tr_m584 : Int → Int) (r_fi_m585 : Int → Int) (r_la_m586 : Int → Int) (r_sh_m587 : Int → Int) (r_ac_m588 : Int → Int) (r_no_m589 : Int) (g_ol_m590 : Int) (g_si_m591 : Int) (j119_ : (Int → Int) → (Int → Int) → (Int → Int) → (Int → Int) → (Int → Int) → (Int → Int) → Int → (Int → Int) → (Int → Int) → (Int → Int) → (Int → Int) → (Int → Int) → (Int → Int) → Int → (Int → Int) → Int → (Int → Int) → Int → Int → (Int → Int → Int) → (Int → Int → Int) → (Int → Int → Int) → (Int → Int → Int) → (Int → Int → Int) → (Int → Int → Int) → (Int → Int) → (Int → Int) → (Int → Int) → (Int → Int) → Int → Int → Option (Int × (Int → Int) × (Int → Int) × (Int → Int) × (Int → Int) × (Int → Int) × (Int → Int) × Int × (Int → Int) × (Int → Int) × (Int → Int) × (Int → Int) × (Int → Int) × (Int → Int) × Int × (Int → Int) × Int × (Int → Int) × Int × Int × (Int → Int → Int) × (Int → Int → Int) × (Int → Int → Int) × (Int → Int → Int) × (Int → Int → Int) × (Int → Int → Int) × (Int → Int) × (Int → Int) × (Int → Int) × (Int → Int))) (k_se_m592 : Int → Int → Int) (k_tr_m593 : Int → Int → Int) (k_fi_m594 : Int → Int → Int) (k_la_m595 : Int → Int → Int) (k_sh_m596 : Int → Int → Int) (k_ac_m597 : Int → Int → Int) (k_no_m598 : Int → Int) (v599 : Int) : Option (Int × (Int → Int) × (Int → Int) × (Int → Int) × (Int → Int) × (Int → Int) × (Int → Int) × Int × (Int → Int) × (Int → Int) × (Int → Int) × (Int → Int) × (Int → Int) × (Int → Int) × Int × (Int → Int) × Int × (Int → Int) × Int × Int × (Int → Int → Int) × (Int → Int → Int) × (Int → Int → Int) × (Int → Int → Int) × (Int → Int → Int) × (Int → Int → Int) × (Int → Int) × (Int → Int) × (Int → Int) × (Int → Int)) :=
  jck v583 v599 (if v583 = v599 then jck v580 0 (if v580 = 0 then f_L_law_J299 fu v574 v575 j119_ r_se_m545 r_tr_m584 r_fi_m585 r_la_m586 r_sh_m587 r_ac_m588 r_no_m589 u_se_m552 u_tr_m553 u_fi_m554 u_la_m555 u_sh_m556 u_ac_m557 u_no_m558 p_eh_m559 p_we_m560 p_hf_m561 g_ol_m590 g_si_m591 k_se_m592 k_tr_m593 k_fi_m594 k_la_m595 k_sh_m596 k_ac_m597 k_no_m598 lqf_m571 lnf_m572 lhf_m573 else jb2 (f_L_add fu lqf_m571 lnf_m572 v576 v577 v581 0 0) (fun lqf_m630 lnf_m631 => f_L_law_J299 fu v574 v575 j119_ r_se_m545 r_tr_m584 r_fi_m585 r_la_m586 r_sh_m587 r_ac_m588 r_no_m589 u_se_m552 u_tr_m553 u_fi_m554 u_la_m555 u_sh_m556 u_ac_m557 u_no_m558 p_eh_m559 p_we_m560 p_hf_m561 g_ol_m590 g_si_m591 k_se_m592 k_tr_m593 k_fi_m594 k_la_m595 k_sh_m596 k_ac_m597 k_no_m598 lqf_m630 lnf_m631 lhf_m573)) else jbo 0 (some (0, r_se_m545, r_tr_m584, r_fi_m585, r_la_m586, r_sh_m587, r_ac_m588, r_no_m589, u_se_m552, u_tr_m553, u_fi_m554, u_la_m555, u_sh_m556, u_ac_m557, u_no_m558, p_eh_m559, p_we_m560, p_hf_m561, g_ol_m590, g_si_m591, k_se_m592, k_tr_m593, k_fi_m594, k_la_m595, k_sh_m596, k_ac_m597, k_no_m598, lqf_m571, lnf_m572, lhf_m573)))
def f_L_law_X254 (fu : Nat) (r_se_m545 : Int → Int) (r_tr_m546 : Int → Int) (r_fi_m547 : Int → Int) (r_la_m548 : Int → Int) (r_sh_m549 : Int → Int) (r_ac_m550 : Int → Int) (r_no_m551 : Int) (u_se_m552 : Int → Int) (u_tr_m553 : Int → Int) (u_fi_m554 : Int → Int) (u_la_m555 : Int → Int) (u_sh_m556 : Int → Int) (u_ac_m557 : Int → Int) (u_no_m558 : Int) (p_eh_m559 : Int → Int) (p_we_m560 : Int) (p_hf_m561 : Int → Int) (g_ol_m562 : Int) (g_si_m563 : Int) (lqf_m571 : Int → Int) (lnf_m572 : Int → Int) (lhf_m573 : Int → Int) (v574 : Int) (v575 : Int) (v576 : Int) (v577 : Int) (v580 : Int) (j119_ : (Int → Int) → (Int → Int) → (Int → Int) → (Int → Int) → (Int → Int) → (Int → Int) → Int → (Int → Int) → (Int → Int) → (Int → Int) → (Int → Int) → (Int → Int) → (Int → Int) → Int → (Int → Int) → Int → (Int → Int) → Int → Int → (Int → Int → Int) → (Int → Int → Int) → (Int → Int → Int) → (Int → Int → Int) → (Int → Int → Int) → (Int → Int → Int) → (Int → Int) → (Int → Int) → (Int → Int) → (Int → Int) → Int → Int → Option (Int × (Int → Int) × (Int → Int) × (Int → Int) × (Int → Int) × (Int → Int) × (Int → Int) × Int × (Int → Int) × (Int → Int) × (Int → Int) × (Int → Int) × (Int → Int) × (Int → Int) × Int × (Int → Int) × Int × (Int → Int) × Int × Int × (Int → Int → Int) × (Int → Int → Int) × (Int → Int → Int) × (Int → Int → Int) × (Int → Int → Int) × (Int → Int → Int) × (Int → Int) × (Int → Int) × (Int → Int) × (Int → Int))) (k_se_m564 : Int → Int → Int) (k_tr_m565 : Int → Int → Int) (k_fi_m566 : Int → Int → Int) (k_la_m567 : Int → Int → Int) (k_sh_m568 : Int → Int → Int) (k_ac_m569 : Int → Int → Int) (k_no_m570 : Int → Int) (v581 : Int) (v582 : Int) : Option (Int × (Int → Int) × (Int → Int) × (Int → Int) × (Int → Int) × (Int → Int) × (Int → Int) × Int × (Int → Int) × (Int → Int) × (Int → Int) × (Int → Int) × (Int → Int) × (Int → Int) × Int × (Int → Int) × Int × (Int → Int) × Int × Int × (Int → Int → Int) × (Int → Int → Int) × (Int → Int → Int) × (Int → Int → Int) × (Int → Int → Int) × (Int → Int → Int) × (Int → Int) × (Int → Int) × (Int → Int) × (Int → Int)) :=
  jb16 (f_X4_note fu r_se_m545 r_tr_m546 r_fi_m547 r_la_m548 r_sh_m549 r_ac_m550 r_no_m551 g_ol_m562 g_si_m563 k_se_m564 k_tr_m565 k_fi_m566 k_la_m567 k_sh_m568 k_ac_m569 k_no_m570 v576 v577 v581) (fun v583 r_tr_m584 r_fi_m585 r_la_m586 r_sh_m587 r_ac_m588 r_no_m589 g_ol_m590 g_si_m591 k_se_m592 k_tr_m593 k_fi_m594 k_la_m595 k_sh_m596 k_ac_m597 k_no_m598 => jck v580 0 (if v580 = 0 then f_L_law_J276 fu r_se_m545 u_se_m552 u_tr_m553 u_fi_m554 u_la_m555 u_sh_m556 u_ac_m557 u_no_m558 p_eh_m559 p_we_m560 p_hf_m561 lqf_m571 lnf_m572 lhf_m573 v574 v575 v576 v577 v580 v581 v583 r_tr_m584 r_fi_m585 r_la_m586 r_sh_m587 r_ac_m588 r_no_m589 g_ol_m590 g_si_m591 j119_ k_se_m592 k_tr_m593 k_fi_m594 k_la_m595 k_sh_m596 k_ac_m597 k_no_m598 (-5) else f_L_law_J276 fu r_se_m545 u_se_m552 u_tr_m553 u_fi_m554 u_la_m555 u_sh_m556 u_ac_m557 u_no_m558 p_eh_m559 p_we_m560 p_hf_m561 lqf_m571 lnf_m572 lhf_m573 v574 v575 v576 v577 v580 v581 v583 r_tr_m584 r_fi_m585 r_la_m586 r_sh_m587 r_ac_m588 r_no_m589 g_ol_m590 g_si_m591 j119_ k_se_m592 k_tr_m593 k_fi_m594 k_la_m595 k_sh_m596 k_ac_m597 k_no_m598 v582))
def f_L_law_L213_b (fu : Nat) (lqf_m571 : Int → Int) (lnf_m572 : Int → Int) (v576 : Int) (v577 : Int) (k213_ : Int → Int → Option (Int × (Int → Int) × (Int → Int) × (Int → Int) × (Int → Int) × (Int → Int) × (Int → Int) × Int × (Int → Int) × (Int → Int) × (Int → Int) × (Int → Int) × (Int → Int) × (Int → Int) × Int × (Int → Int) × Int × (Int → Int) × Int × Int × (Int → Int → Int) × (Int → Int → Int) × (Int → Int → Int) × (Int → Int → Int) × (Int → Int → Int) × (Int → Int → Int) × (Int → Int) × (Int → Int) × (Int → Int) × (Int → Int))) (j213_ : Int → Int → Int → Option (Int × (Int → Int) × (Int → Int) × (Int → Int) × (Int → Int) × (Int → Int) × (Int → Int) × Int × (Int → Int) × (Int → Int) × (Int → Int) × (Int → Int) × (Int → Int) × (Int → Int) × Int × (Int → Int) × Int × (Int → Int) × Int × Int × (Int → Int → Int) × (Int → Int → Int) × (Int → Int → Int) × (Int → Int → Int) × (Int → Int → Int) × (Int → Int → Int) × (Int → Int) × (Int → Int) × (Int → Int) × (Int → Int))) (v632 : Int) (v633 : Int) (v634 : Int) : Option (Int × (Int → Int) × (Int → Int) × (Int → Int) × (Int → Int) × (Int → Int) × (Int → Int) × Int × (Int → Int) × (Int → Int) × (Int → Int) × (Int → Int) × (Int → Int) × (Int → Int) × Int × (Int → Int) × Int × (Int → Int) × Int × Int × (Int → Int → Int) × (Int → Int → Int) × (Int → Int → Int) × (Int → Int → Int) × (Int → Int → Int) × (Int → Int → Int) × (Int → Int) × (Int → Int) × (Int → Int) × (Int → Int)) :=
  jix 5 4 (jck v634 (lqf_m571 4) (if (lqf_m571 4) ≤ v634 then k213_ v632 v633 else jix 64 (5 * v634) (jck (lnf_m572 (5 * v634)) ((100 * v577) + v576) (if ((100 * v577) + v576) ≤ (lnf_m572 (5 * v634)) then j213_ v632 (v633 + 0) (v634 + 1) else j213_ v632 (v633 + 1) (v634 + 1)))))
def f_L_law_L213 (fu : Nat) (lqf_m571 : Int → Int) (lnf_m572 : Int → Int) (v576 : Int) (v577 : Int) (k213_ : Int → Int → Option (Int × (Int → Int) × (Int → Int) × (Int → Int) × (Int → Int) × (Int → Int) × (Int → Int) × Int × (Int → Int) × (Int → Int) × (Int → Int) × (Int → Int) × (Int → Int) × (Int → Int) × Int × (Int → Int) × Int × (Int → Int) × Int × Int × (Int → Int → Int) × (Int → Int → Int) × (Int → Int → Int) × (Int → Int → Int) × (Int → Int → Int) × (Int → Int → Int) × (Int → Int) × (Int → Int) × (Int → Int) × (Int → Int))) : Nat → Int → Int → Int → Option (Int × (Int → Int) × (Int → Int) × (Int → Int) × (Int → Int) × (Int → Int) × (Int → Int) × Int × (Int → Int) × (Int → Int) × (Int → Int) × (Int → Int) × (Int → Int) × (Int → Int) × Int × (Int → Int) × Int × (Int → Int) × Int × Int × (Int → Int → Int) × (Int → Int → Int) × (Int → Int → Int) × (Int → Int → Int) × (Int → Int → Int) × (Int → Int → Int) × (Int → Int) × (Int → Int) × (Int → Int) × (Int → Int))
  | 0 => fun _ _ _ => none
  | n + 1 => f_L_law_L213_b fu lqf_m571 lnf_m572 v576 v577 k213_ (f_L_law_L213 fu lqf_m571 lnf_m572 v576 v577 k213_ n)
def f_L_law_J205 (fu : Nat) (r_se_m545 : Int → Int) (r_tr_m546 : Int → Int) (r_fi_m547 : Int → Int) (r_la_m548 : Int → Int) (r_sh_m549 : Int → Int) (r_ac_m550 : Int → Int) (r_no_m551 : Int) (u_se_m552 : Int → Int) (u_tr_m553 : Int → Int) (u_fi_m554 : Int → Int) (u_la_m555 : Int → Int) (u_sh_m556 : Int → Int) (u_ac_m557 : Int → Int) (u_no_m558 : Int) (p_eh_m559 : Int → Int) (p_we_m560 : Int) (p_hf_m561 : Int → Int) (g_ol_m562 : Int) (g_si_m563 : Int) (lqf_m571 : Int → Int) (lnf_m572 : Int → Int) (lhf_m573 : Int → Int) (v574 : Int) (v575 : Int) (v576 : Int) (v577 : Int) (v578 : Int) (j119_ : (Int → Int) → (Int → Int) → (Int → Int) → (Int → Int) → (Int → Int) → (Int → Int) → Int → (Int → Int) → (Int → Int) → (Int → Int) → (Int → Int) → (Int → Int) → (Int → Int) → Int → (Int → Int) → Int → (Int → Int) → Int → Int → (Int → Int → Int) → (Int → Int → Int) → (Int → Int → Int) → (Int → Int → Int) → (Int → Int → Int) → (Int → Int → Int) → (Int → Int) → (Int → Int) → (Int → Int) → (Int → Int) → Int → Int → Option (Int × (Int → Int) × (Int → Int) × (Int → Int) × (Int → Int) × (Int → Int) × (Int → Int) × Int × (Int → Int) × (Int → Int) × (Int → Int) × (Int → Int) × (Int → Int) × (Int → Int) × Int × (Int → Int) × Int × (Int → Int) × Int × Int × (Int → Int → Int) × (Int → Int → Int) × (Int → Int → Int) × (Int → Int → Int) × (Int → Int → Int) × (Int → Int → Int) × (Int → Int) × (Int → Int) × (Int → Int) × (Int → Int))) (k_se_m564 : Int → Int → Int) (k_tr_m565 : Int → Int → Int) (k_fi_m566 : Int → Int → Int) (k_la_m567 : Int → Int → Int) (k_sh_m568 : Int → Int → Int) (k_ac_m569 : Int → Int → Int) (k_no_m570 : Int → Int) (v580 : Int) : Option (Int × (Int → Int) × (Int → Int) × (Int → Int) × (Int → Int) × (Int → Int) × (Int → Int) × Int × (Int → Int) × (Int → Int) × (Int → Int) × (Int → Int) × (Int → Int) × (Int → Int) × Int × (Int → Int) × Int × (Int → Int) × Int × Int × (Int → Int → Int) × (Int → Int → Int) × (Int → Int → Int) × (Int → Int → Int) × (Int → Int → Int) × (Int → Int → Int) × (Int → Int) × (Int → Int) × (Int → Int) × (Int → Int)) :=
  f_L_law_L213 fu lqf_m571 lnf_m572 v576 v577 (f_L_law_X254 fu r_se_m545 r_tr_m546 r_fi_m547 r_la_m548 r_sh_m549 r_ac_m550 r_no_m551 u_se_m552 u_tr_m553 u_fi_m554 u_la_m555 u_sh_m556 u_ac_m557 u_no_m558 p_eh_m559 p_we_m560 p_hf_m561 g_ol_m562 g_si_m563 lqf_m571 lnf_m572 lhf_m573 v574 v575 v576 v577 v580 j119_ k_se_m564 k_tr_m565 k_fi_m566 k_la_m567 k_sh_m568 k_ac_m569 k_no_m570) fu (v577 + v578) 0 0
def f_L_law_L119_b (fu : Nat) (k119_ : (Int → Int) → (Int → Int) → (Int → Int) → (Int → Int) → (Int → Int) → (Int → Int) → Int → (Int → Int) → (Int → Int) → (Int → Int) → (Int → Int) → (Int → Int) → (Int → Int) → Int → (Int → Int) → Int → (Int → Int) → Int → Int → (Int → Int → Int) → (Int → Int → Int) → (Int → Int → Int) → (Int → Int → Int) → (Int → Int → Int) → (Int → Int → Int) → (Int → Int) → (Int → Int) → (Int → Int) → (Int → Int) → Int → Option (Int × (Int → Int) × (Int → Int) × (Int → Int) × (Int → Int) × (Int → Int) × (Int → Int) × Int × (Int → Int) × (Int → Int) × (Int → Int) × (Int → Int) × (Int → Int) × (Int → Int) × Int × (Int → Int) × Int × (Int → Int) × Int × Int × (Int → Int → Int) × (Int → Int → Int) × (Int → Int → Int) × (Int → Int → Int) × (Int → Int → Int) × (Int → Int → Int) × (Int → Int) × (Int → Int) × (Int → Int) × (Int → Int))) (j119_ : (Int → Int) → (Int → Int) → (Int → Int) → (Int → Int) → (Int → Int) → (Int → Int) → Int → (Int → Int) → (Int → Int) → (Int → Int) → (Int → Int) → (Int → Int) → (Int → Int) → Int → (Int → Int) → Int → (Int → Int) → Int → Int → (Int → Int → Int) → (Int → Int → Int) → (Int → Int → Int) → (Int → Int → Int) → (Int → Int → Int) → (Int → Int → Int) → (Int → Int) → (Int → Int) → (Int → Int) → (Int → Int) → Int → Int → Option (Int × (Int → Int) × (Int → Int) × (Int → Int) × (Int → Int) × (Int → Int) × (Int → Int) × Int × (Int → Int) × (Int → Int) × (Int → Int) × (Int → Int) × (Int → Int) × (Int → Int) × Int × (Int → Int) × Int × (Int → Int) × Int × Int × (Int → Int → Int) × (Int → Int → Int) × (Int → Int → Int) × (Int → Int → Int) × (Int → Int → Int) × (Int → Int → Int) × (Int → Int) × (Int → Int) × (Int → Int) × (Int → Int))) (r_se_m545 : Int → Int) (r_tr_m546 : Int → Int) (r_fi_m547 : Int → Int) (r_la_m548 : Int → Int) (r_sh_m549 : Int → Int) (r_ac_m550 : Int → Int) (r_no_m551 : Int) (u_se_m552 : Int → Int) (u_tr_m553 : Int → Int) (u_fi_m554 : Int → Int) (u_la_m555 : Int → Int) (u_sh_m556 : Int → Int) (u_ac_m557 : Int → Int) (u_no_m558 : Int) (p_eh_m559 : Int → Int) (p_we_m560 : Int) (p_hf_m561 : Int → Int) (g_ol_m562 : Int) (g_si_m563 : Int) (k_se_m564 : Int → Int → Int) (k_tr_m565 : Int → Int → Int) (k_fi_m566 : Int → Int → Int) (k_la_m567 : Int → Int → Int) (k_sh_m568 : Int → Int → Int) (k_ac_m569 : Int → Int → Int) (k_no_m570 : Int → Int) (lqf_m571 : Int → Int) (lnf_m572 : Int → Int) (lhf_m573 : Int → Int) (v574 : Int) (v575 : Int) : Option (Int × (Int → Int) × (Int → Int) × (Int → Int) × (Int → Int) × (Int → Int) × (Int → Int) × Int × (Int → Int) × (Int → Int) × (Int → Int) × (Int → Int) × (Int → Int) × (Int → Int) × Int × (Int → Int) × Int × (Int → Int) × Int × Int × (Int → Int → Int) × (Int → Int → Int) × (Int → Int → Int) × (Int → Int → Int) × (Int → Int → Int) × (Int → Int → Int) × (Int → Int) × (Int → Int) × (Int → Int) × (Int → Int)) :=
  jck v575 2 (if 2 ≤ v575 then k119_ r_se_m545 r_tr_m546 r_fi_m547 r_la_m548 r_sh_m549 r_ac_m550 r_no_m551 u_se_m552 u_tr_m553 u_fi_m554 u_la_m555 u_sh_m556 u_ac_m557 u_no_m558 p_eh_m559 p_we_m560 p_hf_m561 g_ol_m562 g_si_m563 k_se_m564 k_tr_m565 k_fi_m566 k_la_m567 k_sh_m568 k_ac_m569 k_no_m570 lqf_m571 lnf_m572 lhf_m573 v574 else jix 5 4 (jck (lqf_m571 4) 12 (if 12 ≤ (lqf_m571 4) then k119_ r_se_m545 r_tr_m546 r_fi_m547 r_la_m548 r_sh_m549 r_ac_m550 r_no_m551 u_se_m552 u_tr_m553 u_fi_m554 u_la_m555 u_sh_m556 u_ac_m557 u_no_m558 p_eh_m559 p_we_m560 p_hf_m561 g_ol_m562 g_si_m563 k_se_m564 k_tr_m565 k_fi_m566 k_la_m567 k_sh_m568 k_ac_m569 k_no_m570 lqf_m571 lnf_m572 lhf_m573 v574 else jb (f_L_low fu (jshr v574 (4 + (3 * v575))) 12) (fun v576 => jb (f_L_low fu (jshr v574 (7 + (3 * v575))) 44) (fun v577 => jb (f_L_low fu (jshr v574 (9 + (3 * v575))) 12) (fun v578 => jb (f_L_taken fu lqf_m571 lnf_m572 v576 v577 (v577 + v578)) (fun v579 => jck v579 0 (if v579 ≠ 0 then f_L_law_J205 fu r_se_m545 r_tr_m546 r_fi_m547 r_la_m548 r_sh_m549 r_ac_m550 r_no_m551 u_se_m552 u_tr_m553 u_fi_m554 u_la_m555 u_sh_m556 u_ac_m557 u_no_m558 p_eh_m559 p_we_m560 p_hf_m561 g_ol_m562 g_si_m563 lqf_m571 lnf_m572 lhf_m573 v574 v575 v576 v577 v578 j119_ k_se_m564 k_tr_m565 k_fi_m566 k_la_m567 k_sh_m568 k_ac_m569 k_no_m570 0 else f_L_law_J205 fu r_se_m545 r_tr_m546 r_fi_m547 r_la_m548 r_sh_m549 r_ac_m550 r_no_m551 u_se_m552 u_tr_m553 u_fi_m554 u_la_m555 u_sh_m556 u_ac_m557 u_no_m558 p_eh_m559 p_we_m560 p_hf_m561 g_ol_m562 g_si_m563 lqf_m571 lnf_m572 lhf_m573 v574 v575 v576 v577 v578 j119_ k_se_m564 k_tr_m565 k_fi_m566 k_la_m567 k_sh_m568 k_ac_m569 k_no_m570 1))))))))
def f_L_law_L119 (fu : Nat) (k119_ : (Int → Int) → (Int → Int) → (Int → Int) → (Int → Int) → (Int → Int) → (Int → Int) → Int → (Int → Int) → (Int → Int) → (Int → Int) → (Int → Int) → (Int → Int) → (Int → Int) → Int → (Int → Int) → Int → (Int → Int) → Int → Int → (Int → Int → Int) → (Int → Int → Int) → (Int → Int → Int) → (Int → Int → Int) → (Int → Int → Int) → (Int → Int → Int) → (Int → Int) → (Int → Int) → (Int → Int) → (Int → Int) → Int → Option (Int × (Int → Int) × (Int → Int) × (Int → Int) × (Int → Int) × (Int → Int) × (Int → Int) × Int × (Int → Int) × (Int → Int) × (Int → Int) × (Int → Int) × (Int → Int) × (Int → Int) × Int × (Int → Int) × Int × (Int → Int) × Int × Int × (Int → Int → Int) × (Int → Int → Int) × (Int → Int → Int) × (Int → Int → Int) × (Int → Int → Int) × (Int → Int → Int) × (Int → Int) × (Int → Int) × (Int → Int) × (Int → Int))) : Nat → (Int → Int) → (Int → Int) → (Int → Int) → (Int → Int) → (Int → Int) → (Int → Int) → Int → (Int → Int) → (Int → Int) → (Int → Int) → (Int → Int) → (Int → Int) → (Int → Int) → Int → (Int → Int) → Int → (Int → Int) → Int → Int → (Int → Int → Int) → (Int → Int → Int) → (Int → Int → Int) → (Int → Int → Int) → (Int → Int → Int) → (Int → Int → Int) → (Int → Int) → (Int → Int) → (Int → Int) → (Int → Int) → Int → Int → Option (Int × (Int → Int) × (Int → Int) × (Int → Int) × (Int → Int) × (Int → Int) × (Int → Int) × Int × (Int → Int) × (Int → Int) × (Int → Int) × (Int → Int) × (Int → Int) × (Int → Int) × Int × (Int → Int) × Int × (Int → Int) × Int × Int × (Int → Int → Int) × (Int → Int → Int) × (Int → Int → Int) × (Int → Int → Int) × (Int → Int → Int) × (Int → Int → Int) × (Int → Int) × (Int → Int) × (Int → Int) × (Int → Int))
  | 0 => fun _ _ _ _ _ _ _ _ _ _ _ _ _ _ _ _ _ _ _ _ _ _ _ _ _ _ _ _ _ _ _ => none
  | n + 1 => f_L_law_L119_b fu k119_ (f_L_law_L119 fu k119_ n)
def f_L_law_J96 (fu : Nat) (d_le : Int) (xc : Int → Int) (r_se_m30 : Int → Int) (r_tr_m31 : Int → Int) (r_fi_m32 : Int → Int) (r_la_m33 : Int → Int) (r_sh_m34 : Int → Int) (r_ac_m35 : Int → Int) (r_no_m36 : Int) (u_se_m37 : Int → Int) (u_tr_m38 : Int → Int) (u_fi_m39 : Int → Int) (u_la_m40 : Int → Int) (u_sh_m41 : Int → Int) (u_ac_m42 : Int → Int) (u_no_m43 : Int) (p_eh_m44 : Int → Int) (p_we_m45 : Int) (p_hf_m46 : Int → Int) (g_ol_m47 : Int) (g_si_m48 : Int) (lqf_m56 : Int → Int) (lnf_m57 : Int → Int) (lhf_m58 : Int → Int) (v59 : Int) (v60 : Int) (j42_ : (Int → Int) → (Int → Int) → (Int → Int) → (Int → Int) → (Int → Int) → (Int → Int) → Int → (Int → Int) → (Int → Int) → (Int → Int) → (Int → Int) → (Int → Int) → (Int → Int) → Int → (Int → Int) → Int → (Int → Int) → Int → Int → (Int → Int → Int) → (Int → Int → Int) → (Int → Int → Int) → (Int → Int → Int) → (Int → Int → Int) → (Int → Int → Int) → (Int → Int) → (Int → Int) → (Int → Int) → (Int → Int) → Int → Option (Int × (Int → Int) × (Int → Int) × (Int → Int) × (Int → Int) × (Int → Int) × (Int → Int) × Int × (Int → Int) × (Int → Int) × (Int → Int) × (Int → Int) × (Int → Int) × (Int → Int) × Int × (Int → Int) × Int × (Int → Int) × Int × Int × (Int → Int → Int) × (Int → Int → Int) × (Int → Int → Int) × (Int → Int → Int) × (Int → Int → Int) × (Int → Int → Int) × (Int → Int) × (Int → Int) × (Int → Int) × (Int → Int))) (k_se_m49 : Int → Int → Int) (k_tr_m50 : Int → Int → Int) (k_fi_m51 : Int → Int → Int) (k_la_m52 : Int → Int → Int) (k_sh_m53 : Int → Int → Int) (k_ac_m54 : Int → Int → Int) (k_no_m55 : Int → Int) (v61 : Int) : Option (Int × (Int → Int) × (Int → Int) × (Int → Int) × (Int → Int) × (Int → Int) × (Int → Int) × Int × (Int → Int) × (Int → Int) × (Int → Int) × (Int → Int) × (Int → Int) × (Int → Int) × Int × (Int → Int) × Int × (Int → Int) × Int × Int × (Int → Int → Int) × (Int → Int → Int) × (Int → Int → Int) × (Int → Int → Int) × (Int → Int → Int) × (Int → Int → Int) × (Int → Int) × (Int → Int) × (Int → Int) × (Int → Int)) :=
  jb (f_L_low fu (jshr (xc v59) 6) 60) (fun v62 => jck v60 4 (if 4 ≤ v60 then jck v60 4 (if v60 ≠ 4 then jck v60 5 (if v60 ≠ 5 then f_L_law_J509 fu d_le xc r_se_m30 r_tr_m31 r_fi_m32 r_la_m33 r_sh_m34 r_ac_m35 r_no_m36 u_se_m37 u_tr_m38 u_fi_m39 u_la_m40 u_sh_m41 u_ac_m42 u_no_m43 p_eh_m44 p_we_m45 p_hf_m46 g_ol_m47 g_si_m48 lqf_m56 lnf_m57 lhf_m58 v59 v60 v62 j42_ k_se_m49 k_tr_m50 k_fi_m51 k_la_m52 k_sh_m53 k_ac_m54 k_no_m55 else jix 5 4 (jck (lqf_m56 4) 0 (if (lqf_m56 4) ≤ 0 then f_L_law_J509 fu d_le xc r_se_m30 r_tr_m31 r_fi_m32 r_la_m33 r_sh_m34 r_ac_m35 r_no_m36 u_se_m37 u_tr_m38 u_fi_m39 u_la_m40 u_sh_m41 u_ac_m42 u_no_m43 p_eh_m44 p_we_m45 p_hf_m46 g_ol_m47 g_si_m48 lqf_m56 lnf_m57 lhf_m58 v59 v60 v62 j42_ k_se_m49 k_tr_m50 k_fi_m51 k_la_m52 k_sh_m53 k_ac_m54 k_no_m55 else jb (f_L_low fu (jshr (xc v59) 8) 13) (fun v411 => jb (f_L_low fu (jshr (xc v59) 10) 2) (fun v412 => jck v412 0 (if v412 ≠ 0 then f_L_law_J436 fu d_le xc r_se_m30 r_tr_m31 r_fi_m32 r_la_m33 r_sh_m34 r_ac_m35 r_no_m36 u_se_m37 u_tr_m38 u_fi_m39 u_la_m40 u_sh_m41 u_ac_m42 u_no_m43 p_eh_m44 p_we_m45 p_hf_m46 g_ol_m47 g_si_m48 lqf_m56 lnf_m57 lhf_m58 v59 v61 v411 j42_ k_se_m49 k_tr_m50 k_fi_m51 k_la_m52 k_sh_m53 k_ac_m54 k_no_m55 0 else f_L_law_J436 fu d_le xc r_se_m30 r_tr_m31 r_fi_m32 r_la_m33 r_sh_m34 r_ac_m35 r_no_m36 u_se_m37 u_tr_m38 u_fi_m39 u_la_m40 u_sh_m41 u_ac_m42 u_no_m43 p_eh_m44 p_we_m45 p_hf_m46 g_ol_m47 g_si_m48 lqf_m56 lnf_m57 lhf_m58 v59 v61 v411 j42_ k_se_m49 k_tr_m50 k_fi_m51 k_la_m52 k_sh_m53 k_ac_m54 k_no_m55 1)))))) else jb16 (f_X4_drop fu r_se_m30 r_tr_m31 r_fi_m32 r_la_m33 r_sh_m34 r_ac_m35 r_no_m36 g_ol_m47 g_si_m48 k_se_m49 k_tr_m50 k_fi_m51 k_la_m52 k_sh_m53 k_ac_m54 k_no_m55 v61) (fun v437 r_tr_m438 r_fi_m439 r_la_m440 r_sh_m441 r_ac_m442 r_no_m443 g_ol_m444 g_si_m445 k_se_m446 k_tr_m447 k_fi_m448 k_la_m449 k_sh_m450 k_ac_m451 k_no_m452 => jix 5 4 (jck (lqf_m56 4) 0 (if (lqf_m56 4) ≠ 0 then jix 5 4 (f_L_law_J340 fu d_le xc r_se_m30 u_se_m37 u_tr_m38 u_fi_m39 u_la_m40 u_sh_m41 u_ac_m42 u_no_m43 p_eh_m44 p_we_m45 p_hf_m46 lqf_m56 lnf_m57 lhf_m58 v59 v61 v437 r_tr_m438 r_fi_m439 r_la_m440 r_sh_m441 r_ac_m442 r_no_m443 g_ol_m444 g_si_m445 j42_ k_se_m446 k_tr_m447 k_fi_m448 k_la_m449 k_sh_m450 k_ac_m451 k_no_m452 ((lqf_m56 4) - 1)) else f_L_law_J340 fu d_le xc r_se_m30 u_se_m37 u_tr_m38 u_fi_m39 u_la_m40 u_sh_m41 u_ac_m42 u_no_m43 p_eh_m44 p_we_m45 p_hf_m46 lqf_m56 lnf_m57 lhf_m58 v59 v61 v437 r_tr_m438 r_fi_m439 r_la_m440 r_sh_m441 r_ac_m442 r_no_m443 g_ol_m444 g_si_m445 j42_ k_se_m446 k_tr_m447 k_fi_m448 k_la_m449 k_sh_m450 k_ac_m451 k_no_m452 (-1))))) else f_L_law_L119 fu (f_L_law_X310 fu d_le xc v59 j42_) fu r_se_m30 r_tr_m31 r_fi_m32 r_la_m33 r_sh_m34 r_ac_m35 r_no_m36 u_se_m37 u_tr_m38 u_fi_m39 u_la_m40 u_sh_m41 u_ac_m42 u_no_m43 p_eh_m44 p_we_m45 p_hf_m46 g_ol_m47 g_si_m48 k_se_m49 k_tr_m50 k_fi_m51 k_la_m52 k_sh_m53 k_ac_m54 k_no_m55 lqf_m56 lnf_m57 lhf_m58 (xc v59) 0))
def f_L_law_J74 (fu : Nat) (d_le : Int) (xc : Int → Int) (r_se_m30 : Int → Int) (r_tr_m31 : Int → Int) (r_fi_m32 : Int → Int) (r_la_m33 : Int → Int) (r_sh_m34 : Int → Int) (r_ac_m35 : Int → Int) (r_no_m36 : Int) (u_se_m37 : Int → Int) (u_tr_m38 : Int → Int) (u_fi_m39 : Int → Int) (u_la_m40 : Int → Int) (u_sh_m41 : Int → Int) (u_ac_m42 : Int → Int) (u_no_m43 : Int) (p_eh_m44 : Int → Int) (p_we_m45 : Int) (p_hf_m46 : Int → Int) (g_ol_m47 : Int) (g_si_m48 : Int) (lqf_m56 : Int → Int) (lnf_m57 : Int → Int) (lhf_m58 : Int → Int) (v59 : Int) (j42_ : (Int → Int) → (Int → Int) → (Int → Int) → (Int → Int) → (Int → Int) → (Int → Int) → Int → (Int → Int) → (Int → Int) → (Int → Int) → (Int → Int) → (Int → Int) → (Int → Int) → Int → (Int → Int) → Int → (Int → Int) → Int → Int → (Int → Int → Int) → (Int → Int → Int) → (Int → Int → Int) → (Int → Int → Int) → (Int → Int → Int) → (Int → Int → Int) → (Int → Int) → (Int → Int) → (Int → Int) → (Int → Int) → Int → Option (Int × (Int → Int) × (Int → Int) × (Int → Int) × (Int → Int) × (Int → Int) × (Int → Int) × Int × (Int → Int) × (Int → Int) × (Int → Int) × (Int → Int) × (Int → Int) × (Int → Int) × Int × (Int → Int) × Int × (Int → Int) × Int × Int × (Int → Int → Int) × (Int → Int → Int) × (Int → Int → Int) × (Int → Int → Int) × (Int → Int → Int) × (Int → Int → Int) × (Int → Int) × (Int → Int) × (Int → Int) × (Int → Int))) (k_se_m49 : Int → Int → Int) (k_tr_m50 : Int → Int → Int) (k_fi_m51 : Int → Int → Int) (k_la_m52 : Int → Int → Int) (k_sh_m53 : Int → Int → Int) (k_ac_m54 : Int → Int → Int) (k_no_m55 : Int → Int) (v60 : Int) : Option (Int × (Int → Int) × (Int → Int) × (Int → Int) × (Int → Int) × (Int → Int) × (Int → Int) × Int × (Int → Int) × (Int → Int) × (Int → Int) × (Int → Int) × (Int → Int) × (Int → Int) × Int × (Int → Int) × Int × (Int → Int) × Int × Int × (Int → Int → Int) × (Int → Int → Int) × (Int → Int → Int) × (Int → Int → Int) × (Int → Int → Int) × (Int → Int → Int) × (Int → Int) × (Int → Int) × (Int → Int) × (Int → Int)) :=
  jix 5 4 (jck (lqf_m56 4) 0 (if (lqf_m56 4) ≠ 0 then jix 5 4 (jb (f_L_low fu (jshr (xc v59) 4) (lqf_m56 4)) (fun v635 => f_L_law_J96 fu d_le xc r_se_m30 r_tr_m31 r_fi_m32 r_la_m33 r_sh_m34 r_ac_m35 r_no_m36 u_se_m37 u_tr_m38 u_fi_m39 u_la_m40 u_sh_m41 u_ac_m42 u_no_m43 p_eh_m44 p_we_m45 p_hf_m46 g_ol_m47 g_si_m48 lqf_m56 lnf_m57 lhf_m58 v59 v60 j42_ k_se_m49 k_tr_m50 k_fi_m51 k_la_m52 k_sh_m53 k_ac_m54 k_no_m55 v635)) else f_L_law_J96 fu d_le xc r_se_m30 r_tr_m31 r_fi_m32 r_la_m33 r_sh_m34 r_ac_m35 r_no_m36 u_se_m37 u_tr_m38 u_fi_m39 u_la_m40 u_sh_m41 u_ac_m42 u_no_m43 p_eh_m44 p_we_m45 p_hf_m46 g_ol_m47 g_si_m48 lqf_m56 lnf_m57 lhf_m58 v59 v60 j42_ k_se_m49 k_tr_m50 k_fi_m51 k_la_m52 k_sh_m53 k_ac_m54 k_no_m55 0))
def f_L_law_L42_b (fu : Nat) (d_le : Int) (xc : Int → Int) (k42_ : (Int → Int) → (Int → Int) → (Int → Int) → (Int → Int) → (Int → Int) → (Int → Int) → Int → (Int → Int) → (Int → Int) → (Int → Int) → (Int → Int) → (Int → Int) → (Int → Int) → Int → (Int → Int) → Int → (Int → Int) → Int → Int → (Int → Int → Int) → (Int → Int → Int) → (Int → Int → Int) → (Int → Int → Int) → (Int → Int → Int) → (Int → Int → Int) → (Int → Int) → (Int → Int) → (Int → Int) → (Int → Int) → Option (Int × (Int → Int) × (Int → Int) × (Int → Int) × (Int → Int) × (Int → Int) × (Int → Int) × Int × (Int → Int) × (Int → Int) × (Int → Int) × (Int → Int) × (Int → Int) × (Int → Int) × Int × (Int → Int) × Int × (Int → Int) × Int × Int × (Int → Int → Int) × (Int → Int → Int) × (Int → Int → Int) × (Int → Int → Int) × (Int → Int → Int) × (Int → Int → Int) × (Int → Int) × (Int → Int) × (Int → Int) × (Int → Int))) (j42_ : (Int → Int) → (Int → Int) → (Int → Int) → (Int → Int) → (Int → Int) → (Int → Int) → Int → (Int → Int) → (Int → Int) → (Int → Int) → (Int → Int) → (Int → Int) → (Int → Int) → Int → (Int → Int) → Int → (Int → Int) → Int → Int → (Int → Int → Int) → (Int → Int → Int) → (Int → Int → Int) → (Int → Int → Int) → (Int → Int → Int) → (Int → Int → Int) → (Int → Int) → (Int → Int) → (Int → Int) → (Int → Int) → Int → Option (Int × (Int → Int) × (Int → Int) × (Int → Int) × (Int → Int) × (Int → Int) × (Int → Int) × Int × (Int → Int) × (Int → Int) × (Int → Int) × (Int → Int) × (Int → Int) × (Int → Int) × Int × (Int → Int) × Int × (Int → Int) × Int × Int × (Int → Int → Int) × (Int → Int → Int) × (Int → Int → Int) × (Int → Int → Int) × (Int → Int → Int) × (Int → Int → Int) × (Int → Int) × (Int → Int) × (Int → Int) × (Int → Int))) (r_se_m30 : Int → Int) (r_tr_m31 : Int → Int) (r_fi_m32 : Int → Int) (r_la_m33 : Int → Int) (r_sh_m34 : Int → Int) (r_ac_m35 : Int → Int) (r_no_m36 : Int) (u_se_m37 : Int → Int) (u_tr_m38 : Int → Int) (u_fi_m39 : Int → Int) (u_la_m40 : Int → Int) (u_sh_m41 : Int → Int) (u_ac_m42 : Int → Int) (u_no_m43 : Int) (p_eh_m44 : Int → Int) (p_we_m45 : Int) (p_hf_m46 : Int → Int) (g_ol_m47 : Int) (g_si_m48 : Int) (k_se_m49 : Int → Int → Int) (k_tr_m50 : Int → Int → Int) (k_fi_m51 : Int → Int → Int) (k_la_m52 : Int → Int → Int) (k_sh_m53 : Int → Int → Int) (k_ac_m54 : Int → Int → Int) (k_no_m55 : Int → Int) (lqf_m56 : Int → Int) (lnf_m57 : Int → Int) (lhf_m58 : Int → Int) (v59 : Int) : Option (Int × (Int → Int) × (Int → Int) × (Int → Int) × (Int → Int) × (Int → Int) × (Int → Int) × Int × (Int → Int) × (Int → Int) × (Int → Int) × (Int → Int) × (Int → Int) × (Int → Int) × Int × (Int → Int) × Int × (Int → Int) × Int × Int × (Int → Int → Int) × (Int → Int → Int) × (Int → Int → Int) × (Int → Int → Int) × (Int → Int → Int) × (Int → Int → Int) × (Int → Int) × (Int → Int) × (Int → Int) × (Int → Int)) :=
  jck v59 28 (if 28 ≤ v59 then k42_ r_se_m30 r_tr_m31 r_fi_m32 r_la_m33 r_sh_m34 r_ac_m35 r_no_m36 u_se_m37 u_tr_m38 u_fi_m39 u_la_m40 u_sh_m41 u_ac_m42 u_no_m43 p_eh_m44 p_we_m45 p_hf_m46 g_ol_m47 g_si_m48 k_se_m49 k_tr_m50 k_fi_m51 k_la_m52 k_sh_m53 k_ac_m54 k_no_m55 lqf_m56 lnf_m57 lhf_m58 else jix 2147483648 v59 (jck v59 4 (if 4 ≤ v59 then jb (f_L_low fu (xc v59) 11) (fun v636 => f_L_law_J74 fu d_le xc r_se_m30 r_tr_m31 r_fi_m32 r_la_m33 r_sh_m34 r_ac_m35 r_no_m36 u_se_m37 u_tr_m38 u_fi_m39 u_la_m40 u_sh_m41 u_ac_m42 u_no_m43 p_eh_m44 p_we_m45 p_hf_m46 g_ol_m47 g_si_m48 lqf_m56 lnf_m57 lhf_m58 v59 j42_ k_se_m49 k_tr_m50 k_fi_m51 k_la_m52 k_sh_m53 k_ac_m54 k_no_m55 v636) else f_L_law_J74 fu d_le xc r_se_m30 r_tr_m31 r_fi_m32 r_la_m33 r_sh_m34 r_ac_m35 r_no_m36 u_se_m37 u_tr_m38 u_fi_m39 u_la_m40 u_sh_m41 u_ac_m42 u_no_m43 p_eh_m44 p_we_m45 p_hf_m46 g_ol_m47 g_si_m48 lqf_m56 lnf_m57 lhf_m58 v59 j42_ k_se_m49 k_tr_m50 k_fi_m51 k_la_m52 k_sh_m53 k_ac_m54 k_no_m55 0)))
def f_L_law_L42 (fu : Nat) (d_le : Int) (xc : Int → Int) (k42_ : (Int → Int) → (Int → Int) → (Int → Int) → (Int → Int) → (Int → Int) → (Int → Int) → Int → (Int → Int) → (Int → Int) → (Int → Int) → (Int → Int) → (Int → Int) → (Int → Int) → Int → (Int → Int) → Int → (Int → Int) → Int → Int → (Int → Int → Int) → (Int → Int → Int) → (Int → Int → Int) → (Int → Int → Int) → (Int → Int → Int) → (Int → Int → Int) → (Int → Int) → (Int → Int) → (Int → Int) → (Int → Int) → Option (Int × (Int → Int) × (Int → Int) × (Int → Int) × (Int → Int) × (Int → Int) × (Int → Int) × Int × (Int → Int) × (Int → Int) × (Int → Int) × (Int → Int) × (Int → Int) × (Int → Int) × Int × (Int → Int) × Int × (Int → Int) × Int × Int × (Int → Int → Int) × (Int → Int → Int) × (Int → Int → Int) × (Int → Int → Int) × (Int → Int → Int) × (Int → Int → Int) × (Int → Int) × (Int → Int) × (Int → Int) × (Int → Int))) : Nat → (Int → Int) → (Int → Int) → (Int → Int) → (Int → Int) → (Int → Int) → (Int → Int) → Int → (Int → Int) → (Int → Int) → (Int → Int) → (Int → Int) → (Int → Int) → (Int → Int) → Int → (Int → Int) → Int → (Int → Int) → Int → Int → (Int → Int → Int) → (Int → Int → Int) → (Int → Int → Int) → (Int → Int → Int) → (Int → Int → Int) → (Int → Int → Int) → (Int → Int) → (Int → Int) → (Int → Int) → (Int → Int) → Int → Option (Int × (Int → Int) × (Int → Int) × (Int → Int) × (Int → Int) × (Int → Int) × (Int → Int) × Int × (Int → Int) × (Int → Int) × (Int → Int) × (Int → Int) × (Int → Int) × (Int → Int) × Int × (Int → Int) × Int × (Int → Int) × Int × Int × (Int → Int → Int) × (Int → Int → Int) × (Int → Int → Int) × (Int → Int → Int) × (Int → Int → Int) × (Int → Int → Int) × (Int → Int) × (Int → Int) × (Int → Int) × (Int → Int))
  | 0 => fun _ _ _ _ _ _ _ _ _ _ _ _ _ _ _ _ _ _ _ _ _ _ _ _ _ _ _ _ _ _ => none
  | n + 1 => f_L_law_L42_b fu d_le xc k42_ (f_L_law_L42 fu d_le xc k42_ n)
def f_L_law (fu : Nat) (r_se : Int → Int) (r_tr : Int → Int) (r_fi : Int → Int) (r_la : Int → Int) (r_sh : Int → Int) (r_ac : Int → Int) (r_no : Int) (u_se : Int → Int) (u_tr : Int → Int) (u_fi : Int → Int) (u_la : Int → Int) (u_sh : Int → Int) (u_ac : Int → Int) (u_no : Int) (p_eh : Int → Int) (p_we : Int) (p_hf : Int → Int) (d_le : Int) (g_ol : Int) (g_si : Int) (k_se : Int → Int → Int) (k_tr : Int → Int → Int) (k_fi : Int → Int → Int) (k_la : Int → Int → Int) (k_sh : Int → Int → Int) (k_ac : Int → Int → Int) (k_no : Int → Int) (lqf : Int → Int) (lnf : Int → Int) (lhf : Int → Int) (xc : Int → Int) (x5 : Int) : Option (Int × (Int → Int) × (Int → Int) × (Int → Int) × (Int → Int) × (Int → Int) × (Int → Int) × Int × (Int → Int) × (Int → Int) × (Int → Int) × (Int → Int) × (Int → Int) × (Int → Int) × Int × (Int → Int) × Int × (Int → Int) × Int × Int × (Int → Int → Int) × (Int → Int → Int) × (Int → Int → Int) × (Int → Int → Int) × (Int → Int → Int) × (Int → Int → Int) × (Int → Int) × (Int → Int) × (Int → Int) × (Int → Int)) :=
  f_L_law_L42 fu d_le xc (f_L_law_X1440 fu) fu r_se r_tr r_fi r_la r_sh r_ac r_no u_se u_tr u_fi u_la u_sh u_ac u_no p_eh p_we p_hf g_ol g_si k_se k_tr k_fi k_la k_sh k_ac k_no lqf lnf lhf x5
end
section
theorem jofWF {l : Launch} {y : MethodName} {ws ws' : List Cond} {rm : Room} {Pc : Array Value → State → Prop} {Qc : Array Value → State → Outcome → State → Prop} {mc ms : Nat} {free : Addr → Prop} {cc : ByteArray} {maxL : Nat} {ret : Option FieldType}
    (hy : plainFor y = true) (hw : ws = Cond.code y cc maxL ret :: ws')
    (body : ∀ p e s m args below meth c s₁, BodyLoose p l y (headSpec ws rm) cc maxL ret e s m args below meth c s₁ → c.maxLocals = maxL → Pc args s →
      W p l e (headSpec ws rm).room s m args below meth c s.heap [] 0 0 (MQ below Qc args s mc ms free) (entryFrame m args maxL)) : Met l y ws rm Pc Qc mc ms free := by
  refine MetFree.of_bodySF (code := cc) (maxLocals := maxL) (ret := ret) hy ?_ ?_
  · intro args s m h hn
    obtain ⟨meth, c, h1, h2, h3, h4, h5, h6, -, -⟩ := Cond.code_spec hn (atoms_spec (ws := ws) h _ (by rw [hw]; exact List.mem_cons_self))
    exact ⟨meth, c, h1, h2, h3, h4, h5, h6⟩
  · intro p e s m args below meth c s₁ B hml hP _
    obtain ⟨t, a1, o, b1, b2, b3⟩ := body p e s m args below meth c s₁ B hml hP s₁ (by rw [B.state]; rfl) (Stand.of_body B)
    exact ⟨t, o, a1, b1, b2, ⟨b3.1, b3.2⟩⟩
theorem jmetF {l : Launch} {D : va_G} {y : Nat → ClassId} {z : Nat → Nat} {ym : MethodName} {ws ws' : List Cond} {rm : Room} {av : List Value} {cs : List va_W} {Qc : (Nat → Prop) → Array Value → State → Outcome → State → Prop} {cc : ByteArray} {maxL mc ms sz : Nat} {ret : Option FieldType}
    (hy : plainFor ym = true) (hw : ws = Cond.code ym cc maxL ret :: ws') (hsl : (lg_sl av).length ≤ maxL) {own : String} (hcls : ym.cls = own)
    (body : ∀ (p : Program) (e : Env) (s : State) (m : MethodId) (R : Room) (args : Array Value) (below : List Frame) (meth : Method) (c : Code) (A : Nat → Prop) (ls : Array Slot), R = rm → args = av.toArray → p.tables.exec = Jvm.exec → c.code = cc → meth.sig.returnType = ret → meth.locks = false → c.maxLocals = maxL → s.vm.findClass own = some m.cls → (∀ w ∈ ws, w.before args s = true) → meth.name = ym.name →
      s.heap.size = sz → va_P D vwCl cs.flatten s.heap → va_D A cs.flatten → (∀ q, s.heap.size ≤ q → A q) → jM D y z A s → lv_has ls maxL (lv_args 0 av) →
      W p l e R s m args below meth c s.heap [] 0 0 (MQ below (Qc A) args s mc ms A) (F0 m 0 ls [])) :
    Met l ym ws rm (va_Pc av (jPre D y z sz cs)) (Qc (va_A cs.flatten sz)) mc ms (va_A cs.flatten sz) := by
  refine jofWF (cc := cc) (maxL := maxL) (ret := ret) hy hw ?_
  intro p e s m args below meth c s₁ B hml hv
  obtain ⟨rfl, hsz, hP, hD, hM⟩ := hv
  have hl := lv_entry av (n := maxL) hsl
  rw [lg_entry_eq]
  generalize (lg_sl av ++ List.replicate (maxL - (lg_sl av).length) Slot.unset).toArray = ls at hl ⊢
  exact body p e s m rm av.toArray below meth c (va_A cs.flatten sz) ls rfl rfl B.exec B.bytes B.returns B.notSynchronized hml (by rw [← hcls]; exact findClass_of_methodNamed B.named) (atoms_spec (ws := ws) B.pre) (name_of_methodNamed B.named B.method).1 hsz hP hD.self (fun q h => Or.inr (by rw [← hsz]; exact h)) hM hl
end
