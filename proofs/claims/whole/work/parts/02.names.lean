abbrev R0 : String := "WaveFiles"
def T0 : u_T := fun k => match k with
  | 0 => ("WaveFiles", "settings", "LWaveFiles$Settings;", true)
  | 1 => ("WaveFiles", "parts", "Ljava/util/ArrayList;", true)
  | 2 => ("WaveFiles", "boxes", "Ljava/util/ArrayList;", true)
  | 3 => ("WaveFiles", "writer", "LWaveFiles$Writer;", true)
  | 4 => ("WaveFiles", "fed", "LWaveFiles$Bytes;", true)
  | 5 => ("WaveFiles", "taken", "LWaveFiles$Bytes;", true)
  | 6 => ("WaveFiles", "readSettings", "LWaveFiles$Settings;", true)
  | 7 => ("WaveFiles", "boxReader", "LWaveFiles$BoxReader;", true)
  | 8 => ("WaveFiles", "headReader", "LWaveFiles$HeadReader;", true)
  | 9 => ("WaveFiles", "partReader", "LWaveFiles$PartReader;", true)
  | _ => ("WaveFiles", "isRead", "Z", false)
def ty0 : Nat → FieldType := fun k => match k with
  | 0 => .object "WaveFiles$Settings"
  | 1 => .object "java/util/ArrayList"
  | 2 => .object "java/util/ArrayList"
  | 3 => .object "WaveFiles$Writer"
  | 4 => .object "WaveFiles$Bytes"
  | 5 => .object "WaveFiles$Bytes"
  | 6 => .object "WaveFiles$Settings"
  | 7 => .object "WaveFiles$BoxReader"
  | 8 => .object "WaveFiles$HeadReader"
  | 9 => .object "WaveFiles$PartReader"
  | _ => .boolean
abbrev R1 : String := "WaveFiles$BoxReader"
def T1 : u_T := fun k => match k with
  | 0 => ("WaveFiles$BoxReader", "bytes", "LWaveFiles$Bytes;", true)
  | 1 => ("WaveFiles$BoxReader", "unknownPlaces", "LWaveFiles$Numbers;", true)
  | 2 => ("WaveFiles$BoxReader", "unknownEnds", "LWaveFiles$Numbers;", true)
  | 3 => ("WaveFiles$BoxReader", "colour", "I", false)
  | 4 => ("WaveFiles$BoxReader", "streamFrom", "I", false)
  | _ => ("WaveFiles$BoxReader", "streamEnd", "I", false)
def ty1 : Nat → FieldType := fun k => match k with
  | 0 => .object "WaveFiles$Bytes"
  | 1 => .object "WaveFiles$Numbers"
  | 2 => .object "WaveFiles$Numbers"
  | 3 => .int
  | 4 => .int
  | _ => .int
abbrev R2 : String := "WaveFiles$Bytes"
def T2 : u_T := fun k => match k with
  | 0 => ("WaveFiles$Bytes", "most", "I", true)
  | 1 => ("WaveFiles$Bytes", "row", "[B", false)
  | _ => ("WaveFiles$Bytes", "count", "I", false)
def ty2 : Nat → FieldType := fun k => match k with
  | 0 => .int
  | 1 => .array .byte
  | _ => .int
abbrev R3 : String := "WaveFiles$HeadReader"
def T3 : u_T := fun k => match k with
  | 0 => ("WaveFiles$HeadReader", "bytes", "LWaveFiles$Bytes;", true)
  | 1 => ("WaveFiles$HeadReader", "settings", "LWaveFiles$Settings;", true)
  | _ => ("WaveFiles$HeadReader", "headEnd", "I", false)
def ty3 : Nat → FieldType := fun k => match k with
  | 0 => .object "WaveFiles$Bytes"
  | 1 => .object "WaveFiles$Settings"
  | _ => .int
abbrev R4 : String := "WaveFiles$MadeBox"
def T4 : u_T := fun k => match k with
  | 0 => ("WaveFiles$MadeBox", "inside", "Z", true)
  | 1 => ("WaveFiles$MadeBox", "kind", "I", true)
  | _ => ("WaveFiles$MadeBox", "bytes", "LWaveFiles$Bytes;", true)
def ty4 : Nat → FieldType := fun k => match k with
  | 0 => .boolean
  | 1 => .int
  | _ => .object "WaveFiles$Bytes"
abbrev R5 : String := "WaveFiles$Numbers"
def T5 : u_T := fun k => match k with
  | 0 => ("WaveFiles$Numbers", "row", "[I", false)
  | _ => ("WaveFiles$Numbers", "count", "I", false)
def ty5 : Nat → FieldType := fun k => match k with
  | 0 => .array .int
  | _ => .int
abbrev R6 : String := "WaveFiles$PartReader"
def T6 : u_T := fun k => match k with
  | 0 => ("WaveFiles$PartReader", "bytes", "LWaveFiles$Bytes;", true)
  | 1 => ("WaveFiles$PartReader", "settings", "LWaveFiles$Settings;", true)
  | 2 => ("WaveFiles$PartReader", "heads", "LWaveFiles$HeadReader;", true)
  | 3 => ("WaveFiles$PartReader", "tiles", "[I", true)
  | 4 => ("WaveFiles$PartReader", "places", "[I", true)
  | 5 => ("WaveFiles$PartReader", "starts", "[I", true)
  | 6 => ("WaveFiles$PartReader", "sizes", "[I", true)
  | 7 => ("WaveFiles$PartReader", "packets", "[I", true)
  | 8 => ("WaveFiles$PartReader", "cuts", "[Z", true)
  | 9 => ("WaveFiles$PartReader", "partsOfTile", "[I", true)
  | 10 => ("WaveFiles$PartReader", "lengths", "[I", true)
  | 11 => ("WaveFiles$PartReader", "lengthCount", "I", false)
  | _ => ("WaveFiles$PartReader", "count", "I", false)
def ty6 : Nat → FieldType := fun k => match k with
  | 0 => .object "WaveFiles$Bytes"
  | 1 => .object "WaveFiles$Settings"
  | 2 => .object "WaveFiles$HeadReader"
  | 3 => .array .int
  | 4 => .array .int
  | 5 => .array .int
  | 6 => .array .int
  | 7 => .array .int
  | 8 => .array .boolean
  | 9 => .array .int
  | 10 => .array .int
  | 11 => .int
  | _ => .int
abbrev R7 : String := "WaveFiles$Settings"
def T7 : u_T := fun k => match k with
  | 0 => ("WaveFiles$Settings", "sizes", "[I", true)
  | 1 => ("WaveFiles$Settings", "depths", "[I", true)
  | 2 => ("WaveFiles$Settings", "numbers", "[I", true)
  | 3 => ("WaveFiles$Settings", "styles", "[Z", true)
  | 4 => ("WaveFiles$Settings", "steps", "[Z", true)
  | 5 => ("WaveFiles$Settings", "tileWidth", "I", false)
  | _ => ("WaveFiles$Settings", "tileHeight", "I", false)
def ty7 : Nat → FieldType := fun k => match k with
  | 0 => .array .int
  | 1 => .array .int
  | 2 => .array .int
  | 3 => .array .boolean
  | 4 => .array .boolean
  | 5 => .int
  | _ => .int
abbrev R8 : String := "WaveFiles$TilePart"
def T8 : u_T := fun k => match k with
  | 0 => ("WaveFiles$TilePart", "tile", "I", true)
  | 1 => ("WaveFiles$TilePart", "partsBefore", "I", true)
  | 2 => ("WaveFiles$TilePart", "lengths", "[I", true)
  | 3 => ("WaveFiles$TilePart", "bytes", "LWaveFiles$Bytes;", true)
  | _ => ("WaveFiles$TilePart", "packets", "I", false)
def ty8 : Nat → FieldType := fun k => match k with
  | 0 => .int
  | 1 => .int
  | 2 => .array .int
  | 3 => .object "WaveFiles$Bytes"
  | _ => .int
abbrev R9 : String := "WaveFiles$Writer"
def T9 : u_T := fun k => match k with
  | _ => ("WaveFiles$Writer", "out", "LWaveFiles$Bytes;", true)
def ty9 : Nat → FieldType := fun k => match k with
  | _ => .object "WaveFiles$Bytes"
abbrev R10 : String := "WaveFilesModel"
def T10 : u_T := fun k => match k with
  | 0 => ("WaveFilesModel", "code", "I", false)
  | 1 => ("WaveFilesModel", "firstWide", "I", true)
  | 2 => ("WaveFilesModel", "firstHigh", "I", true)
  | 3 => ("WaveFilesModel", "numbers", "[I", true)
  | 4 => ("WaveFilesModel", "hasStyle", "[Z", true)
  | 5 => ("WaveFilesModel", "hasStep", "[Z", true)
  | 6 => ("WaveFilesModel", "depths", "[I", true)
  | 7 => ("WaveFilesModel", "sizes", "[I", true)
  | 8 => ("WaveFilesModel", "parts", "I", false)
  | 9 => ("WaveFilesModel", "tileOf", "[I", true)
  | 10 => ("WaveFilesModel", "packets", "[I", true)
  | 11 => ("WaveFilesModel", "packetSize", "[I", true)
  | 12 => ("WaveFilesModel", "partSize", "[I", true)
  | 13 => ("WaveFilesModel", "partBytes", "[I", true)
  | 14 => ("WaveFilesModel", "boxes", "I", false)
  | 15 => ("WaveFilesModel", "isInside", "[Z", true)
  | 16 => ("WaveFilesModel", "kinds", "[I", true)
  | 17 => ("WaveFilesModel", "boxSize", "[I", true)
  | 18 => ("WaveFilesModel", "boxBytes", "[I", true)
  | 19 => ("WaveFilesModel", "file", "[I", true)
  | 20 => ("WaveFilesModel", "fileMany", "I", false)
  | 21 => ("WaveFilesModel", "fed", "[I", true)
  | 22 => ("WaveFilesModel", "fedMany", "I", false)
  | 23 => ("WaveFilesModel", "had", "[I", true)
  | 24 => ("WaveFilesModel", "hadMany", "I", false)
  | 25 => ("WaveFilesModel", "isRead", "Z", false)
  | 26 => ("WaveFilesModel", "colour", "I", false)
  | 27 => ("WaveFilesModel", "unknowns", "I", false)
  | 28 => ("WaveFilesModel", "unknownAt", "[I", true)
  | 29 => ("WaveFilesModel", "unknownSize", "[I", true)
  | 30 => ("WaveFilesModel", "readParts", "I", false)
  | 31 => ("WaveFilesModel", "readTile", "[I", true)
  | 32 => ("WaveFilesModel", "readPlace", "[I", true)
  | 33 => ("WaveFilesModel", "readFrom", "[I", true)
  | 34 => ("WaveFilesModel", "readSize", "[I", true)
  | 35 => ("WaveFilesModel", "readPackets", "[I", true)
  | 36 => ("WaveFilesModel", "isSpoilt", "[Z", true)
  | 37 => ("WaveFilesModel", "isCut", "[Z", true)
  | 38 => ("WaveFilesModel", "partsOf", "[I", true)
  | 39 => ("WaveFilesModel", "at", "I", false)
  | 40 => ("WaveFilesModel", "end", "I", false)
  | 41 => ("WaveFilesModel", "broken", "I", false)
  | 42 => ("WaveFilesModel", "lengths", "[I", true)
  | _ => ("WaveFilesModel", "lengthMany", "I", false)
def ty10 : Nat → FieldType := fun k => match k with
  | 0 => .int
  | 1 => .int
  | 2 => .int
  | 3 => .array .int
  | 4 => .array .boolean
  | 5 => .array .boolean
  | 6 => .array .int
  | 7 => .array .int
  | 8 => .int
  | 9 => .array .int
  | 10 => .array .int
  | 11 => .array .int
  | 12 => .array .int
  | 13 => .array .int
  | 14 => .int
  | 15 => .array .boolean
  | 16 => .array .int
  | 17 => .array .int
  | 18 => .array .int
  | 19 => .array .int
  | 20 => .int
  | 21 => .array .int
  | 22 => .int
  | 23 => .array .int
  | 24 => .int
  | 25 => .boolean
  | 26 => .int
  | 27 => .int
  | 28 => .array .int
  | 29 => .array .int
  | 30 => .int
  | 31 => .array .int
  | 32 => .array .int
  | 33 => .array .int
  | 34 => .array .int
  | 35 => .array .int
  | 36 => .array .boolean
  | 37 => .array .boolean
  | 38 => .array .int
  | 39 => .int
  | 40 => .int
  | 41 => .int
  | 42 => .array .int
  | _ => .int
abbrev R11 : String := "java/util/ArrayList"
def T11 : u_T := fun k => match k with
  | 0 => ("java/util/AbstractList", "modCount", "I", false)
  | 1 => ("java/util/ArrayList", "elementData", "[Ljava/lang/Object;", false)
  | _ => ("java/util/ArrayList", "size", "I", false)
def ty11 : Nat → FieldType := fun k => match k with
  | 0 => .int
  | 1 => .array (.object "java/lang/Object")
  | _ => .int
def vwCl : List vw_C := [(R0, T0, 11), (R1, T1, 6), (R2, T2, 3), (R3, T3, 3), (R4, T4, 3), (R5, T5, 2), (R6, T6, 13), (R7, T7, 7), (R8, T8, 5), (R9, T9, 1), (R10, T10, 44), (R11, T11, 3)]
def GW : List Cond := lw_tbl.filter goodWord
/-- words that warm tables keep by laws of their own -/
def pz_wk (w : Cond) : Bool := match w with
  | .fieldLinkNest _ _ _ _ _ _ => true
  | .methodLinkNest _ _ _ _ => true
  | .castable _ _ => true
  | .declares _ => true
  | _ => false
def NW : List Cond := lw_tbl.filter pz_wk
theorem pz_in {w : Cond} (h : w ∈ lw_tbl) (hg : goodWord w = true) : w ∈ GW := List.mem_filter.mpr ⟨h, hg⟩
theorem pz_inN {w : Cond} (h : w ∈ lw_tbl) (hg : pz_wk w = true) : w ∈ NW := List.mem_filter.mpr ⟨h, hg⟩
theorem pz_t0 {w : Cond} {i : Nat} (h : (k2_sels lw_privs)[i]? = some w) : w ∈ lw_tbl := List.mem_append_left _ (List.mem_of_getElem? h)
theorem pz_t1 {w : Cond} {i : Nat} (h : tables_1_1[i]? = some w) : w ∈ lw_tbl := List.mem_append_right _ (List.mem_append_left _ (List.mem_of_getElem? h))
theorem pz_t2 {w : Cond} {i : Nat} (h : tables_1_2[i]? = some w) : w ∈ lw_tbl := List.mem_append_right _ (List.mem_append_right _ (List.mem_append_left _ (List.mem_of_getElem? h)))
theorem pz_t3 {w : Cond} {i : Nat} (h : tables_1_3[i]? = some w) : w ∈ lw_tbl := List.mem_append_right _ (List.mem_append_right _ (List.mem_append_right _ (List.mem_append_left _ (List.mem_of_getElem? h))))
theorem pz_t4 {w : Cond} {i : Nat} (h : tables_1_4[i]? = some w) : w ∈ lw_tbl := List.mem_append_right _ (List.mem_append_right _ (List.mem_append_right _ (List.mem_append_right _ (List.mem_append_left _ (List.mem_of_getElem? h)))))
theorem pz_t5 {w : Cond} {i : Nat} (h : tables_1_5[i]? = some w) : w ∈ lw_tbl := List.mem_append_right _ (List.mem_append_right _ (List.mem_append_right _ (List.mem_append_right _ (List.mem_append_right _ (List.mem_append_left _ (List.mem_of_getElem? h))))))
theorem pz_t6 {w : Cond} {i : Nat} (h : tables_1_6[i]? = some w) : w ∈ lw_tbl := List.mem_append_right _ (List.mem_append_right _ (List.mem_append_right _ (List.mem_append_right _ (List.mem_append_right _ (List.mem_append_right _ (List.mem_append_left _ (List.mem_of_getElem? h)))))))
theorem pz_t7 {w : Cond} {i : Nat} (h : tables_1_7[i]? = some w) : w ∈ lw_tbl := List.mem_append_right _ (List.mem_append_right _ (List.mem_append_right _ (List.mem_append_right _ (List.mem_append_right _ (List.mem_append_right _ (List.mem_append_right _ (List.mem_of_getElem? h)))))))
theorem pz_good (w : Cond) (h : w ∈ GW) : (w.onTables && w.keeps) = true ∨ ∃ ty, w = .arrayClass ty := good_of_word (List.mem_filter.mp h).2
def pz_TYS : List FieldType := [.int, .byte, .boolean, .long, .object "java/lang/Object"]
def FUEL : Nat := 1000000
theorem gw_obji : Cond.instanceMethod Lib.objectInit ∈ GW := pz_in (pz_t1 (i := 34) (by decide +kernel)) (by decide +kernel)
theorem gw_objc : Cond.code Lib.objectInit ⟨#[0xb1]⟩ 1 none ∈ GW := pz_in (pz_t1 (i := 35) (by decide +kernel)) (by decide +kernel)
theorem gw_mi : Cond.initialized "java/lang/Math" ∈ GW := pz_in (pz_t1 (i := 12) (by decide +kernel)) (by decide +kernel)
theorem gw_mmaxs : Cond.static Lib.Math.max.name ∈ GW := pz_in (pz_t2 (i := 11) (by decide +kernel)) (by decide +kernel)
theorem gw_mmins : Cond.static Lib.Math.min.name ∈ GW := pz_in (pz_t2 (i := 8) (by decide +kernel)) (by decide +kernel)
theorem gw_mmaxc : Cond.code Lib.Math.max.name Lib.Math.max.code 2 (some .int) ∈ GW := pz_in (pz_t2 (i := 12) (by decide +kernel)) (by decide +kernel)
theorem gw_mminc : Cond.code Lib.Math.min.name Lib.Math.min.code 2 (some .int) ∈ GW := pz_in (pz_t2 (i := 9) (by decide +kernel)) (by decide +kernel)
theorem gw_acI : Cond.arrayClass .int ∈ GW := pz_in (pz_t1 (i := 72) (by decide +kernel)) (by decide +kernel)
theorem gw_acB : Cond.arrayClass .byte ∈ GW := pz_in (pz_t1 (i := 125) (by decide +kernel)) (by decide +kernel)
theorem gw_acZ : Cond.arrayClass .boolean ∈ GW := pz_in (pz_t1 (i := 73) (by decide +kernel)) (by decide +kernel)
theorem gw_acJ : Cond.arrayClass .long ∈ GW := pz_in (pz_t7 (i := 117) (by decide +kernel)) (by decide +kernel)
theorem gw_ca4 : Cond.castable "WaveFiles$MadeBox" "java/lang/Object" ∈ NW := pz_inN (pz_t7 (i := 134) (by decide +kernel)) (by decide +kernel)
theorem gw_ca8 : Cond.castable "WaveFiles$TilePart" "java/lang/Object" ∈ NW := pz_inN (pz_t7 (i := 133) (by decide +kernel)) (by decide +kernel)
abbrev cBytes_init : ByteArray := prog_3_method_1_code
def yBytes_init : MethodName := ⟨"WaveFiles$Bytes", "<init>", "(I)V"⟩
abbrev cBytes_append : ByteArray := prog_3_method_2_code
def yBytes_append : MethodName := ⟨"WaveFiles$Bytes", "append", "(I)Z"⟩
abbrev cBytes_appendNumber : ByteArray := prog_3_method_3_code
def yBytes_appendNumber : MethodName := ⟨"WaveFiles$Bytes", "appendNumber", "(II)V"⟩
abbrev cBytes_get : ByteArray := prog_3_method_4_code
def yBytes_get : MethodName := ⟨"WaveFiles$Bytes", "get", "(I)I"⟩
abbrev cBytes_put : ByteArray := prog_3_method_5_code
def yBytes_put : MethodName := ⟨"WaveFiles$Bytes", "put", "(II)V"⟩
abbrev cBytes_putNumber4 : ByteArray := prog_3_method_6_code
def yBytes_putNumber4 : MethodName := ⟨"WaveFiles$Bytes", "putNumber4", "(II)V"⟩
abbrev cBytes_number : ByteArray := prog_3_method_7_code
def yBytes_number : MethodName := ⟨"WaveFiles$Bytes", "number", "(II)J"⟩
abbrev cBytes_copy : ByteArray := prog_3_method_8_code
def yBytes_copy : MethodName := ⟨"WaveFiles$Bytes", "copy", "(LWaveFiles$Bytes;)V"⟩
abbrev cNumbers_init : ByteArray := prog_6_method_1_code
def yNumbers_init : MethodName := ⟨"WaveFiles$Numbers", "<init>", "()V"⟩
abbrev cNumbers_append : ByteArray := prog_6_method_2_code
def yNumbers_append : MethodName := ⟨"WaveFiles$Numbers", "append", "(I)V"⟩
abbrev cNumbers_get : ByteArray := prog_6_method_3_code
def yNumbers_get : MethodName := ⟨"WaveFiles$Numbers", "get", "(I)I"⟩
abbrev cTilePart_init : ByteArray := prog_9_method_1_code
def yTilePart_init : MethodName := ⟨"WaveFiles$TilePart", "<init>", "(II)V"⟩
abbrev cTilePart_grow : ByteArray := prog_9_method_2_code
def yTilePart_grow : MethodName := ⟨"WaveFiles$TilePart", "grow", "(I)Z"⟩
abbrev cMadeBox_init : ByteArray := prog_5_method_1_code
def yMadeBox_init : MethodName := ⟨"WaveFiles$MadeBox", "<init>", "(ZI)V"⟩
abbrev cSettings_init : ByteArray := prog_8_method_1_code
def ySettings_init : MethodName := ⟨"WaveFiles$Settings", "<init>", "()V"⟩
abbrev cSettings_restart : ByteArray := prog_8_method_2_code
def ySettings_restart : MethodName := ⟨"WaveFiles$Settings", "restart", "(II)V"⟩
abbrev cSettings_forgetSegments : ByteArray := prog_8_method_3_code
def ySettings_forgetSegments : MethodName := ⟨"WaveFiles$Settings", "forgetSegments", "()V"⟩
abbrev cSettings_forgetTile : ByteArray := prog_8_method_4_code
def ySettings_forgetTile : MethodName := ⟨"WaveFiles$Settings", "forgetTile", "(I)V"⟩
abbrev cSettings_isTile : ByteArray := prog_8_method_5_code
def ySettings_isTile : MethodName := ⟨"WaveFiles$Settings", "isTile", "(I)Z"⟩
abbrev cSettings_isComponent : ByteArray := prog_8_method_6_code
def ySettings_isComponent : MethodName := ⟨"WaveFiles$Settings", "isComponent", "(I)Z"⟩
abbrev cSettings_tiles : ByteArray := prog_8_method_7_code
def ySettings_tiles : MethodName := ⟨"WaveFiles$Settings", "tiles", "()I"⟩
abbrev cSettings_tilesFor : ByteArray := prog_8_method_8_code
def ySettings_tilesFor : MethodName := ⟨"WaveFiles$Settings", "tilesFor", "(II)I"⟩
abbrev cSettings_allows : ByteArray := prog_8_method_9_code
def ySettings_allows : MethodName := ⟨"WaveFiles$Settings", "allows", "(II)Z"⟩
abbrev cSettings_hasSegmentNotForAll : ByteArray := prog_8_method_10_code
def ySettings_hasSegmentNotForAll : MethodName := ⟨"WaveFiles$Settings", "hasSegmentNotForAll", "()Z"⟩
abbrev cSettings_hasStyleAndStepForAll : ByteArray := prog_8_method_11_code
def ySettings_hasStyleAndStepForAll : MethodName := ⟨"WaveFiles$Settings", "hasStyleAndStepForAll", "()Z"⟩
abbrev cSettings_hasStyle : ByteArray := prog_8_method_12_code
def ySettings_hasStyle : MethodName := ⟨"WaveFiles$Settings", "hasStyle", "(II)Z"⟩
abbrev cSettings_hasStep : ByteArray := prog_8_method_13_code
def ySettings_hasStep : MethodName := ⟨"WaveFiles$Settings", "hasStep", "(II)Z"⟩
abbrev cSettings_valueOf : ByteArray := prog_8_method_14_code
def ySettings_valueOf : MethodName := ⟨"WaveFiles$Settings", "valueOf", "(III)I"⟩
abbrev cSettings_change : ByteArray := prog_8_method_15_code
def ySettings_change : MethodName := ⟨"WaveFiles$Settings", "change", "(IIII)V"⟩
abbrev cSettings_changeDepth : ByteArray := prog_8_method_16_code
def ySettings_changeDepth : MethodName := ⟨"WaveFiles$Settings", "changeDepth", "(II)V"⟩
abbrev cSettings_makeSegment : ByteArray := prog_8_method_17_code
def ySettings_makeSegment : MethodName := ⟨"WaveFiles$Settings", "makeSegment", "(III)V"⟩
abbrev cSettings_hold : ByteArray := prog_8_method_18_code
def ySettings_hold : MethodName := ⟨"WaveFiles$Settings", "hold", "(III)V"⟩
abbrev cSettings_slotInForce : ByteArray := prog_8_method_19_code
def ySettings_slotInForce : MethodName := ⟨"WaveFiles$Settings", "slotInForce", "(III)I"⟩
abbrev cSettings_slotOf : ByteArray := prog_8_method_20_code
def ySettings_slotOf : MethodName := ⟨"WaveFiles$Settings", "slotOf", "(II)I"⟩
abbrev cSettings_place : ByteArray := prog_8_method_21_code
def ySettings_place : MethodName := ⟨"WaveFiles$Settings", "place", "(II)I"⟩
abbrev cSettings_asManyAsItTakes : ByteArray := prog_8_method_22_code
def ySettings_asManyAsItTakes : MethodName := ⟨"WaveFiles$Settings", "asManyAsItTakes", "(II)I"⟩
abbrev cWriter_init : ByteArray := prog_10_method_1_code
def yWriter_init : MethodName := ⟨"WaveFiles$Writer", "<init>", "()V"⟩
abbrev cWriter_begin : ByteArray := prog_10_method_2_code
def yWriter_begin : MethodName := ⟨"WaveFiles$Writer", "begin", "()V"⟩
abbrev cWriter_openBox : ByteArray := prog_10_method_3_code
def yWriter_openBox : MethodName := ⟨"WaveFiles$Writer", "openBox", "(I)I"⟩
abbrev cWriter_closeBox : ByteArray := prog_10_method_4_code
def yWriter_closeBox : MethodName := ⟨"WaveFiles$Writer", "closeBox", "(I)V"⟩
abbrev cWriter_headBoxes : ByteArray := prog_10_method_5_code
def yWriter_headBoxes : MethodName := ⟨"WaveFiles$Writer", "headBoxes", "(LWaveFiles$Settings;Ljava/util/ArrayList;)V"⟩
abbrev cWriter_pictureHeader : ByteArray := prog_10_method_6_code
def yWriter_pictureHeader : MethodName := ⟨"WaveFiles$Writer", "pictureHeader", "(LWaveFiles$Settings;)V"⟩
abbrev cWriter_madeBoxes : ByteArray := prog_10_method_7_code
def yWriter_madeBoxes : MethodName := ⟨"WaveFiles$Writer", "madeBoxes", "(Ljava/util/ArrayList;Z)V"⟩
abbrev cWriter_appendAll : ByteArray := prog_10_method_8_code
def yWriter_appendAll : MethodName := ⟨"WaveFiles$Writer", "appendAll", "(LWaveFiles$Bytes;)V"⟩
abbrev cWriter_streamBox : ByteArray := prog_10_method_9_code
def yWriter_streamBox : MethodName := ⟨"WaveFiles$Writer", "streamBox", "(LWaveFiles$Settings;Ljava/util/ArrayList;)V"⟩
abbrev cWriter_code : ByteArray := prog_10_method_10_code
def yWriter_code : MethodName := ⟨"WaveFiles$Writer", "code", "(I)V"⟩
abbrev cWriter_sizes : ByteArray := prog_10_method_11_code
def yWriter_sizes : MethodName := ⟨"WaveFiles$Writer", "sizes", "(LWaveFiles$Settings;)V"⟩
abbrev cWriter_segments : ByteArray := prog_10_method_12_code
def yWriter_segments : MethodName := ⟨"WaveFiles$Writer", "segments", "(LWaveFiles$Settings;I)V"⟩
abbrev cWriter_style : ByteArray := prog_10_method_13_code
def yWriter_style : MethodName := ⟨"WaveFiles$Writer", "style", "(LWaveFiles$Settings;II)V"⟩
abbrev cWriter_step : ByteArray := prog_10_method_14_code
def yWriter_step : MethodName := ⟨"WaveFiles$Writer", "step", "(LWaveFiles$Settings;II)V"⟩
abbrev cWriter_onePart : ByteArray := prog_10_method_15_code
def yWriter_onePart : MethodName := ⟨"WaveFiles$Writer", "onePart", "(LWaveFiles$Settings;LWaveFiles$TilePart;)V"⟩
abbrev cWriter_packetLengths : ByteArray := prog_10_method_16_code
def yWriter_packetLengths : MethodName := ⟨"WaveFiles$Writer", "packetLengths", "(LWaveFiles$TilePart;)V"⟩
abbrev cBoxReader_init : ByteArray := prog_2_method_1_code
def yBoxReader_init : MethodName := ⟨"WaveFiles$BoxReader", "<init>", "(LWaveFiles$Bytes;)V"⟩
abbrev cBoxReader_forget : ByteArray := prog_2_method_2_code
def yBoxReader_forget : MethodName := ⟨"WaveFiles$BoxReader", "forget", "()V"⟩
abbrev cBoxReader_findStream : ByteArray := prog_2_method_3_code
def yBoxReader_findStream : MethodName := ⟨"WaveFiles$BoxReader", "findStream", "()I"⟩
abbrev cBoxReader_beginsWithSignature : ByteArray := prog_2_method_4_code
def yBoxReader_beginsWithSignature : MethodName := ⟨"WaveFiles$BoxReader", "beginsWithSignature", "()Z"⟩
abbrev cBoxReader_readBoxes : ByteArray := prog_2_method_5_code
def yBoxReader_readBoxes : MethodName := ⟨"WaveFiles$BoxReader", "readBoxes", "()I"⟩
abbrev cBoxReader_readHeaderBoxes : ByteArray := prog_2_method_6_code
def yBoxReader_readHeaderBoxes : MethodName := ⟨"WaveFiles$BoxReader", "readHeaderBoxes", "(II)I"⟩
abbrev cBoxReader_boxEnd : ByteArray := prog_2_method_7_code
def yBoxReader_boxEnd : MethodName := ⟨"WaveFiles$BoxReader", "boxEnd", "(IIZ)I"⟩
abbrev cBoxReader_kindAt : ByteArray := prog_2_method_8_code
def yBoxReader_kindAt : MethodName := ⟨"WaveFiles$BoxReader", "kindAt", "(I)I"⟩
abbrev cBoxReader_keepUnknown : ByteArray := prog_2_method_9_code
def yBoxReader_keepUnknown : MethodName := ⟨"WaveFiles$BoxReader", "keepUnknown", "(II)V"⟩
abbrev cHeadReader_init : ByteArray := prog_4_method_1_code
def yHeadReader_init : MethodName := ⟨"WaveFiles$HeadReader", "<init>", "(LWaveFiles$Bytes;LWaveFiles$Settings;)V"⟩
abbrev cHeadReader_readHead : ByteArray := prog_4_method_2_code
def yHeadReader_readHead : MethodName := ⟨"WaveFiles$HeadReader", "readHead", "(II)I"⟩
abbrev cHeadReader_isCode : ByteArray := prog_4_method_3_code
def yHeadReader_isCode : MethodName := ⟨"WaveFiles$HeadReader", "isCode", "(III)Z"⟩
abbrev cHeadReader_segmentEnd : ByteArray := prog_4_method_4_code
def yHeadReader_segmentEnd : MethodName := ⟨"WaveFiles$HeadReader", "segmentEnd", "(II)I"⟩
abbrev cHeadReader_keepSizes : ByteArray := prog_4_method_5_code
def yHeadReader_keepSizes : MethodName := ⟨"WaveFiles$HeadReader", "keepSizes", "(II)Z"⟩
abbrev cHeadReader_keepSides : ByteArray := prog_4_method_6_code
def yHeadReader_keepSides : MethodName := ⟨"WaveFiles$HeadReader", "keepSides", "(I)Z"⟩
abbrev cHeadReader_keepDepths : ByteArray := prog_4_method_7_code
def yHeadReader_keepDepths : MethodName := ⟨"WaveFiles$HeadReader", "keepDepths", "(II)Z"⟩
abbrev cHeadReader_isTileSide : ByteArray := prog_4_method_8_code
def yHeadReader_isTileSide : MethodName := ⟨"WaveFiles$HeadReader", "isTileSide", "(J)Z"⟩
abbrev cHeadReader_isSegmentCode : ByteArray := prog_4_method_9_code
def yHeadReader_isSegmentCode : MethodName := ⟨"WaveFiles$HeadReader", "isSegmentCode", "(I)Z"⟩
abbrev cHeadReader_keepSegment : ByteArray := prog_4_method_10_code
def yHeadReader_keepSegment : MethodName := ⟨"WaveFiles$HeadReader", "keepSegment", "(III)Z"⟩
abbrev cHeadReader_keepStyleForAll : ByteArray := prog_4_method_11_code
def yHeadReader_keepStyleForAll : MethodName := ⟨"WaveFiles$HeadReader", "keepStyleForAll", "(II)Z"⟩
abbrev cHeadReader_keepStyle : ByteArray := prog_4_method_12_code
def yHeadReader_keepStyle : MethodName := ⟨"WaveFiles$HeadReader", "keepStyle", "(II)Z"⟩
abbrev cHeadReader_keepStep : ByteArray := prog_4_method_13_code
def yHeadReader_keepStep : MethodName := ⟨"WaveFiles$HeadReader", "keepStep", "(II)Z"⟩
abbrev cPartReader_init : ByteArray := prog_7_method_1_code
def yPartReader_init : MethodName := ⟨"WaveFiles$PartReader", "<init>", "(LWaveFiles$Bytes;LWaveFiles$Settings;LWaveFiles$HeadReader;)V"⟩
abbrev cPartReader_forget : ByteArray := prog_7_method_2_code
def yPartReader_forget : MethodName := ⟨"WaveFiles$PartReader", "forget", "()V"⟩
abbrev cPartReader_numberOf : ByteArray := prog_7_method_3_code
def yPartReader_numberOf : MethodName := ⟨"WaveFiles$PartReader", "numberOf", "(II)I"⟩
abbrev cPartReader_spoiltOnes : ByteArray := prog_7_method_4_code
def yPartReader_spoiltOnes : MethodName := ⟨"WaveFiles$PartReader", "spoiltOnes", "()I"⟩
abbrev cPartReader_wholePackets : ByteArray := prog_7_method_5_code
def yPartReader_wholePackets : MethodName := ⟨"WaveFiles$PartReader", "wholePackets", "()I"⟩
abbrev cPartReader_readParts : ByteArray := prog_7_method_6_code
def yPartReader_readParts : MethodName := ⟨"WaveFiles$PartReader", "readParts", "(II)V"⟩
abbrev cPartReader_beginsPart : ByteArray := prog_7_method_7_code
def yPartReader_beginsPart : MethodName := ⟨"WaveFiles$PartReader", "beginsPart", "(II)Z"⟩
abbrev cPartReader_readPart : ByteArray := prog_7_method_8_code
def yPartReader_readPart : MethodName := ⟨"WaveFiles$PartReader", "readPart", "(II)V"⟩
abbrev cPartReader_readPartHead : ByteArray := prog_7_method_9_code
def yPartReader_readPartHead : MethodName := ⟨"WaveFiles$PartReader", "readPartHead", "(III)I"⟩
abbrev cPartReader_keepLengths : ByteArray := prog_7_method_10_code
def yPartReader_keepLengths : MethodName := ⟨"WaveFiles$PartReader", "keepLengths", "(II)Z"⟩
abbrev cPartReader_weigh : ByteArray := prog_7_method_11_code
def yPartReader_weigh : MethodName := ⟨"WaveFiles$PartReader", "weigh", "(III)Z"⟩
abbrev cW_init : ByteArray := prog_1_method_1_code
def yW_init : MethodName := ⟨"WaveFiles", "<init>", "(II)V"⟩
abbrev cW_set : ByteArray := prog_1_method_2_code
def yW_set : MethodName := ⟨"WaveFiles", "set", "(IIII)I"⟩
abbrev cW_tilePart : ByteArray := prog_1_method_3_code
def yW_tilePart : MethodName := ⟨"WaveFiles", "tilePart", "(I)I"⟩
abbrev cW_packet : ByteArray := prog_1_method_4_code
def yW_packet : MethodName := ⟨"WaveFiles", "packet", "(I)I"⟩
abbrev cW_byteOf : ByteArray := prog_1_method_5_code
def yW_byteOf : MethodName := ⟨"WaveFiles", "byteOf", "(II)I"⟩
abbrev cW_box : ByteArray := prog_1_method_6_code
def yW_box : MethodName := ⟨"WaveFiles", "box", "(ZI)I"⟩
abbrev cW_boxByte : ByteArray := prog_1_method_7_code
def yW_boxByte : MethodName := ⟨"WaveFiles", "boxByte", "(II)I"⟩
abbrev cW_write : ByteArray := prog_1_method_8_code
def yW_write : MethodName := ⟨"WaveFiles", "write", "()I"⟩
abbrev cW_byteAt : ByteArray := prog_1_method_9_code
def yW_byteAt : MethodName := ⟨"WaveFiles", "byteAt", "(I)I"⟩
abbrev cW_feed : ByteArray := prog_1_method_10_code
def yW_feed : MethodName := ⟨"WaveFiles", "feed", "(I)I"⟩
abbrev cW_pass : ByteArray := prog_1_method_11_code
def yW_pass : MethodName := ⟨"WaveFiles", "pass", "(II)I"⟩
abbrev cW_alter : ByteArray := prog_1_method_12_code
def yW_alter : MethodName := ⟨"WaveFiles", "alter", "(II)I"⟩
abbrev cW_cut : ByteArray := prog_1_method_13_code
def yW_cut : MethodName := ⟨"WaveFiles", "cut", "(I)I"⟩
abbrev cW_read : ByteArray := prog_1_method_14_code
def yW_read : MethodName := ⟨"WaveFiles", "read", "()I"⟩
abbrev cW_at : ByteArray := prog_1_method_15_code
def yW_at : MethodName := ⟨"WaveFiles", "at", "(III)I"⟩
abbrev cW_part : ByteArray := prog_1_method_16_code
def yW_part : MethodName := ⟨"WaveFiles", "part", "(II)I"⟩
abbrev cW_partByte : ByteArray := prog_1_method_17_code
def yW_partByte : MethodName := ⟨"WaveFiles", "partByte", "(II)I"⟩
abbrev cW_unknown : ByteArray := prog_1_method_18_code
def yW_unknown : MethodName := ⟨"WaveFiles", "unknown", "(II)I"⟩
abbrev cW_told : ByteArray := prog_1_method_19_code
def yW_told : MethodName := ⟨"WaveFiles", "told", "(I)I"⟩
abbrev cW_clear : ByteArray := prog_1_method_20_code
def yW_clear : MethodName := ⟨"WaveFiles", "clear", "()V"⟩
abbrev cW_forgetReading : ByteArray := prog_1_method_21_code
def yW_forgetReading : MethodName := ⟨"WaveFiles", "forgetReading", "()V"⟩
abbrev cW_canBeSet : ByteArray := prog_1_method_22_code
def yW_canBeSet : MethodName := ⟨"WaveFiles", "canBeSet", "(III)Z"⟩
abbrev cW_canBeAsked : ByteArray := prog_1_method_23_code
def yW_canBeAsked : MethodName := ⟨"WaveFiles", "canBeAsked", "(III)Z"⟩
abbrev cW_partsOf : ByteArray := prog_1_method_24_code
def yW_partsOf : MethodName := ⟨"WaveFiles", "partsOf", "(I)I"⟩
abbrev cW_nearestSide : ByteArray := prog_1_method_25_code
def yW_nearestSide : MethodName := ⟨"WaveFiles", "nearestSide", "(I)I"⟩
abbrev cW_isByte : ByteArray := prog_1_method_26_code
def yW_isByte : MethodName := ⟨"WaveFiles", "isByte", "(I)Z"⟩
abbrev cW_isKind : ByteArray := prog_1_method_27_code
def yW_isKind : MethodName := ⟨"WaveFiles", "isKind", "(I)Z"⟩
abbrev cW_isOwnKind : ByteArray := prog_1_method_28_code
def yW_isOwnKind : MethodName := ⟨"WaveFiles", "isOwnKind", "(I)Z"⟩
abbrev cW_isWithin : ByteArray := prog_1_method_29_code
def yW_isWithin : MethodName := ⟨"WaveFiles", "isWithin", "(IJ)Z"⟩
abbrev cD_init : ByteArray := prog_12_method_1_code
def yD_init : MethodName := ⟨"WaveFilesModel", "<init>", "(II)V"⟩
abbrev cD_thrown : ByteArray := prog_12_method_2_code
def yD_thrown : MethodName := ⟨"WaveFilesModel", "thrown", "()I"⟩
abbrev cD_near : ByteArray := prog_12_method_3_code
def yD_near : MethodName := ⟨"WaveFilesModel", "near", "(III)I"⟩
abbrev cD_in : ByteArray := prog_12_method_4_code
def yD_in : MethodName := ⟨"WaveFilesModel", "in", "(JJJ)Z"⟩
abbrev cD_begin : ByteArray := prog_12_method_5_code
def yD_begin : MethodName := ⟨"WaveFilesModel", "begin", "(I)V"⟩
abbrev cD_put : ByteArray := prog_12_method_6_code
def yD_put : MethodName := ⟨"WaveFilesModel", "put", "(III)V"⟩
abbrev cD_get : ByteArray := prog_12_method_7_code
def yD_get : MethodName := ⟨"WaveFilesModel", "get", "(II)I"⟩
abbrev cD_placeOf : ByteArray := prog_12_method_8_code
def yD_placeOf : MethodName := ⟨"WaveFilesModel", "placeOf", "(II)I"⟩
abbrev cD_isStep : ByteArray := prog_12_method_9_code
def yD_isStep : MethodName := ⟨"WaveFilesModel", "isStep", "(I)Z"⟩
abbrev cD_has : ByteArray := prog_12_method_10_code
def yD_has : MethodName := ⟨"WaveFilesModel", "has", "(II)Z"⟩
abbrev cD_force : ByteArray := prog_12_method_11_code
def yD_force : MethodName := ⟨"WaveFilesModel", "force", "(IIII)I"⟩
abbrev cD_tilesOf : ByteArray := prog_12_method_12_code
def yD_tilesOf : MethodName := ⟨"WaveFilesModel", "tilesOf", "(JJJJ)J"⟩
abbrev cD_tiles : ByteArray := prog_12_method_13_code
def yD_tiles : MethodName := ⟨"WaveFilesModel", "tiles", "(I)I"⟩
abbrev cD_isPlace : ByteArray := prog_12_method_14_code
def yD_isPlace : MethodName := ⟨"WaveFilesModel", "isPlace", "(IIII)Z"⟩
abbrev cD_isFixed : ByteArray := prog_12_method_15_code
def yD_isFixed : MethodName := ⟨"WaveFilesModel", "isFixed", "()Z"⟩
abbrev cD_isNumber : ByteArray := prog_12_method_16_code
def yD_isNumber : MethodName := ⟨"WaveFilesModel", "isNumber", "(II)Z"⟩
abbrev cD_isTooMany : ByteArray := prog_12_method_17_code
def yD_isTooMany : MethodName := ⟨"WaveFilesModel", "isTooMany", "(II)Z"⟩
abbrev cD_make : ByteArray := prog_12_method_18_code
def yD_make : MethodName := ⟨"WaveFilesModel", "make", "(III)V"⟩
abbrev cD_set : ByteArray := prog_12_method_19_code
def yD_set : MethodName := ⟨"WaveFilesModel", "set", "(IIII)I"⟩
abbrev cD_tilePart : ByteArray := prog_12_method_20_code
def yD_tilePart : MethodName := ⟨"WaveFilesModel", "tilePart", "(I)I"⟩
abbrev cD_isPart : ByteArray := prog_12_method_21_code
def yD_isPart : MethodName := ⟨"WaveFilesModel", "isPart", "(I)Z"⟩
abbrev cD_packet : ByteArray := prog_12_method_22_code
def yD_packet : MethodName := ⟨"WaveFilesModel", "packet", "(I)I"⟩
abbrev cD_byteOf : ByteArray := prog_12_method_23_code
def yD_byteOf : MethodName := ⟨"WaveFilesModel", "byteOf", "(II)I"⟩
abbrev cD_isKind : ByteArray := prog_12_method_24_code
def yD_isKind : MethodName := ⟨"WaveFilesModel", "isKind", "(I)Z"⟩
abbrev cD_box : ByteArray := prog_12_method_25_code
def yD_box : MethodName := ⟨"WaveFilesModel", "box", "(ZI)I"⟩
abbrev cD_boxByte : ByteArray := prog_12_method_26_code
def yD_boxByte : MethodName := ⟨"WaveFilesModel", "boxByte", "(II)I"⟩
abbrev cD_lay : ByteArray := prog_12_method_27_code
def yD_lay : MethodName := ⟨"WaveFilesModel", "lay", "(I)V"⟩
abbrev cD_layTwo : ByteArray := prog_12_method_28_code
def yD_layTwo : MethodName := ⟨"WaveFilesModel", "layTwo", "(I)V"⟩
abbrev cD_layFour : ByteArray := prog_12_method_29_code
def yD_layFour : MethodName := ⟨"WaveFilesModel", "layFour", "(I)V"⟩
abbrev cD_layMark : ByteArray := prog_12_method_30_code
def yD_layMark : MethodName := ⟨"WaveFilesModel", "layMark", "(II)V"⟩
abbrev cD_layStyle : ByteArray := prog_12_method_31_code
def yD_layStyle : MethodName := ⟨"WaveFilesModel", "layStyle", "(I)V"⟩
abbrev cD_layStep : ByteArray := prog_12_method_32_code
def yD_layStep : MethodName := ⟨"WaveFilesModel", "layStep", "(I)V"⟩
abbrev cD_laySegments : ByteArray := prog_12_method_33_code
def yD_laySegments : MethodName := ⟨"WaveFilesModel", "laySegments", "(I)V"⟩
abbrev cD_layLengths : ByteArray := prog_12_method_34_code
def yD_layLengths : MethodName := ⟨"WaveFilesModel", "layLengths", "(I)V"⟩
abbrev cD_layPart : ByteArray := prog_12_method_35_code
def yD_layPart : MethodName := ⟨"WaveFilesModel", "layPart", "(II)V"⟩
abbrev cD_layStream : ByteArray := prog_12_method_36_code
def yD_layStream : MethodName := ⟨"WaveFilesModel", "layStream", "()V"⟩
abbrev cD_layBox : ByteArray := prog_12_method_37_code
def yD_layBox : MethodName := ⟨"WaveFilesModel", "layBox", "(I)V"⟩
abbrev cD_layHeads : ByteArray := prog_12_method_38_code
def yD_layHeads : MethodName := ⟨"WaveFilesModel", "layHeads", "()V"⟩
abbrev cD_write : ByteArray := prog_12_method_39_code
def yD_write : MethodName := ⟨"WaveFilesModel", "write", "()I"⟩
abbrev cD_byteAt : ByteArray := prog_12_method_40_code
def yD_byteAt : MethodName := ⟨"WaveFilesModel", "byteAt", "(I)I"⟩
abbrev cD_feed : ByteArray := prog_12_method_41_code
def yD_feed : MethodName := ⟨"WaveFilesModel", "feed", "(I)I"⟩
abbrev cD_pass : ByteArray := prog_12_method_42_code
def yD_pass : MethodName := ⟨"WaveFilesModel", "pass", "(II)I"⟩
abbrev cD_alter : ByteArray := prog_12_method_43_code
def yD_alter : MethodName := ⟨"WaveFilesModel", "alter", "(II)I"⟩
abbrev cD_cut : ByteArray := prog_12_method_44_code
def yD_cut : MethodName := ⟨"WaveFilesModel", "cut", "(I)I"⟩
abbrev cD_four : ByteArray := prog_12_method_45_code
def yD_four : MethodName := ⟨"WaveFilesModel", "four", "(I)J"⟩
abbrev cD_two : ByteArray := prog_12_method_46_code
def yD_two : MethodName := ⟨"WaveFilesModel", "two", "(I)I"⟩
abbrev cD_fails : ByteArray := prog_12_method_47_code
def yD_fails : MethodName := ⟨"WaveFilesModel", "fails", "(I)Z"⟩
abbrev cD_endOf : ByteArray := prog_12_method_48_code
def yD_endOf : MethodName := ⟨"WaveFilesModel", "endOf", "(IIZ)I"⟩
abbrev cD_keepUnknown : ByteArray := prog_12_method_49_code
def yD_keepUnknown : MethodName := ⟨"WaveFilesModel", "keepUnknown", "(II)V"⟩
abbrev cD_readInside : ByteArray := prog_12_method_50_code
def yD_readInside : MethodName := ⟨"WaveFilesModel", "readInside", "(II)Z"⟩
abbrev cD_isFirstRight : ByteArray := prog_12_method_51_code
def yD_isFirstRight : MethodName := ⟨"WaveFilesModel", "isFirstRight", "()Z"⟩
abbrev cD_readBoxes : ByteArray := prog_12_method_52_code
def yD_readBoxes : MethodName := ⟨"WaveFilesModel", "readBoxes", "()Z"⟩
abbrev cD_readSizes : ByteArray := prog_12_method_53_code
def yD_readSizes : MethodName := ⟨"WaveFilesModel", "readSizes", "()Z"⟩
abbrev cD_isSegment : ByteArray := prog_12_method_54_code
def yD_isSegment : MethodName := ⟨"WaveFilesModel", "isSegment", "(I)Z"⟩
abbrev cD_takeSegment : ByteArray := prog_12_method_55_code
def yD_takeSegment : MethodName := ⟨"WaveFilesModel", "takeSegment", "(II)Z"⟩
abbrev cD_takeStep : ByteArray := prog_12_method_56_code
def yD_takeStep : MethodName := ⟨"WaveFilesModel", "takeStep", "(II)Z"⟩
abbrev cD_takeStyle : ByteArray := prog_12_method_57_code
def yD_takeStyle : MethodName := ⟨"WaveFilesModel", "takeStyle", "(IIZ)Z"⟩
abbrev cD_behind : ByteArray := prog_12_method_58_code
def yD_behind : MethodName := ⟨"WaveFilesModel", "behind", "(II)I"⟩
abbrev cD_isMark : ByteArray := prog_12_method_59_code
def yD_isMark : MethodName := ⟨"WaveFilesModel", "isMark", "(III)Z"⟩
abbrev cD_readHead : ByteArray := prog_12_method_60_code
def yD_readHead : MethodName := ⟨"WaveFilesModel", "readHead", "()Z"⟩
abbrev cD_takeLengths : ByteArray := prog_12_method_61_code
def yD_takeLengths : MethodName := ⟨"WaveFilesModel", "takeLengths", "(II)Z"⟩
abbrev cD_headOf : ByteArray := prog_12_method_62_code
def yD_headOf : MethodName := ⟨"WaveFilesModel", "headOf", "(IIIZ)I"⟩
abbrev cD_forget : ByteArray := prog_12_method_63_code
def yD_forget : MethodName := ⟨"WaveFilesModel", "forget", "(I)V"⟩
abbrev cD_takePackets : ByteArray := prog_12_method_64_code
def yD_takePackets : MethodName := ⟨"WaveFilesModel", "takePackets", "(IIIZ)V"⟩
abbrev cD_readPart : ByteArray := prog_12_method_65_code
def yD_readPart : MethodName := ⟨"WaveFilesModel", "readPart", "()Z"⟩
abbrev cD_readStream : ByteArray := prog_12_method_66_code
def yD_readStream : MethodName := ⟨"WaveFilesModel", "readStream", "()Z"⟩
abbrev cD_read : ByteArray := prog_12_method_67_code
def yD_read : MethodName := ⟨"WaveFilesModel", "read", "()I"⟩
abbrev cD_at : ByteArray := prog_12_method_68_code
def yD_at : MethodName := ⟨"WaveFilesModel", "at", "(III)I"⟩
abbrev cD_part : ByteArray := prog_12_method_69_code
def yD_part : MethodName := ⟨"WaveFilesModel", "part", "(II)I"⟩
abbrev cD_partByte : ByteArray := prog_12_method_70_code
def yD_partByte : MethodName := ⟨"WaveFilesModel", "partByte", "(II)I"⟩
abbrev cD_unknown : ByteArray := prog_12_method_71_code
def yD_unknown : MethodName := ⟨"WaveFilesModel", "unknown", "(II)I"⟩
abbrev cD_told : ByteArray := prog_12_method_72_code
def yD_told : MethodName := ⟨"WaveFilesModel", "told", "(I)I"⟩
abbrev cD_clear : ByteArray := prog_12_method_73_code
def yD_clear : MethodName := ⟨"WaveFilesModel", "clear", "()V"⟩
abbrev cAbstractCollection_init : ByteArray := prog_26_method_1_code
def yAbstractCollection_init : MethodName := ⟨"java/util/AbstractCollection", "<init>", "()V"⟩
abbrev cAbstractList_init : ByteArray := prog_27_method_1_code
def yAbstractList_init : MethodName := ⟨"java/util/AbstractList", "<init>", "()V"⟩
abbrev cAL_init1 : ByteArray := prog_28_method_2_code
def yAL_init1 : MethodName := ⟨"java/util/ArrayList", "<init>", "()V"⟩
abbrev cAL_grow0 : ByteArray := prog_28_method_6_code
def yAL_grow0 : MethodName := ⟨"java/util/ArrayList", "grow", "(I)[Ljava/lang/Object;"⟩
abbrev cAL_grow1 : ByteArray := prog_28_method_7_code
def yAL_grow1 : MethodName := ⟨"java/util/ArrayList", "grow", "()[Ljava/lang/Object;"⟩
abbrev cAL_size : ByteArray := prog_28_method_8_code
def yAL_size : MethodName := ⟨"java/util/ArrayList", "size", "()I"⟩
abbrev cAL_isEmpty : ByteArray := prog_28_method_9_code
def yAL_isEmpty : MethodName := ⟨"java/util/ArrayList", "isEmpty", "()Z"⟩
abbrev cAL_elementData : ByteArray := prog_28_method_18_code
def yAL_elementData : MethodName := ⟨"java/util/ArrayList", "elementData", "(I)Ljava/lang/Object;"⟩
abbrev cAL_get : ByteArray := prog_28_method_20_code
def yAL_get : MethodName := ⟨"java/util/ArrayList", "get", "(I)Ljava/lang/Object;"⟩
abbrev cAL_add0 : ByteArray := prog_28_method_24_code
def yAL_add0 : MethodName := ⟨"java/util/ArrayList", "add", "(Ljava/lang/Object;[Ljava/lang/Object;I)V"⟩
abbrev cAL_add1 : ByteArray := prog_28_method_25_code
def yAL_add1 : MethodName := ⟨"java/util/ArrayList", "add", "(Ljava/lang/Object;)Z"⟩
abbrev cAL_clear : ByteArray := prog_28_method_40_code
def yAL_clear : MethodName := ⟨"java/util/ArrayList", "clear", "()V"⟩
abbrev cAR_copyOf0 : ByteArray := prog_29_method_119_code
def yAR_copyOf0 : MethodName := ⟨"java/util/Arrays", "copyOf", "([Ljava/lang/Object;I)[Ljava/lang/Object;"⟩
abbrev cAR_copyOf1 : ByteArray := prog_29_method_120_code
def yAR_copyOf1 : MethodName := ⟨"java/util/Arrays", "copyOf", "([Ljava/lang/Object;ILjava/lang/Class;)[Ljava/lang/Object;"⟩
abbrev cAR_copyOf2 : ByteArray := prog_29_method_121_code
def yAR_copyOf2 : MethodName := ⟨"java/util/Arrays", "copyOf", "([BI)[B"⟩
abbrev cAR_copyOf4 : ByteArray := prog_29_method_123_code
def yAR_copyOf4 : MethodName := ⟨"java/util/Arrays", "copyOf", "([II)[I"⟩
abbrev cObjects_checkIndex0 : ByteArray := prog_32_method_17_code
def yObjects_checkIndex0 : MethodName := ⟨"java/util/Objects", "checkIndex", "(II)I"⟩
abbrev cPreconditions_checkIndex0 : ByteArray := prog_36_method_11_code
def yPreconditions_checkIndex0 : MethodName := ⟨"jdk/internal/util/Preconditions", "checkIndex", "(IILjava/util/function/BiFunction;)I"⟩
abbrev cArraysSupport_newLength : ByteArray := prog_35_method_27_code
def yArraysSupport_newLength : MethodName := ⟨"jdk/internal/util/ArraysSupport", "newLength", "(III)I"⟩
abbrev cArraysSupport_hugeLength : ByteArray := prog_35_method_28_code
def yArraysSupport_hugeLength : MethodName := ⟨"jdk/internal/util/ArraysSupport", "hugeLength", "(II)I"⟩
theorem nm_0 : ∀ a, a < 11 → ∀ b, b < 11 → a ≠ b → (T0 a).2.1 ≠ (T0 b).2.1 := by decide +kernel
theorem to_0 : ∀ k, k < 11 → parseFieldDescriptor (T0 k).2.2.1 = some (ty0 k) := by decide +kernel
theorem nm_1 : ∀ a, a < 6 → ∀ b, b < 6 → a ≠ b → (T1 a).2.1 ≠ (T1 b).2.1 := by decide +kernel
theorem to_1 : ∀ k, k < 6 → parseFieldDescriptor (T1 k).2.2.1 = some (ty1 k) := by decide +kernel
theorem nm_2 : ∀ a, a < 3 → ∀ b, b < 3 → a ≠ b → (T2 a).2.1 ≠ (T2 b).2.1 := by decide +kernel
theorem to_2 : ∀ k, k < 3 → parseFieldDescriptor (T2 k).2.2.1 = some (ty2 k) := by decide +kernel
theorem nm_3 : ∀ a, a < 3 → ∀ b, b < 3 → a ≠ b → (T3 a).2.1 ≠ (T3 b).2.1 := by decide +kernel
theorem to_3 : ∀ k, k < 3 → parseFieldDescriptor (T3 k).2.2.1 = some (ty3 k) := by decide +kernel
theorem nm_4 : ∀ a, a < 3 → ∀ b, b < 3 → a ≠ b → (T4 a).2.1 ≠ (T4 b).2.1 := by decide +kernel
theorem to_4 : ∀ k, k < 3 → parseFieldDescriptor (T4 k).2.2.1 = some (ty4 k) := by decide +kernel
theorem nm_5 : ∀ a, a < 2 → ∀ b, b < 2 → a ≠ b → (T5 a).2.1 ≠ (T5 b).2.1 := by decide +kernel
theorem to_5 : ∀ k, k < 2 → parseFieldDescriptor (T5 k).2.2.1 = some (ty5 k) := by decide +kernel
theorem nm_6 : ∀ a, a < 13 → ∀ b, b < 13 → a ≠ b → (T6 a).2.1 ≠ (T6 b).2.1 := by decide +kernel
theorem to_6 : ∀ k, k < 13 → parseFieldDescriptor (T6 k).2.2.1 = some (ty6 k) := by decide +kernel
theorem nm_7 : ∀ a, a < 7 → ∀ b, b < 7 → a ≠ b → (T7 a).2.1 ≠ (T7 b).2.1 := by decide +kernel
theorem to_7 : ∀ k, k < 7 → parseFieldDescriptor (T7 k).2.2.1 = some (ty7 k) := by decide +kernel
theorem nm_8 : ∀ a, a < 5 → ∀ b, b < 5 → a ≠ b → (T8 a).2.1 ≠ (T8 b).2.1 := by decide +kernel
theorem to_8 : ∀ k, k < 5 → parseFieldDescriptor (T8 k).2.2.1 = some (ty8 k) := by decide +kernel
theorem nm_9 : ∀ a, a < 1 → ∀ b, b < 1 → a ≠ b → (T9 a).2.1 ≠ (T9 b).2.1 := by decide +kernel
theorem to_9 : ∀ k, k < 1 → parseFieldDescriptor (T9 k).2.2.1 = some (ty9 k) := by decide +kernel
theorem nm_10 : ∀ a, a < 44 → ∀ b, b < 44 → a ≠ b → (T10 a).2.1 ≠ (T10 b).2.1 := by decide +kernel
theorem to_10 : ∀ k, k < 44 → parseFieldDescriptor (T10 k).2.2.1 = some (ty10 k) := by decide +kernel
theorem nm_11 : ∀ a, a < 3 → ∀ b, b < 3 → a ≠ b → (T11 a).2.1 ≠ (T11 b).2.1 := by decide +kernel
theorem to_11 : ∀ k, k < 3 → parseFieldDescriptor (T11 k).2.2.1 = some (ty11 k) := by decide +kernel
/-- the given tables of numbers: LEAST, GREATEST, AT_FIRST -/
def pz_sn (j : Nat) : String := match j with
  | 0 => "LEAST"
  | 1 => "GREATEST"
  | _ => "AT_FIRST"
def pz_tab (j : Nat) : Nat → Int32 := fun k => match j with
  | 0 => ([1, 1, 1, 1, 0, 1, 0, 2, 0, 0, 0] : List Int32).getD k 0
  | 1 => ([2000, 2000, 4, 16, 4, 1000, 5, 6, 1, 31, 7] : List Int32).getD k 0
  | _ => ([0, 0, 1, 8, 0, 1, 5, 4, 1, 8, 2] : List Int32).getD k 0
/-- a static field that is laid, outside of our cells -/
def pz_ls (C n d : String) (A : Nat → Prop) (U : State) (H : Heap) : Prop := ∃ (c : ClassId) (k : Class) (i : Nat) (f : Field) (a : Nat) (cell : Cell), U.vm.findClass C = some c ∧ U.fieldFound? C n d = some (c, k, i, f) ∧ f.isStatic = true ∧ k.statics = some a ∧ H[a]? = some cell ∧ cell.vm.isStatics = true ∧ cell.cls = c ∧ f.slot < cell.slots.size ∧ k.staticTypes[f.slot]? = some f.type ∧ ¬ A a
theorem pz_ls.word {C n d : String} {A : Nat → Prop} {U : State} {args : Array Value} (h : pz_ls C n d A U U.heap) : (Cond.laysStatic C n d).before args U = true := by
  obtain ⟨c, k, i, f, a, cell, h1, h2, h3, h4, h5, h6, h7, h8, h9, -⟩ := h
  simp [Cond.before, Cond.holds, Cond.value, h1, h2, h3, h4, h5, h6, h7, h8, h9]
theorem pz_ls.kept {C n d : String} {A : Nat → Prop} {U : State} {H H1 : Heap} (h : pz_ls C n d A U H) (hq : ∀ a : Nat, a < H.size → ¬ A a → H1[a]? = H[a]?) : pz_ls C n d A U H1 := by
  obtain ⟨c, k, i, f, a, cell, h1, h2, h3, h4, h5, h6, h7, h8, h9, h10⟩ := h
  exact ⟨c, k, i, f, a, cell, h1, h2, h3, h4, by rw [hq a (Array.getElem?_eq_some_iff.mp h5).1 h10]; exact h5, h6, h7, h8, h9, h10⟩
theorem pz_ls.same {C n d : String} {A : Nat → Prop} {u U : State} {H : Heap} (hv : U.vm = u.vm) (h : pz_ls C n d A u H) : pz_ls C n d A U H := by
  obtain ⟨c, k, i, f, a, cell, h1, h2, h3⟩ := h
  exact ⟨c, k, i, f, a, cell, by rw [hv]; exact h1, by simp only [State.fieldFound?, hv] at h2 ⊢; exact h2, h3⟩
/-- the texts of the class's exceptions, by their places -/
def pz_SL : List (Nat × String) := [(93, "no such setting there"), (107, "the sizes are fixed"), (116, "beyond the bounds of the setting"), (131, "no such tile"), (138, "no room for a tile part"), (152, "no such part"), (162, "no room for a packet"), (164, "the part has no packet"), (170, "no byte"), (175, "no room for a byte"), (189, "no kind for a box"), (191, "no room for a box"), (198, "no such box"), (221, "no such byte"), (225, "fewer than no bytes"), (233, "no room for so many bytes"), (263, "nothing was read")]
/-- exceptions that are none of another class -/
def pz_NC : List (String × String) := [("java/lang/IllegalStateException", "java/lang/IndexOutOfBoundsException"), ("java/lang/IllegalArgumentException", "java/lang/IndexOutOfBoundsException"), ("java/lang/UnsupportedOperationException", "java/lang/IndexOutOfBoundsException"), ("java/lang/IndexOutOfBoundsException", "java/lang/IllegalStateException"), ("java/lang/IllegalArgumentException", "java/lang/IllegalStateException"), ("java/lang/UnsupportedOperationException", "java/lang/IllegalStateException"), ("java/lang/IndexOutOfBoundsException", "java/lang/IllegalArgumentException"), ("java/lang/IllegalStateException", "java/lang/IllegalArgumentException"), ("java/lang/UnsupportedOperationException", "java/lang/IllegalArgumentException"), ("java/lang/IndexOutOfBoundsException", "java/lang/UnsupportedOperationException"), ("java/lang/IllegalStateException", "java/lang/UnsupportedOperationException"), ("java/lang/IllegalArgumentException", "java/lang/UnsupportedOperationException")]
def pz_ext (l : Launch) (A : Nat → Prop) (X : Nat → Nat) (S : Nat × (Nat → Int32)) (U : State) : Prop := (∀ w ∈ NW, va_Nw w U) ∧ (∀ j, j < 3 → va_Z "WaveFiles" (pz_sn j) "[I" (.ref (X j)) A U U.heap ∧ va_T .int (X j) 11 (fun k => .int (pz_tab j k)) A U U.heap) ∧ va_Z "java/util/ArrayList" "DEFAULTCAPACITY_EMPTY_ELEMENTDATA" "[Ljava/lang/Object;" (.ref (X 3)) A U U.heap ∧ va_T (.object "java/lang/Object") (X 3) 0 (fun _ => .null) A U U.heap ∧ va_Mi "[Ljava/lang/Object;" (X 4) U ∧ va_AO "java/lang/Object" U ∧ l.stackTraces = false ∧ (∀ q ∈ pz_SL, ∃ sa, vk_R "WaveFiles" q.1 q.2 sa U) ∧ va_Zq "java/lang/Throwable" "UNASSIGNED_STACK" "[Ljava/lang/StackTraceElement;" A U U.heap ∧ va_Zq "java/lang/Throwable" "SUPPRESSED_SENTINEL" "Ljava/util/List;" A U U.heap ∧ pz_ls "java/lang/Throwable" "UNASSIGNED_STACK" "[Ljava/lang/StackTraceElement;" A U U.heap ∧ pz_ls "java/lang/Throwable" "SUPPRESSED_SENTINEL" "Ljava/util/List;" A U U.heap ∧ (∀ q ∈ pz_NC, va_Nc q.1 q.2 U) ∧ va_X (X 5) S.1 S.2 U U.heap ∧ X 5 < U.heap.size ∧ ¬ A (X 5)

