def cR_CT : String := "ObjectFile$Contents"
def cT_CT : u_T := fun k => match k with
  | 0 => ("ObjectFile$Contents", "bytes", "[B", true)
  | 1 => ("ObjectFile$Contents", "lengths", "[I", true)
  | 2 => ("ObjectFile$Contents", "alignments", "[I", true)
  | 3 => ("ObjectFile$Contents", "starts", "[I", true)
  | 4 => ("ObjectFile$Contents", "startCount", "I", false)
  | 5 => ("ObjectFile$Contents", "symbols", "[I", true)
  | 6 => ("ObjectFile$Contents", "names", "[B", true)
  | 7 => ("ObjectFile$Contents", "symbolCount", "I", false)
  | 8 => ("ObjectFile$Contents", "relocations", "[I", true)
  | _ => ("ObjectFile$Contents", "relocationCount", "I", false)
def cY_CT : Nat → FieldType := fun k => match k with
  | 0 => .array .byte
  | 1 => .array .int
  | 2 => .array .int
  | 3 => .array .int
  | 4 => .int
  | 5 => .array .int
  | 6 => .array .byte
  | 7 => .int
  | 8 => .array .int
  | _ => .int
def cR_DI : String := "ObjectFile$Directory"
def cT_DI : u_T := fun k => match k with
  | 0 => ("ObjectFile$Directory", "file", "LObjectFile$FileBytes;", true)
  | 1 => ("ObjectFile$Directory", "finding", "LObjectFile$Finding;", true)
  | 2 => ("ObjectFile$Directory", "partOf", "[I", true)
  | 3 => ("ObjectFile$Directory", "entryOf", "[I", true)
  | 4 => ("ObjectFile$Directory", "begins", "[I", true)
  | 5 => ("ObjectFile$Directory", "lengths", "[I", true)
  | 6 => ("ObjectFile$Directory", "alignments", "[I", true)
  | 7 => ("ObjectFile$Directory", "table", "I", false)
  | 8 => ("ObjectFile$Directory", "entries", "I", false)
  | _ => ("ObjectFile$Directory", "namesEntry", "I", false)
def cY_DI : Nat → FieldType := fun k => match k with
  | 0 => .object "ObjectFile$FileBytes"
  | 1 => .object "ObjectFile$Finding"
  | 2 => .array .int
  | 3 => .array .int
  | 4 => .array .int
  | 5 => .array .int
  | 6 => .array .int
  | 7 => .int
  | 8 => .int
  | _ => .int
def cR_FB : String := "ObjectFile$FileBytes"
def cT_FB : u_T := fun k => match k with
  | 0 => ("ObjectFile$FileBytes", "row", "[B", true)
  | _ => ("ObjectFile$FileBytes", "length", "I", false)
def cY_FB : Nat → FieldType := fun k => match k with
  | 0 => .array .byte
  | _ => .int
def cR_FI : String := "ObjectFile$Finding"
def cT_FI : u_T := fun k => match k with
  | _ => ("ObjectFile$Finding", "spot", "I", false)
def cY_FI : Nat → FieldType := fun k => match k with
  | _ => .int
def cR_RE : String := "ObjectFile$Reader"
def cT_RE : u_T := fun k => match k with
  | 0 => ("ObjectFile$Reader", "file", "LObjectFile$FileBytes;", true)
  | 1 => ("ObjectFile$Reader", "finding", "LObjectFile$Finding;", true)
  | 2 => ("ObjectFile$Reader", "directory", "LObjectFile$Directory;", true)
  | _ => ("ObjectFile$Reader", "locals", "I", false)
def cY_RE : Nat → FieldType := fun k => match k with
  | 0 => .object "ObjectFile$FileBytes"
  | 1 => .object "ObjectFile$Finding"
  | 2 => .object "ObjectFile$Directory"
  | _ => .int
def cR_ST : String := "ObjectFile$Strings"
def cT_ST : u_T := fun k => match k with
  | 0 => ("ObjectFile$Strings", "row", "[B", true)
  | _ => ("ObjectFile$Strings", "length", "I", false)
def cY_ST : Nat → FieldType := fun k => match k with
  | 0 => .array .byte
  | _ => .int
def cR_WR : String := "ObjectFile$Writer"
def cT_WR : u_T := fun k => match k with
  | 0 => ("ObjectFile$Writer", "from", "LObjectFile$Contents;", true)
  | 1 => ("ObjectFile$Writer", "file", "LObjectFile$FileBytes;", true)
  | 2 => ("ObjectFile$Writer", "names", "LObjectFile$Strings;", true)
  | 3 => ("ObjectFile$Writer", "labels", "LObjectFile$Strings;", true)
  | 4 => ("ObjectFile$Writer", "word", "[B", true)
  | 5 => ("ObjectFile$Writer", "entryOf", "[I", true)
  | 6 => ("ObjectFile$Writer", "labelAt", "[I", true)
  | 7 => ("ObjectFile$Writer", "beginOf", "[I", true)
  | 8 => ("ObjectFile$Writer", "lengthOf", "[I", true)
  | 9 => ("ObjectFile$Writer", "order", "[I", true)
  | 10 => ("ObjectFile$Writer", "numberOf", "[I", true)
  | 11 => ("ObjectFile$Writer", "nameAt", "[I", true)
  | 12 => ("ObjectFile$Writer", "locals", "I", false)
  | 13 => ("ObjectFile$Writer", "entries", "I", false)
  | _ => ("ObjectFile$Writer", "table", "I", false)
def cY_WR : Nat → FieldType := fun k => match k with
  | 0 => .object "ObjectFile$Contents"
  | 1 => .object "ObjectFile$FileBytes"
  | 2 => .object "ObjectFile$Strings"
  | 3 => .object "ObjectFile$Strings"
  | 4 => .array .byte
  | 5 => .array .int
  | 6 => .array .int
  | 7 => .array .int
  | 8 => .array .int
  | 9 => .array .int
  | 10 => .array .int
  | 11 => .array .int
  | 12 => .int
  | 13 => .int
  | _ => .int
def cR_OF : String := "ObjectFile"
def cT_OF : u_T := fun k => match k with
  | 0 => ("ObjectFile", "made", "LObjectFile$Contents;", true)
  | 1 => ("ObjectFile", "seen", "LObjectFile$Contents;", true)
  | 2 => ("ObjectFile", "file", "LObjectFile$FileBytes;", true)
  | 3 => ("ObjectFile", "writer", "LObjectFile$Writer;", true)
  | 4 => ("ObjectFile", "finding", "LObjectFile$Finding;", true)
  | 5 => ("ObjectFile", "directory", "LObjectFile$Directory;", true)
  | 6 => ("ObjectFile", "reader", "LObjectFile$Reader;", true)
  | 7 => ("ObjectFile", "draft", "[B", true)
  | _ => ("ObjectFile", "draftLength", "I", false)
def cY_OF : Nat → FieldType := fun k => match k with
  | 0 => .object "ObjectFile$Contents"
  | 1 => .object "ObjectFile$Contents"
  | 2 => .object "ObjectFile$FileBytes"
  | 3 => .object "ObjectFile$Writer"
  | 4 => .object "ObjectFile$Finding"
  | 5 => .object "ObjectFile$Directory"
  | 6 => .object "ObjectFile$Reader"
  | 7 => .array .byte
  | _ => .int
def cR_MO : String := "ObjectFileModel"
def cT_MO : u_T := fun k => match k with
  | 0 => ("ObjectFileModel", "bytes", "[I", true)
  | 1 => ("ObjectFileModel", "sizes", "[I", true)
  | 2 => ("ObjectFileModel", "aligns", "[I", true)
  | 3 => ("ObjectFileModel", "starts", "[I", true)
  | 4 => ("ObjectFileModel", "startMany", "[I", true)
  | 5 => ("ObjectFileModel", "where", "[I", true)
  | 6 => ("ObjectFileModel", "value", "[I", true)
  | 7 => ("ObjectFileModel", "length", "[I", true)
  | 8 => ("ObjectFileModel", "bind", "[I", true)
  | 9 => ("ObjectFileModel", "sort", "[I", true)
  | 10 => ("ObjectFileModel", "named", "[I", true)
  | 11 => ("ObjectFileModel", "names", "[I", true)
  | 12 => ("ObjectFileModel", "symbolMany", "[I", true)
  | 13 => ("ObjectFileModel", "part", "[I", true)
  | 14 => ("ObjectFileModel", "spot", "[I", true)
  | 15 => ("ObjectFileModel", "kind", "[I", true)
  | 16 => ("ObjectFileModel", "target", "[I", true)
  | 17 => ("ObjectFileModel", "addend", "[I", true)
  | 18 => ("ObjectFileModel", "relocationMany", "[I", true)
  | 19 => ("ObjectFileModel", "draft", "[I", true)
  | 20 => ("ObjectFileModel", "drafted", "I", false)
  | 21 => ("ObjectFileModel", "file", "[I", true)
  | 22 => ("ObjectFileModel", "filed", "I", false)
  | 23 => ("ObjectFileModel", "place", "I", false)
  | 24 => ("ObjectFileModel", "titles", "[I", true)
  | 25 => ("ObjectFileModel", "titleAt", "[I", true)
  | 26 => ("ObjectFileModel", "begins", "[I", true)
  | 27 => ("ObjectFileModel", "many", "[I", true)
  | 28 => ("ObjectFileModel", "entry", "[I", true)
  | 29 => ("ObjectFileModel", "strings", "[I", true)
  | 30 => ("ObjectFileModel", "stringMany", "I", false)
  | 31 => ("ObjectFileModel", "word", "[I", true)
  | 32 => ("ObjectFileModel", "wordMany", "I", false)
  | 33 => ("ObjectFileModel", "stringAt", "[I", true)
  | 34 => ("ObjectFileModel", "turn", "[I", true)
  | 35 => ("ObjectFileModel", "titlePlace", "[I", true)
  | 36 => ("ObjectFileModel", "headMany", "I", false)
  | 37 => ("ObjectFileModel", "entryOf", "[I", true)
  | 38 => ("ObjectFileModel", "nameOf", "[I", true)
  | 39 => ("ObjectFileModel", "table", "I", false)
  | _ => ("ObjectFileModel", "entries", "I", false)
def cY_MO : Nat → FieldType := fun k => match k with
  | 0 => .array .int
  | 1 => .array .int
  | 2 => .array .int
  | 3 => .array .int
  | 4 => .array .int
  | 5 => .array .int
  | 6 => .array .int
  | 7 => .array .int
  | 8 => .array .int
  | 9 => .array .int
  | 10 => .array .int
  | 11 => .array .int
  | 12 => .array .int
  | 13 => .array .int
  | 14 => .array .int
  | 15 => .array .int
  | 16 => .array .int
  | 17 => .array .int
  | 18 => .array .int
  | 19 => .array .int
  | 20 => .int
  | 21 => .array .int
  | 22 => .int
  | 23 => .int
  | 24 => .array .int
  | 25 => .array .int
  | 26 => .array .int
  | 27 => .array .int
  | 28 => .array .int
  | 29 => .array .int
  | 30 => .int
  | 31 => .array .int
  | 32 => .int
  | 33 => .array .int
  | 34 => .array .int
  | 35 => .array .int
  | 36 => .int
  | 37 => .array .int
  | 38 => .array .int
  | 39 => .int
  | _ => .int
abbrev gCl : List vw_C := [(cR_CT, cT_CT, 10), (cR_DI, cT_DI, 10), (cR_FB, cT_FB, 2), (cR_FI, cT_FI, 1), (cR_RE, cT_RE, 4), (cR_ST, cT_ST, 2), (cR_WR, cT_WR, 15), (cR_OF, cT_OF, 9), (cR_MO, cT_MO, 41)]
def gTb0 : List Int32 := [1, 1, 1, 1, 2, 4, 4, 4, 4, 1, 1]
def gTb1 : List Int32 := [6, 2, 3, 3, 0, 64, 64, 64, 0, 0, 0]
def gTb2 : List Int32 := [127, 69, 76, 70]
def gTb3 : List Int32 := [1, 1, 1, 8, 1, 4, 4, 4, 2, 3, 3]
def gTb4 : List Int32 := [0, 0, 0, 0, 2, 12, 12, 12, 16, 0, 0]
def gTabs : List (String × String × List Int32) := [("ObjectFile", "ALIGNMENTS", gTb0), ("ObjectFile", "FLAGS", gTb1), ("ObjectFile", "MAGIC", gTb2), ("ObjectFile", "SORTS", gTb3), ("ObjectFile", "UNITS", gTb4)]
def gLay : List gDesc := [.inr (7, [some 1, some 9, some 17, some 19, some 32, some 33, some 39, some 40, none]), .inr (0, [some 2, some 3, some 4, some 5, none, some 6, some 7, none, some 8, none]), .inl (1, 6144), .inl (0, 4), .inl (0, 4), .inl (0, 1024), .inl (0, 600), .inl (1, 1600), .inl (0, 1500), .inr (0, [some 10, some 11, some 12, some 13, none, some 14, some 15, none, some 16, none]), .inl (1, 6144), .inl (0, 4), .inl (0, 4), .inl (0, 1024), .inl (0, 600), .inl (1, 1600), .inl (0, 1500), .inr (2, [some 18, none]), .inl (1, 8192), .inr (6, [some 1, some 17, some 20, some 22, some 24, some 25, some 26, some 27, some 28, some 29, some 30, some 31, none, none, none]), .inr (5, [some 21, none]), .inl (1, 1701), .inr (5, [some 23, none]), .inl (1, 1701), .inl (1, 16), .inl (0, 11), .inl (0, 11), .inl (0, 11), .inl (0, 11), .inl (0, 100), .inl (0, 100), .inl (0, 100), .inr (3, [none]), .inr (1, [some 17, some 32, some 34, some 35, some 36, some 37, some 38, none, none, none]), .inl (0, 16), .inl (0, 11), .inl (0, 11), .inl (0, 11), .inl (0, 11), .inr (4, [some 17, some 32, some 33, none]), .inl (1, 16), .inr (8, [some 42, some 43, some 44, some 45, some 46, some 47, some 48, some 49, some 50, some 51, some 52, some 53, some 54, some 55, some 56, some 57, some 58, some 59, some 60, some 61, none, some 62, none, none, some 63, some 64, some 65, some 66, some 67, some 68, none, some 69, none, some 70, some 71, some 72, none, some 73, some 74, none, none]), .inl (0, 12288), .inl (0, 8), .inl (0, 8), .inl (0, 2048), .inl (0, 2), .inl (0, 200), .inl (0, 200), .inl (0, 200), .inl (0, 200), .inl (0, 200), .inl (0, 200), .inl (0, 3200), .inl (0, 2), .inl (0, 600), .inl (0, 600), .inl (0, 600), .inl (0, 600), .inl (0, 600), .inl (0, 2), .inl (0, 16), .inl (0, 8192), .inl (0, 128), .inl (0, 11), .inl (0, 11), .inl (0, 11), .inl (0, 11), .inl (0, 2048), .inl (0, 24), .inl (0, 100), .inl (0, 100), .inl (0, 11), .inl (0, 11), .inl (0, 16)]
theorem ly_0 : gLay[0]? = some (.inr (7, [some 1, some 9, some 17, some 19, some 32, some 33, some 39, some 40, none])) := rfl
theorem ly_1 : gLay[1]? = some (.inr (0, [some 2, some 3, some 4, some 5, none, some 6, some 7, none, some 8, none])) := rfl
theorem ly_2 : gLay[2]? = some (.inl (1, 6144)) := rfl
theorem ly_3 : gLay[3]? = some (.inl (0, 4)) := rfl
theorem ly_4 : gLay[4]? = some (.inl (0, 4)) := rfl
theorem ly_5 : gLay[5]? = some (.inl (0, 1024)) := rfl
theorem ly_6 : gLay[6]? = some (.inl (0, 600)) := rfl
theorem ly_7 : gLay[7]? = some (.inl (1, 1600)) := rfl
theorem ly_8 : gLay[8]? = some (.inl (0, 1500)) := rfl
theorem ly_9 : gLay[9]? = some (.inr (0, [some 10, some 11, some 12, some 13, none, some 14, some 15, none, some 16, none])) := rfl
theorem ly_10 : gLay[10]? = some (.inl (1, 6144)) := rfl
theorem ly_11 : gLay[11]? = some (.inl (0, 4)) := rfl
theorem ly_12 : gLay[12]? = some (.inl (0, 4)) := rfl
theorem ly_13 : gLay[13]? = some (.inl (0, 1024)) := rfl
theorem ly_14 : gLay[14]? = some (.inl (0, 600)) := rfl
theorem ly_15 : gLay[15]? = some (.inl (1, 1600)) := rfl
theorem ly_16 : gLay[16]? = some (.inl (0, 1500)) := rfl
theorem ly_17 : gLay[17]? = some (.inr (2, [some 18, none])) := rfl
theorem ly_18 : gLay[18]? = some (.inl (1, 8192)) := rfl
theorem ly_19 : gLay[19]? = some (.inr (6, [some 1, some 17, some 20, some 22, some 24, some 25, some 26, some 27, some 28, some 29, some 30, some 31, none, none, none])) := rfl
theorem ly_20 : gLay[20]? = some (.inr (5, [some 21, none])) := rfl
theorem ly_21 : gLay[21]? = some (.inl (1, 1701)) := rfl
theorem ly_22 : gLay[22]? = some (.inr (5, [some 23, none])) := rfl
theorem ly_23 : gLay[23]? = some (.inl (1, 1701)) := rfl
theorem ly_24 : gLay[24]? = some (.inl (1, 16)) := rfl
theorem ly_25 : gLay[25]? = some (.inl (0, 11)) := rfl
theorem ly_26 : gLay[26]? = some (.inl (0, 11)) := rfl
theorem ly_27 : gLay[27]? = some (.inl (0, 11)) := rfl
theorem ly_28 : gLay[28]? = some (.inl (0, 11)) := rfl
theorem ly_29 : gLay[29]? = some (.inl (0, 100)) := rfl
theorem ly_30 : gLay[30]? = some (.inl (0, 100)) := rfl
theorem ly_31 : gLay[31]? = some (.inl (0, 100)) := rfl
theorem ly_32 : gLay[32]? = some (.inr (3, [none])) := rfl
theorem ly_33 : gLay[33]? = some (.inr (1, [some 17, some 32, some 34, some 35, some 36, some 37, some 38, none, none, none])) := rfl
theorem ly_34 : gLay[34]? = some (.inl (0, 16)) := rfl
theorem ly_35 : gLay[35]? = some (.inl (0, 11)) := rfl
theorem ly_36 : gLay[36]? = some (.inl (0, 11)) := rfl
theorem ly_37 : gLay[37]? = some (.inl (0, 11)) := rfl
theorem ly_38 : gLay[38]? = some (.inl (0, 11)) := rfl
theorem ly_39 : gLay[39]? = some (.inr (4, [some 17, some 32, some 33, none])) := rfl
theorem ly_40 : gLay[40]? = some (.inl (1, 16)) := rfl
theorem ly_41 : gLay[41]? = some (.inr (8, [some 42, some 43, some 44, some 45, some 46, some 47, some 48, some 49, some 50, some 51, some 52, some 53, some 54, some 55, some 56, some 57, some 58, some 59, some 60, some 61, none, some 62, none, none, some 63, some 64, some 65, some 66, some 67, some 68, none, some 69, none, some 70, some 71, some 72, none, some 73, some 74, none, none])) := rfl
theorem ly_42 : gLay[42]? = some (.inl (0, 12288)) := rfl
theorem ly_43 : gLay[43]? = some (.inl (0, 8)) := rfl
theorem ly_44 : gLay[44]? = some (.inl (0, 8)) := rfl
theorem ly_45 : gLay[45]? = some (.inl (0, 2048)) := rfl
theorem ly_46 : gLay[46]? = some (.inl (0, 2)) := rfl
theorem ly_47 : gLay[47]? = some (.inl (0, 200)) := rfl
theorem ly_48 : gLay[48]? = some (.inl (0, 200)) := rfl
theorem ly_49 : gLay[49]? = some (.inl (0, 200)) := rfl
theorem ly_50 : gLay[50]? = some (.inl (0, 200)) := rfl
theorem ly_51 : gLay[51]? = some (.inl (0, 200)) := rfl
theorem ly_52 : gLay[52]? = some (.inl (0, 200)) := rfl
theorem ly_53 : gLay[53]? = some (.inl (0, 3200)) := rfl
theorem ly_54 : gLay[54]? = some (.inl (0, 2)) := rfl
theorem ly_55 : gLay[55]? = some (.inl (0, 600)) := rfl
theorem ly_56 : gLay[56]? = some (.inl (0, 600)) := rfl
theorem ly_57 : gLay[57]? = some (.inl (0, 600)) := rfl
theorem ly_58 : gLay[58]? = some (.inl (0, 600)) := rfl
theorem ly_59 : gLay[59]? = some (.inl (0, 600)) := rfl
theorem ly_60 : gLay[60]? = some (.inl (0, 2)) := rfl
theorem ly_61 : gLay[61]? = some (.inl (0, 16)) := rfl
theorem ly_62 : gLay[62]? = some (.inl (0, 8192)) := rfl
theorem ly_63 : gLay[63]? = some (.inl (0, 128)) := rfl
theorem ly_64 : gLay[64]? = some (.inl (0, 11)) := rfl
theorem ly_65 : gLay[65]? = some (.inl (0, 11)) := rfl
theorem ly_66 : gLay[66]? = some (.inl (0, 11)) := rfl
theorem ly_67 : gLay[67]? = some (.inl (0, 11)) := rfl
theorem ly_68 : gLay[68]? = some (.inl (0, 2048)) := rfl
theorem ly_69 : gLay[69]? = some (.inl (0, 24)) := rfl
theorem ly_70 : gLay[70]? = some (.inl (0, 100)) := rfl
theorem ly_71 : gLay[71]? = some (.inl (0, 100)) := rfl
theorem ly_72 : gLay[72]? = some (.inl (0, 11)) := rfl
theorem ly_73 : gLay[73]? = some (.inl (0, 11)) := rfl
theorem ly_74 : gLay[74]? = some (.inl (0, 16)) := rfl
theorem pn_OF : plainName "ObjectFile" = true := by decide +kernel
theorem pn_CT : plainName "ObjectFile$Contents" = true := by decide +kernel
theorem pn_DI : plainName "ObjectFile$Directory" = true := by decide +kernel
theorem pn_FB : plainName "ObjectFile$FileBytes" = true := by decide +kernel
theorem pn_FI : plainName "ObjectFile$Finding" = true := by decide +kernel
theorem pn_RE : plainName "ObjectFile$Reader" = true := by decide +kernel
theorem pn_ST : plainName "ObjectFile$Strings" = true := by decide +kernel
theorem pn_WR : plainName "ObjectFile$Writer" = true := by decide +kernel
theorem pn_MO : plainName "ObjectFileModel" = true := by decide +kernel
theorem pn_AR : plainName "java/util/Arrays" = true := by decide +kernel
def y_MO_clear : MethodName := ⟨"ObjectFileModel", "clear", "()V"⟩
abbrev b_MO_clear : ByteArray := prog_10_method_15_code
def y_MO_byteOf : MethodName := ⟨"ObjectFileModel", "byteOf", "(JI)I"⟩
abbrev b_MO_byteOf : ByteArray := prog_10_method_13_code
def y_MO_put : MethodName := ⟨"ObjectFileModel", "put", "(IIJ)Z"⟩
abbrev b_MO_put : ByteArray := prog_10_method_16_code
def y_MO_bss : MethodName := ⟨"ObjectFileModel", "bss", "(I)Z"⟩
abbrev b_MO_bss : ByteArray := prog_10_method_17_code
def y_MO_align : MethodName := ⟨"ObjectFileModel", "align", "(II)Z"⟩
abbrev b_MO_align : ByteArray := prog_10_method_18_code
def y_MO_start : MethodName := ⟨"ObjectFileModel", "start", "(I)Z"⟩
abbrev b_MO_start : ByteArray := prog_10_method_19_code
def y_MO_letter : MethodName := ⟨"ObjectFileModel", "letter", "(I)Z"⟩
abbrev b_MO_letter : ByteArray := prog_10_method_20_code
def y_MO_isPower : MethodName := ⟨"ObjectFileModel", "isPower", "(I)Z"⟩
abbrev b_MO_isPower : ByteArray := prog_10_method_5_code
def y_MO_isSymbol : MethodName := ⟨"ObjectFileModel", "isSymbol", "(IIII)Z"⟩
abbrev b_MO_isSymbol : ByteArray := prog_10_method_21_code
def y_MO_isSameName : MethodName := ⟨"ObjectFileModel", "isSameName", "(II)Z"⟩
abbrev b_MO_isSameName : ByteArray := prog_10_method_11_code
def y_MO_symbol : MethodName := ⟨"ObjectFileModel", "symbol", "(IIIII)I"⟩
abbrev b_MO_symbol : ByteArray := prog_10_method_22_code
def y_MO_isKind : MethodName := ⟨"ObjectFileModel", "isKind", "(I)Z"⟩
abbrev b_MO_isKind : ByteArray := prog_10_method_6_code
def y_MO_isKindOf : MethodName := ⟨"ObjectFileModel", "isKindOf", "(II)Z"⟩
abbrev b_MO_isKindOf : ByteArray := prog_10_method_7_code
def y_MO_isAlone : MethodName := ⟨"ObjectFileModel", "isAlone", "(I)Z"⟩
abbrev b_MO_isAlone : ByteArray := prog_10_method_8_code
def y_MO_isSkip : MethodName := ⟨"ObjectFileModel", "isSkip", "(J)Z"⟩
abbrev b_MO_isSkip : ByteArray := prog_10_method_9_code
def y_MO_relocation : MethodName := ⟨"ObjectFileModel", "relocation", "(IIIII)I"⟩
abbrev b_MO_relocation : ByteArray := prog_10_method_23_code
def y_MO_widthOf : MethodName := ⟨"ObjectFileModel", "widthOf", "(II)I"⟩
abbrev b_MO_widthOf : ByteArray := prog_10_method_10_code
def y_MO_unfit : MethodName := ⟨"ObjectFileModel", "unfit", "()I"⟩
abbrev b_MO_unfit : ByteArray := prog_10_method_28_code
def y_MO_order : MethodName := ⟨"ObjectFileModel", "order", "()I"⟩
abbrev b_MO_order : ByteArray := prog_10_method_29_code
def y_MO_begin : MethodName := ⟨"ObjectFileModel", "begin", "()V"⟩
abbrev b_MO_begin : ByteArray := prog_10_method_24_code
def y_MO_stringFor : MethodName := ⟨"ObjectFileModel", "stringFor", "()I"⟩
abbrev b_MO_stringFor : ByteArray := prog_10_method_25_code
def y_MO_sizeOfSymbolNames : MethodName := ⟨"ObjectFileModel", "sizeOfSymbolNames", "()I"⟩
abbrev b_MO_sizeOfSymbolNames : ByteArray := prog_10_method_30_code
def y_MO_takeTitle : MethodName := ⟨"ObjectFileModel", "takeTitle", "(I)V"⟩
abbrev b_MO_takeTitle : ByteArray := prog_10_method_26_code
def y_MO_sizeOfTitles : MethodName := ⟨"ObjectFileModel", "sizeOfTitles", "()I"⟩
abbrev b_MO_sizeOfTitles : ByteArray := prog_10_method_31_code
def y_MO_roundUp : MethodName := ⟨"ObjectFileModel", "roundUp", "(II)I"⟩
abbrev b_MO_roundUp : ByteArray := prog_10_method_12_code
def y_MO_relocationsOf : MethodName := ⟨"ObjectFileModel", "relocationsOf", "(I)I"⟩
abbrev b_MO_relocationsOf : ByteArray := prog_10_method_27_code
def y_MO_lay : MethodName := ⟨"ObjectFileModel", "lay", "()I"⟩
abbrev b_MO_lay : ByteArray := prog_10_method_32_code
def y_MO_write1 : MethodName := ⟨"ObjectFileModel", "write1", "(II)V"⟩
abbrev b_MO_write1 : ByteArray := prog_10_method_33_code
def y_MO_write2 : MethodName := ⟨"ObjectFileModel", "write2", "(II)V"⟩
abbrev b_MO_write2 : ByteArray := prog_10_method_34_code
def y_MO_write4 : MethodName := ⟨"ObjectFileModel", "write4", "(II)V"⟩
abbrev b_MO_write4 : ByteArray := prog_10_method_35_code
def y_MO_isShort : MethodName := ⟨"ObjectFileModel", "isShort", "(I)Z"⟩
abbrev b_MO_isShort : ByteArray := prog_10_method_14_code
def y_MO_writeHead : MethodName := ⟨"ObjectFileModel", "writeHead", "(I)V"⟩
abbrev b_MO_writeHead : ByteArray := prog_10_method_36_code
def y_MO_writeSymbols : MethodName := ⟨"ObjectFileModel", "writeSymbols", "()V"⟩
abbrev b_MO_writeSymbols : ByteArray := prog_10_method_41_code
def y_MO_sortOf : MethodName := ⟨"ObjectFileModel", "sortOf", "(I)I"⟩
abbrev b_MO_sortOf : ByteArray := prog_10_method_38_code
def y_MO_flagsOf : MethodName := ⟨"ObjectFileModel", "flagsOf", "(I)I"⟩
abbrev b_MO_flagsOf : ByteArray := prog_10_method_37_code
def y_MO_eachOf : MethodName := ⟨"ObjectFileModel", "eachOf", "(I)I"⟩
abbrev b_MO_eachOf : ByteArray := prog_10_method_39_code
def y_MO_writeEntry : MethodName := ⟨"ObjectFileModel", "writeEntry", "(III)V"⟩
abbrev b_MO_writeEntry : ByteArray := prog_10_method_40_code
def y_MO_writeRelocations : MethodName := ⟨"ObjectFileModel", "writeRelocations", "(I)V"⟩
abbrev b_MO_writeRelocations : ByteArray := prog_10_method_42_code
def y_MO_write : MethodName := ⟨"ObjectFileModel", "write", "()I"⟩
abbrev b_MO_write : ByteArray := prog_10_method_43_code
def y_MO_size : MethodName := ⟨"ObjectFileModel", "size", "()I"⟩
abbrev b_MO_size : ByteArray := prog_10_method_44_code
def y_MO_byteAt : MethodName := ⟨"ObjectFileModel", "byteAt", "(I)I"⟩
abbrev b_MO_byteAt : ByteArray := prog_10_method_45_code
def y_MO_feed : MethodName := ⟨"ObjectFileModel", "feed", "(IJ)Z"⟩
abbrev b_MO_feed : ByteArray := prog_10_method_46_code
def y_MO_cut : MethodName := ⟨"ObjectFileModel", "cut", "(I)Z"⟩
abbrev b_MO_cut : ByteArray := prog_10_method_47_code
def y_MO_spoil : MethodName := ⟨"ObjectFileModel", "spoil", "(II)I"⟩
abbrev b_MO_spoil : ByteArray := prog_10_method_48_code
def y_MO_read2 : MethodName := ⟨"ObjectFileModel", "read2", "(I)I"⟩
abbrev b_MO_read2 : ByteArray := prog_10_method_49_code
def y_MO_read4 : MethodName := ⟨"ObjectFileModel", "read4", "(I)J"⟩
abbrev b_MO_read4 : ByteArray := prog_10_method_50_code
def y_MO_fault : MethodName := ⟨"ObjectFileModel", "fault", "(II)I"⟩
abbrev b_MO_fault : ByteArray := prog_10_method_51_code
def y_MO_head : MethodName := ⟨"ObjectFileModel", "head", "()I"⟩
abbrev b_MO_head : ByteArray := prog_10_method_54_code
def y_MO_spotOf : MethodName := ⟨"ObjectFileModel", "spotOf", "(II)I"⟩
abbrev b_MO_spotOf : ByteArray := prog_10_method_52_code
def y_MO_told : MethodName := ⟨"ObjectFileModel", "told", "(II)J"⟩
abbrev b_MO_told : ByteArray := prog_10_method_53_code
def y_MO_isTitle : MethodName := ⟨"ObjectFileModel", "isTitle", "(II)Z"⟩
abbrev b_MO_isTitle : ByteArray := prog_10_method_57_code
def y_MO_nameFaults : MethodName := ⟨"ObjectFileModel", "nameFaults", "()I"⟩
abbrev b_MO_nameFaults : ByteArray := prog_10_method_58_code
def y_MO_bytesOf : MethodName := ⟨"ObjectFileModel", "bytesOf", "(I)J"⟩
abbrev b_MO_bytesOf : ByteArray := prog_10_method_61_code
def y_MO_from : MethodName := ⟨"ObjectFileModel", "from", "(I)I"⟩
abbrev b_MO_from : ByteArray := prog_10_method_60_code
def y_MO_sizeFaults : MethodName := ⟨"ObjectFileModel", "sizeFaults", "()I"⟩
abbrev b_MO_sizeFaults : ByteArray := prog_10_method_62_code
def y_MO_symbolsIn : MethodName := ⟨"ObjectFileModel", "symbolsIn", "()I"⟩
abbrev b_MO_symbolsIn : ByteArray := prog_10_method_63_code
def y_MO_symbolPlace : MethodName := ⟨"ObjectFileModel", "symbolPlace", "(I)I"⟩
abbrev b_MO_symbolPlace : ByteArray := prog_10_method_64_code
def y_MO_bindOf : MethodName := ⟨"ObjectFileModel", "bindOf", "(I)I"⟩
abbrev b_MO_bindOf : ByteArray := prog_10_method_70_code
def y_MO_infoFault : MethodName := ⟨"ObjectFileModel", "infoFault", "()I"⟩
abbrev b_MO_infoFault : ByteArray := prog_10_method_73_code
def y_MO_startFaults : MethodName := ⟨"ObjectFileModel", "startFaults", "()I"⟩
abbrev b_MO_startFaults : ByteArray := prog_10_method_75_code
def y_MO_relocationFault : MethodName := ⟨"ObjectFileModel", "relocationFault", "(II)I"⟩
abbrev b_MO_relocationFault : ByteArray := prog_10_method_74_code
def y_MO_namePlace : MethodName := ⟨"ObjectFileModel", "namePlace", "(I)I"⟩
abbrev b_MO_namePlace : ByteArray := prog_10_method_67_code
def y_MO_nameLength : MethodName := ⟨"ObjectFileModel", "nameLength", "(I)I"⟩
abbrev b_MO_nameLength : ByteArray := prog_10_method_65_code
def y_MO_isName : MethodName := ⟨"ObjectFileModel", "isName", "(I)Z"⟩
abbrev b_MO_isName : ByteArray := prog_10_method_66_code
def y_MO_whereOf : MethodName := ⟨"ObjectFileModel", "whereOf", "(I)I"⟩
abbrev b_MO_whereOf : ByteArray := prog_10_method_69_code
def y_MO_amiss : MethodName := ⟨"ObjectFileModel", "amiss", "(I)I"⟩
abbrev b_MO_amiss : ByteArray := prog_10_method_71_code
def y_MO_isSameIn : MethodName := ⟨"ObjectFileModel", "isSameIn", "(II)Z"⟩
abbrev b_MO_isSameIn : ByteArray := prog_10_method_68_code
def y_MO_symbolFault : MethodName := ⟨"ObjectFileModel", "symbolFault", "(I)I"⟩
abbrev b_MO_symbolFault : ByteArray := prog_10_method_72_code
def y_MO_ruleFault : MethodName := ⟨"ObjectFileModel", "ruleFault", "(I)I"⟩
abbrev b_MO_ruleFault : ByteArray := prog_10_method_59_code
def y_MO_meets : MethodName := ⟨"ObjectFileModel", "meets", "(JJJJ)Z"⟩
abbrev b_MO_meets : ByteArray := prog_10_method_55_code
def y_MO_entryFault : MethodName := ⟨"ObjectFileModel", "entryFault", "(I)I"⟩
abbrev b_MO_entryFault : ByteArray := prog_10_method_56_code
def y_MO_allFaults : MethodName := ⟨"ObjectFileModel", "allFaults", "()I"⟩
abbrev b_MO_allFaults : ByteArray := prog_10_method_76_code
def y_MO_takeRelocation : MethodName := ⟨"ObjectFileModel", "takeRelocation", "(II)V"⟩
abbrev b_MO_takeRelocation : ByteArray := prog_10_method_79_code
def y_MO_takeSymbol : MethodName := ⟨"ObjectFileModel", "takeSymbol", "(II)V"⟩
abbrev b_MO_takeSymbol : ByteArray := prog_10_method_78_code
def y_MO_read : MethodName := ⟨"ObjectFileModel", "read", "()I"⟩
abbrev b_MO_read : ByteArray := prog_10_method_77_code
def y_MO_place : MethodName := ⟨"ObjectFileModel", "place", "()I"⟩
abbrev b_MO_place : ByteArray := prog_10_method_80_code
def y_MO_keep : MethodName := ⟨"ObjectFileModel", "keep", "()V"⟩
abbrev b_MO_keep : ByteArray := prog_10_method_81_code
def y_MO_section : MethodName := ⟨"ObjectFileModel", "section", "(II)I"⟩
abbrev b_MO_section : ByteArray := prog_10_method_82_code
def y_MO_at : MethodName := ⟨"ObjectFileModel", "at", "(II)I"⟩
abbrev b_MO_at : ByteArray := prog_10_method_83_code
def y_MO_count : MethodName := ⟨"ObjectFileModel", "count", "(I)I"⟩
abbrev b_MO_count : ByteArray := prog_10_method_84_code
def y_MO_startAt : MethodName := ⟨"ObjectFileModel", "startAt", "(I)I"⟩
abbrev b_MO_startAt : ByteArray := prog_10_method_85_code
def y_MO_symbolAt : MethodName := ⟨"ObjectFileModel", "symbolAt", "(II)I"⟩
abbrev b_MO_symbolAt : ByteArray := prog_10_method_86_code
def y_MO_relocationAt : MethodName := ⟨"ObjectFileModel", "relocationAt", "(II)I"⟩
abbrev b_MO_relocationAt : ByteArray := prog_10_method_87_code
def y_AR_fill1 : MethodName := ⟨"java/util/Arrays", "fill", "([II)V"⟩
abbrev b_AR_fill1 : ByteArray := prog_16_method_103_code
def y_CT_reset : MethodName := ⟨"ObjectFile$Contents", "reset", "()V"⟩
abbrev b_CT_reset : ByteArray := prog_2_method_2_code
def y_OF_clear : MethodName := ⟨"ObjectFile", "clear", "()V"⟩
abbrev b_OF_clear : ByteArray := prog_1_method_2_code
def y_CT_append : MethodName := ⟨"ObjectFile$Contents", "append", "(IIJ)Z"⟩
abbrev b_CT_append : ByteArray := prog_2_method_4_code
def y_OF_put : MethodName := ⟨"ObjectFile", "put", "(IIJ)Z"⟩
abbrev b_OF_put : ByteArray := prog_1_method_3_code
def y_OF_bss : MethodName := ⟨"ObjectFile", "bss", "(I)Z"⟩
abbrev b_OF_bss : ByteArray := prog_1_method_4_code
def y_OF_align : MethodName := ⟨"ObjectFile", "align", "(II)Z"⟩
abbrev b_OF_align : ByteArray := prog_1_method_5_code
def y_CT_startOf : MethodName := ⟨"ObjectFile$Contents", "startOf", "(I)I"⟩
abbrev b_CT_startOf : ByteArray := prog_2_method_6_code
def y_CT_latestStart : MethodName := ⟨"ObjectFile$Contents", "latestStart", "()I"⟩
abbrev b_CT_latestStart : ByteArray := prog_2_method_7_code
def y_CT_addStart : MethodName := ⟨"ObjectFile$Contents", "addStart", "(I)Z"⟩
abbrev b_CT_addStart : ByteArray := prog_2_method_8_code
def y_OF_start : MethodName := ⟨"ObjectFile", "start", "(I)Z"⟩
abbrev b_OF_start : ByteArray := prog_1_method_6_code
def y_OF_isNameCharacter : MethodName := ⟨"ObjectFile", "isNameCharacter", "(I)Z"⟩
abbrev b_OF_isNameCharacter : ByteArray := prog_1_method_25_code
def y_OF_letter : MethodName := ⟨"ObjectFile", "letter", "(I)Z"⟩
abbrev b_OF_letter : ByteArray := prog_1_method_7_code
def y_OF_isBindOrType : MethodName := ⟨"ObjectFile", "isBindOrType", "(I)Z"⟩
abbrev b_OF_isBindOrType : ByteArray := prog_1_method_26_code
def y_OF_firstFlaw : MethodName := ⟨"ObjectFile", "firstFlaw", "(ZZZ)I"⟩
abbrev b_OF_firstFlaw : ByteArray := prog_1_method_29_code
def y_OF_isAlignment : MethodName := ⟨"ObjectFile", "isAlignment", "(J)Z"⟩
abbrev b_OF_isAlignment : ByteArray := prog_1_method_27_code
def y_OF_flawOf : MethodName := ⟨"ObjectFile", "flawOf", "(IIIIJ)I"⟩
abbrev b_OF_flawOf : ByteArray := prog_1_method_28_code
def y_CT_addSymbol : MethodName := ⟨"ObjectFile$Contents", "addSymbol", "([BII)I"⟩
abbrev b_CT_addSymbol : ByteArray := prog_2_method_12_code
def y_CT_tellSymbol : MethodName := ⟨"ObjectFile$Contents", "tellSymbol", "(IIIIII)V"⟩
abbrev b_CT_tellSymbol : ByteArray := prog_2_method_13_code
def y_CT_symbolFact : MethodName := ⟨"ObjectFile$Contents", "symbolFact", "(II)I"⟩
abbrev b_CT_symbolFact : ByteArray := prog_2_method_10_code
def y_CT_nameCharacter : MethodName := ⟨"ObjectFile$Contents", "nameCharacter", "(II)I"⟩
abbrev b_CT_nameCharacter : ByteArray := prog_2_method_11_code
def y_CT_hasName : MethodName := ⟨"ObjectFile$Contents", "hasName", "(I[BI)Z"⟩
abbrev b_CT_hasName : ByteArray := prog_2_method_15_code
def y_CT_hasGlobal : MethodName := ⟨"ObjectFile$Contents", "hasGlobal", "([BI)Z"⟩
abbrev b_CT_hasGlobal : ByteArray := prog_2_method_14_code
def y_OF_symbol : MethodName := ⟨"ObjectFile", "symbol", "(IIIII)I"⟩
abbrev b_OF_symbol : ByteArray := prog_1_method_8_code
def y_OF_widthOf : MethodName := ⟨"ObjectFile", "widthOf", "(II)I"⟩
abbrev b_OF_widthOf : ByteArray := prog_1_method_30_code
def y_OF_kindMayBeIn : MethodName := ⟨"ObjectFile", "kindMayBeIn", "(II)Z"⟩
abbrev b_OF_kindMayBeIn : ByteArray := prog_1_method_31_code
def y_OF_addendMayBe : MethodName := ⟨"ObjectFile", "addendMayBe", "(II)Z"⟩
abbrev b_OF_addendMayBe : ByteArray := prog_1_method_32_code
def y_OF_hasSymbol : MethodName := ⟨"ObjectFile", "hasSymbol", "(I)Z"⟩
abbrev b_OF_hasSymbol : ByteArray := prog_1_method_33_code
def y_CT_addRelocation : MethodName := ⟨"ObjectFile$Contents", "addRelocation", "(IIIII)I"⟩
abbrev b_CT_addRelocation : ByteArray := prog_2_method_17_code
def y_OF_relocation : MethodName := ⟨"ObjectFile", "relocation", "(IIIII)I"⟩
abbrev b_OF_relocation : ByteArray := prog_1_method_9_code
def y_CT_startGoesBeyond : MethodName := ⟨"ObjectFile$Contents", "startGoesBeyond", "()Z"⟩
abbrev b_CT_startGoesBeyond : ByteArray := prog_2_method_19_code
def y_CT_symbolGoesBeyond : MethodName := ⟨"ObjectFile$Contents", "symbolGoesBeyond", "()Z"⟩
abbrev b_CT_symbolGoesBeyond : ByteArray := prog_2_method_20_code
def y_CT_relocationFact : MethodName := ⟨"ObjectFile$Contents", "relocationFact", "(II)I"⟩
abbrev b_CT_relocationFact : ByteArray := prog_2_method_16_code
def y_CT_relocationGoesBeyond : MethodName := ⟨"ObjectFile$Contents", "relocationGoesBeyond", "()Z"⟩
abbrev b_CT_relocationGoesBeyond : ByteArray := prog_2_method_21_code
def y_WR_giveTurn : MethodName := ⟨"ObjectFile$Writer", "giveTurn", "(II)V"⟩
abbrev b_WR_giveTurn : ByteArray := prog_8_method_4_code
def y_WR_orderSymbols : MethodName := ⟨"ObjectFile$Writer", "orderSymbols", "()V"⟩
abbrev b_WR_orderSymbols : ByteArray := prog_8_method_3_code
def y_ST_restart : MethodName := ⟨"ObjectFile$Strings", "restart", "()V"⟩
abbrev b_ST_restart : ByteArray := prog_7_method_2_code
def y_ST_putBehind : MethodName := ⟨"ObjectFile$Strings", "putBehind", "([BII)I"⟩
abbrev b_ST_putBehind : ByteArray := prog_7_method_5_code
def y_ST_standsAt : MethodName := ⟨"ObjectFile$Strings", "standsAt", "(I[BII)Z"⟩
abbrev b_ST_standsAt : ByteArray := prog_7_method_4_code
def y_ST_placeOf : MethodName := ⟨"ObjectFile$Strings", "placeOf", "([BII)I"⟩
abbrev b_ST_placeOf : ByteArray := prog_7_method_3_code
def y_WR_gatherNames : MethodName := ⟨"ObjectFile$Writer", "gatherNames", "()V"⟩
abbrev b_WR_gatherNames : ByteArray := prog_8_method_5_code
def y_CT_relocationsOf : MethodName := ⟨"ObjectFile$Contents", "relocationsOf", "(I)I"⟩
abbrev b_CT_relocationsOf : ByteArray := prog_2_method_18_code
def y_WR_measureParts : MethodName := ⟨"ObjectFile$Writer", "measureParts", "()V"⟩
abbrev b_WR_measureParts : ByteArray := prog_8_method_6_code
def y_WR_isThere : MethodName := ⟨"ObjectFile$Writer", "isThere", "(I)Z"⟩
abbrev b_WR_isThere : ByteArray := prog_8_method_7_code
def y_OF_labelOf : MethodName := ⟨"ObjectFile", "labelOf", "(I)Ljava/lang/String;"⟩
abbrev b_OF_labelOf : ByteArray := prog_1_method_34_code
def y_WR_spell : MethodName := ⟨"ObjectFile$Writer", "spell", "(I)I"⟩
abbrev b_WR_spell : ByteArray := prog_8_method_9_code
def y_WR_numberEntries : MethodName := ⟨"ObjectFile$Writer", "numberEntries", "()V"⟩
abbrev b_WR_numberEntries : ByteArray := prog_8_method_8_code
def y_WR_upTo : MethodName := ⟨"ObjectFile$Writer", "upTo", "(II)I"⟩
abbrev b_WR_upTo : ByteArray := prog_8_method_12_code
def y_WR_alignmentOf : MethodName := ⟨"ObjectFile$Writer", "alignmentOf", "(I)I"⟩
abbrev b_WR_alignmentOf : ByteArray := prog_8_method_11_code
def y_WR_layParts : MethodName := ⟨"ObjectFile$Writer", "layParts", "()V"⟩
abbrev b_WR_layParts : ByteArray := prog_8_method_10_code
def y_AR_rangeCheck : MethodName := ⟨"java/util/Arrays", "rangeCheck", "(III)V"⟩
abbrev b_AR_rangeCheck : ByteArray := prog_16_method_30_code
def y_AR_fill0 : MethodName := ⟨"java/util/Arrays", "fill", "([BIIB)V"⟩
abbrev b_AR_fill0 : ByteArray := prog_16_method_110_code
def y_FB_zeros : MethodName := ⟨"ObjectFile$FileBytes", "zeros", "(I)V"⟩
abbrev b_FB_zeros : ByteArray := prog_4_method_10_code
def y_FB_put2 : MethodName := ⟨"ObjectFile$FileBytes", "put2", "(II)V"⟩
abbrev b_FB_put2 : ByteArray := prog_4_method_7_code
def y_FB_put4 : MethodName := ⟨"ObjectFile$FileBytes", "put4", "(II)V"⟩
abbrev b_FB_put4 : ByteArray := prog_4_method_8_code
def y_CT_byteOf : MethodName := ⟨"ObjectFile$Contents", "byteOf", "(II)I"⟩
abbrev b_CT_byteOf : ByteArray := prog_2_method_5_code
def y_OF_isShort : MethodName := ⟨"ObjectFile", "isShort", "(I)Z"⟩
abbrev b_OF_isShort : ByteArray := prog_1_method_35_code
def y_CT_shortStarts : MethodName := ⟨"ObjectFile$Contents", "shortStarts", "()I"⟩
abbrev b_CT_shortStarts : ByteArray := prog_2_method_9_code
def y_FB_put1 : MethodName := ⟨"ObjectFile$FileBytes", "put1", "(II)V"⟩
abbrev b_FB_put1 : ByteArray := prog_4_method_6_code
def y_WR_putHeader : MethodName := ⟨"ObjectFile$Writer", "putHeader", "()V"⟩
abbrev b_WR_putHeader : ByteArray := prog_8_method_13_code
def y_FB_copyIn : MethodName := ⟨"ObjectFile$FileBytes", "copyIn", "([BIII)V"⟩
abbrev b_FB_copyIn : ByteArray := prog_4_method_11_code
def y_WR_whereInFile : MethodName := ⟨"ObjectFile$Writer", "whereInFile", "(I)I"⟩
abbrev b_WR_whereInFile : ByteArray := prog_8_method_17_code
def y_WR_putSymbol : MethodName := ⟨"ObjectFile$Writer", "putSymbol", "(I)V"⟩
abbrev b_WR_putSymbol : ByteArray := prog_8_method_16_code
def y_WR_putRelocations : MethodName := ⟨"ObjectFile$Writer", "putRelocations", "(I)V"⟩
abbrev b_WR_putRelocations : ByteArray := prog_8_method_15_code
def y_WR_putParts : MethodName := ⟨"ObjectFile$Writer", "putParts", "()V"⟩
abbrev b_WR_putParts : ByteArray := prog_8_method_14_code
def y_OF_isRela : MethodName := ⟨"ObjectFile", "isRela", "(I)Z"⟩
abbrev b_OF_isRela : ByteArray := prog_1_method_36_code
def y_WR_linkOf : MethodName := ⟨"ObjectFile$Writer", "linkOf", "(I)I"⟩
abbrev b_WR_linkOf : ByteArray := prog_8_method_20_code
def y_WR_infoOf : MethodName := ⟨"ObjectFile$Writer", "infoOf", "(I)I"⟩
abbrev b_WR_infoOf : ByteArray := prog_8_method_21_code
def y_WR_putEntry : MethodName := ⟨"ObjectFile$Writer", "putEntry", "(I)V"⟩
abbrev b_WR_putEntry : ByteArray := prog_8_method_19_code
def y_WR_putTable : MethodName := ⟨"ObjectFile$Writer", "putTable", "()V"⟩
abbrev b_WR_putTable : ByteArray := prog_8_method_18_code
def y_WR_writeAll : MethodName := ⟨"ObjectFile$Writer", "writeAll", "()I"⟩
abbrev b_WR_writeAll : ByteArray := prog_8_method_2_code
def y_OF_write : MethodName := ⟨"ObjectFile", "write", "()I"⟩
abbrev b_OF_write : ByteArray := prog_1_method_10_code
def y_OF_size : MethodName := ⟨"ObjectFile", "size", "()I"⟩
abbrev b_OF_size : ByteArray := prog_1_method_11_code
def y_FB_has : MethodName := ⟨"ObjectFile$FileBytes", "has", "(I)Z"⟩
abbrev b_FB_has : ByteArray := prog_4_method_2_code
def y_FB_u1 : MethodName := ⟨"ObjectFile$FileBytes", "u1", "(I)I"⟩
abbrev b_FB_u1 : ByteArray := prog_4_method_3_code
def y_OF_byteAt : MethodName := ⟨"ObjectFile", "byteAt", "(I)I"⟩
abbrev b_OF_byteAt : ByteArray := prog_1_method_12_code
def y_FB_append : MethodName := ⟨"ObjectFile$FileBytes", "append", "(IJ)Z"⟩
abbrev b_FB_append : ByteArray := prog_4_method_9_code
def y_OF_feed : MethodName := ⟨"ObjectFile", "feed", "(IJ)Z"⟩
abbrev b_OF_feed : ByteArray := prog_1_method_13_code
def y_OF_cut : MethodName := ⟨"ObjectFile", "cut", "(I)Z"⟩
abbrev b_OF_cut : ByteArray := prog_1_method_14_code
def y_OF_spoil : MethodName := ⟨"ObjectFile", "spoil", "(II)I"⟩
abbrev b_OF_spoil : ByteArray := prog_1_method_15_code
def y_FB_u2 : MethodName := ⟨"ObjectFile$FileBytes", "u2", "(I)I"⟩
abbrev b_FB_u2 : ByteArray := prog_4_method_4_code
def y_FI_tell : MethodName := ⟨"ObjectFile$Finding", "tell", "(II)I"⟩
abbrev b_FI_tell : ByteArray := prog_5_method_2_code
def y_DI_markFault : MethodName := ⟨"ObjectFile$Directory", "markFault", "()I"⟩
abbrev b_DI_markFault : ByteArray := prog_3_method_6_code
def y_FB_u4 : MethodName := ⟨"ObjectFile$FileBytes", "u4", "(I)J"⟩
abbrev b_FB_u4 : ByteArray := prog_4_method_5_code
def y_DI_wrongEntryCount : MethodName := ⟨"ObjectFile$Directory", "wrongEntryCount", "()I"⟩
abbrev b_DI_wrongEntryCount : ByteArray := prog_3_method_9_code
def y_DI_wrongHeaderNumber : MethodName := ⟨"ObjectFile$Directory", "wrongHeaderNumber", "()I"⟩
abbrev b_DI_wrongHeaderNumber : ByteArray := prog_3_method_8_code
def y_DI_headerFault : MethodName := ⟨"ObjectFile$Directory", "headerFault", "()I"⟩
abbrev b_DI_headerFault : ByteArray := prog_3_method_7_code
def y_DI_numberOf : MethodName := ⟨"ObjectFile$Directory", "numberOf", "(II)J"⟩
abbrev b_DI_numberOf : ByteArray := prog_3_method_2_code
def y_DI_tellEntry : MethodName := ⟨"ObjectFile$Directory", "tellEntry", "(III)I"⟩
abbrev b_DI_tellEntry : ByteArray := prog_3_method_3_code
def y_DI_sharesBytes : MethodName := ⟨"ObjectFile$Directory", "sharesBytes", "(IJJ)Z"⟩
abbrev b_DI_sharesBytes : ByteArray := prog_3_method_12_code
def y_DI_entryFault : MethodName := ⟨"ObjectFile$Directory", "entryFault", "(I)I"⟩
abbrev b_DI_entryFault : ByteArray := prog_3_method_11_code
def y_DI_entriesFault : MethodName := ⟨"ObjectFile$Directory", "entriesFault", "()I"⟩
abbrev b_DI_entriesFault : ByteArray := prog_3_method_10_code
def y_DI_stringsFault : MethodName := ⟨"ObjectFile$Directory", "stringsFault", "(II)I"⟩
abbrev b_DI_stringsFault : ByteArray := prog_3_method_13_code
def y_DI_standsAt : MethodName := ⟨"ObjectFile$Directory", "standsAt", "(ILjava/lang/String;)Z"⟩
abbrev b_DI_standsAt : ByteArray := prog_3_method_16_code
def y_DI_partNamedBy : MethodName := ⟨"ObjectFile$Directory", "partNamedBy", "(I)I"⟩
abbrev b_DI_partNamedBy : ByteArray := prog_3_method_15_code
def y_DI_labelsFault : MethodName := ⟨"ObjectFile$Directory", "labelsFault", "()I"⟩
abbrev b_DI_labelsFault : ByteArray := prog_3_method_14_code
def y_DI_linkIsRight : MethodName := ⟨"ObjectFile$Directory", "linkIsRight", "(IJ)Z"⟩
abbrev b_DI_linkIsRight : ByteArray := prog_3_method_19_code
def y_DI_infoIsRight : MethodName := ⟨"ObjectFile$Directory", "infoIsRight", "(IJ)Z"⟩
abbrev b_DI_infoIsRight : ByteArray := prog_3_method_20_code
def y_DI_wrongNumber : MethodName := ⟨"ObjectFile$Directory", "wrongNumber", "(II)I"⟩
abbrev b_DI_wrongNumber : ByteArray := prog_3_method_18_code
def y_DI_numbersFault : MethodName := ⟨"ObjectFile$Directory", "numbersFault", "()I"⟩
abbrev b_DI_numbersFault : ByteArray := prog_3_method_17_code
def y_DI_missingFault : MethodName := ⟨"ObjectFile$Directory", "missingFault", "()I"⟩
abbrev b_DI_missingFault : ByteArray := prog_3_method_21_code
def y_DI_lengthMayBe : MethodName := ⟨"ObjectFile$Directory", "lengthMayBe", "(IJ)Z"⟩
abbrev b_DI_lengthMayBe : ByteArray := prog_3_method_23_code
def y_DI_lengthsFault : MethodName := ⟨"ObjectFile$Directory", "lengthsFault", "()I"⟩
abbrev b_DI_lengthsFault : ByteArray := prog_3_method_22_code
def y_DI_locateParts : MethodName := ⟨"ObjectFile$Directory", "locateParts", "()V"⟩
abbrev b_DI_locateParts : ByteArray := prog_3_method_24_code
def y_DI_firstFault : MethodName := ⟨"ObjectFile$Directory", "firstFault", "()I"⟩
abbrev b_DI_firstFault : ByteArray := prog_3_method_5_code
def y_RE_symbolRows : MethodName := ⟨"ObjectFile$Reader", "symbolRows", "()I"⟩
abbrev b_RE_symbolRows : ByteArray := prog_6_method_3_code
def y_RE_symbolNumber : MethodName := ⟨"ObjectFile$Reader", "symbolNumber", "(I)I"⟩
abbrev b_RE_symbolNumber : ByteArray := prog_6_method_16_code
def y_RE_fillRelocations : MethodName := ⟨"ObjectFile$Reader", "fillRelocations", "(LObjectFile$Contents;I)V"⟩
abbrev b_RE_fillRelocations : ByteArray := prog_6_method_20_code
def y_RE_nameSpot : MethodName := ⟨"ObjectFile$Reader", "nameSpot", "(I)I"⟩
abbrev b_RE_nameSpot : ByteArray := prog_6_method_10_code
def y_RE_nameLength : MethodName := ⟨"ObjectFile$Reader", "nameLength", "(I)I"⟩
abbrev b_RE_nameLength : ByteArray := prog_6_method_11_code
def y_DI_sectionOf : MethodName := ⟨"ObjectFile$Directory", "sectionOf", "(I)I"⟩
abbrev b_DI_sectionOf : ByteArray := prog_3_method_4_code
def y_RE_whereOf : MethodName := ⟨"ObjectFile$Reader", "whereOf", "(I)I"⟩
abbrev b_RE_whereOf : ByteArray := prog_6_method_9_code
def y_RE_bindOf : MethodName := ⟨"ObjectFile$Reader", "bindOf", "(I)I"⟩
abbrev b_RE_bindOf : ByteArray := prog_6_method_7_code
def y_RE_typeOf : MethodName := ⟨"ObjectFile$Reader", "typeOf", "(I)I"⟩
abbrev b_RE_typeOf : ByteArray := prog_6_method_8_code
def y_RE_fillSymbol : MethodName := ⟨"ObjectFile$Reader", "fillSymbol", "(LObjectFile$Contents;I)V"⟩
abbrev b_RE_fillSymbol : ByteArray := prog_6_method_19_code
def y_FB_copyOut : MethodName := ⟨"ObjectFile$FileBytes", "copyOut", "(I[BII)V"⟩
abbrev b_FB_copyOut : ByteArray := prog_4_method_12_code
def y_RE_fill : MethodName := ⟨"ObjectFile$Reader", "fill", "(LObjectFile$Contents;)V"⟩
abbrev b_RE_fill : ByteArray := prog_6_method_18_code
def y_RE_flawIn : MethodName := ⟨"ObjectFile$Reader", "flawIn", "(I)I"⟩
abbrev b_RE_flawIn : ByteArray := prog_6_method_6_code
def y_RE_haveSameName : MethodName := ⟨"ObjectFile$Reader", "haveSameName", "(II)Z"⟩
abbrev b_RE_haveSameName : ByteArray := prog_6_method_13_code
def y_RE_isNamedBefore : MethodName := ⟨"ObjectFile$Reader", "isNamedBefore", "(II)Z"⟩
abbrev b_RE_isNamedBefore : ByteArray := prog_6_method_12_code
def y_RE_symbolFault : MethodName := ⟨"ObjectFile$Reader", "symbolFault", "(II)I"⟩
abbrev b_RE_symbolFault : ByteArray := prog_6_method_5_code
def y_RE_symbolsFault : MethodName := ⟨"ObjectFile$Reader", "symbolsFault", "()I"⟩
abbrev b_RE_symbolsFault : ByteArray := prog_6_method_4_code
def y_RE_relocationFault : MethodName := ⟨"ObjectFile$Reader", "relocationFault", "(II)I"⟩
abbrev b_RE_relocationFault : ByteArray := prog_6_method_15_code
def y_RE_relocationsFault : MethodName := ⟨"ObjectFile$Reader", "relocationsFault", "()I"⟩
abbrev b_RE_relocationsFault : ByteArray := prog_6_method_14_code
def y_RE_startsFault : MethodName := ⟨"ObjectFile$Reader", "startsFault", "()I"⟩
abbrev b_RE_startsFault : ByteArray := prog_6_method_17_code
def y_RE_firstFault : MethodName := ⟨"ObjectFile$Reader", "firstFault", "()I"⟩
abbrev b_RE_firstFault : ByteArray := prog_6_method_2_code
def y_OF_read : MethodName := ⟨"ObjectFile", "read", "()I"⟩
abbrev b_OF_read : ByteArray := prog_1_method_16_code
def y_OF_place : MethodName := ⟨"ObjectFile", "place", "()I"⟩
abbrev b_OF_place : ByteArray := prog_1_method_17_code
def y_CT_copyAll : MethodName := ⟨"ObjectFile$Contents", "copyAll", "(LObjectFile$Contents;)V"⟩
abbrev b_CT_copyAll : ByteArray := prog_2_method_3_code
def y_OF_keep : MethodName := ⟨"ObjectFile", "keep", "()V"⟩
abbrev b_OF_keep : ByteArray := prog_1_method_18_code
def y_OF_section : MethodName := ⟨"ObjectFile", "section", "(II)I"⟩
abbrev b_OF_section : ByteArray := prog_1_method_19_code
def y_OF_at : MethodName := ⟨"ObjectFile", "at", "(II)I"⟩
abbrev b_OF_at : ByteArray := prog_1_method_20_code
def y_OF_count : MethodName := ⟨"ObjectFile", "count", "(I)I"⟩
abbrev b_OF_count : ByteArray := prog_1_method_21_code
def y_OF_startAt : MethodName := ⟨"ObjectFile", "startAt", "(I)I"⟩
abbrev b_OF_startAt : ByteArray := prog_1_method_22_code
def y_OF_symbolAt : MethodName := ⟨"ObjectFile", "symbolAt", "(II)I"⟩
abbrev b_OF_symbolAt : ByteArray := prog_1_method_23_code
def y_OF_relocationAt : MethodName := ⟨"ObjectFile", "relocationAt", "(II)I"⟩
abbrev b_OF_relocationAt : ByteArray := prog_1_method_24_code
def y_MO_letterOf : MethodName := ⟨"ObjectFileModel", "letterOf", "(I)V"⟩
abbrev b_MO_letterOf : ByteArray := prog_10_method_3_code
def y_MO_title : MethodName := ⟨"ObjectFileModel", "title", "(IIIIIIIII)V"⟩
abbrev b_MO_title : ByteArray := prog_10_method_4_code
abbrev b_LW_law : ByteArray := code
def y_CT_init : MethodName := ⟨"ObjectFile$Contents", "<init>", "()V"⟩
abbrev b_CT_init : ByteArray := prog_2_method_1_code
def y_FB_init : MethodName := ⟨"ObjectFile$FileBytes", "<init>", "()V"⟩
abbrev b_FB_init : ByteArray := prog_4_method_1_code
def y_ST_init : MethodName := ⟨"ObjectFile$Strings", "<init>", "()V"⟩
abbrev b_ST_init : ByteArray := prog_7_method_1_code
def y_WR_init : MethodName := ⟨"ObjectFile$Writer", "<init>", "(LObjectFile$Contents;LObjectFile$FileBytes;)V"⟩
abbrev b_WR_init : ByteArray := prog_8_method_1_code
def y_FI_init : MethodName := ⟨"ObjectFile$Finding", "<init>", "()V"⟩
abbrev b_FI_init : ByteArray := prog_5_method_1_code
def y_DI_init : MethodName := ⟨"ObjectFile$Directory", "<init>", "(LObjectFile$FileBytes;LObjectFile$Finding;)V"⟩
abbrev b_DI_init : ByteArray := prog_3_method_1_code
def y_RE_init : MethodName := ⟨"ObjectFile$Reader", "<init>", "(LObjectFile$FileBytes;LObjectFile$Finding;LObjectFile$Directory;)V"⟩
abbrev b_RE_init : ByteArray := prog_6_method_1_code
def y_OF_init : MethodName := ⟨"ObjectFile", "<init>", "()V"⟩
abbrev b_OF_init : ByteArray := prog_1_method_1_code
def y_MO_init : MethodName := ⟨"ObjectFileModel", "<init>", "()V"⟩
abbrev b_MO_init : ByteArray := prog_10_method_1_code
def gIsNest : Cond → Bool
  | .fieldLinkNest .. => true
  | .methodLinkNest .. => true
  | _ => false
def gTs : List Cond := lw_tbl.filter goodWord
def gNw : List Cond := tables_1.filter gIsNest
theorem gTs_ok : gGood gTs := fun w h => good_of_word (List.mem_filter.mp h).2
theorem gTs_tbl : ∀ w ∈ gTs, w ∈ lw_tbl := fun w h => (List.mem_filter.mp h).1
theorem gNw_nest : ∀ w ∈ gNw, gNest w := by
  intro w h
  have h2 := (List.mem_filter.mp h).2
  cases w <;> first | (simp [gIsNest] at h2; done) | exact Or.inl ⟨_, _, _, _, _, _, rfl⟩ | exact Or.inr ⟨_, _, _, _, rfl⟩
theorem gT0 {w : Cond} (h : w ∈ tables_1) (hg : goodWord w = true) : w ∈ gTs := List.mem_filter.mpr ⟨List.mem_append_right _ h, hg⟩
theorem gSel {q : MethodName × Nat} (h : q ∈ lw_privs) : Cond.selects q.1.cls q.1 q.1 ∈ gTs := List.mem_filter.mpr ⟨List.mem_append_left _ (List.mem_map.mpr ⟨q, h, rfl⟩), rfl⟩
theorem gI1 {w : Cond} (i : Nat) (h : tables_1_1[i]? = some w) : w ∈ tables_1 := List.mem_append_left _ (List.mem_of_getElem? h)
theorem gI2 {w : Cond} (i : Nat) (h : tables_1_2[i]? = some w) : w ∈ tables_1 := List.mem_append_right _ (List.mem_append_left _ (List.mem_of_getElem? h))
theorem gI3 {w : Cond} (i : Nat) (h : tables_1_3[i]? = some w) : w ∈ tables_1 := List.mem_append_right _ (List.mem_append_right _ (List.mem_append_left _ (List.mem_of_getElem? h)))
theorem gI4 {w : Cond} (i : Nat) (h : tables_1_4[i]? = some w) : w ∈ tables_1 := List.mem_append_right _ (List.mem_append_right _ (List.mem_append_right _ (List.mem_append_left _ (List.mem_of_getElem? h))))
theorem gI5 {w : Cond} (i : Nat) (h : tables_1_5[i]? = some w) : w ∈ tables_1 := List.mem_append_right _ (List.mem_append_right _ (List.mem_append_right _ (List.mem_append_right _ (List.mem_append_left _ (List.mem_of_getElem? h)))))
theorem gI6 {w : Cond} (i : Nat) (h : tables_1_6[i]? = some w) : w ∈ tables_1 := List.mem_append_right _ (List.mem_append_right _ (List.mem_append_right _ (List.mem_append_right _ (List.mem_append_right _ (List.mem_of_getElem? h)))))
def y_SG_coder : MethodName := ⟨"java/lang/String", "coder", "()B"⟩
abbrev b_SG_coder : ByteArray := prog_12_method_152_code
def y_SG_isLatin1 : MethodName := ⟨"java/lang/String", "isLatin1", "()Z"⟩
abbrev b_SG_isLatin1 : ByteArray := prog_12_method_154_code
def y_SG_length : MethodName := ⟨"java/lang/String", "length", "()I"⟩
abbrev b_SG_length : ByteArray := prog_12_method_54_code
def y_SG_charAt : MethodName := ⟨"java/lang/String", "charAt", "(I)C"⟩
abbrev b_SG_charAt : ByteArray := prog_12_method_56_code
def y_SG_checkIndex : MethodName := ⟨"java/lang/String", "checkIndex", "(II)V"⟩
abbrev b_SG_checkIndex : ByteArray := prog_12_method_155_code
def y_SL_charAt : MethodName := ⟨"java/lang/StringLatin1", "charAt", "([BI)C"⟩
abbrev b_SL_charAt : ByteArray := prog_13_method_2_code
def y_PC_checkIndex : MethodName := ⟨"jdk/internal/util/Preconditions", "checkIndex", "(IILjava/util/function/BiFunction;)I"⟩
abbrev b_PC_checkIndex : ByteArray := prog_17_method_11_code
theorem in_CT : ∀ w ∈ u_ws cR_CT cT_CT 10, w ∈ gTs := by
  intro w hw
  obtain ⟨k, hk, rfl⟩ := List.mem_map.mp hw
  have hk := List.mem_range.mp hk
  match k, hk with
  | 0, _ => exact gT0 (gI1 56 rfl) rfl
  | 1, _ => exact gT0 (gI1 58 rfl) rfl
  | 2, _ => exact gT0 (gI1 60 rfl) rfl
  | 3, _ => exact gT0 (gI1 62 rfl) rfl
  | 4, _ => exact gT0 (gI1 64 rfl) rfl
  | 5, _ => exact gT0 (gI1 66 rfl) rfl
  | 6, _ => exact gT0 (gI1 68 rfl) rfl
  | 7, _ => exact gT0 (gI1 70 rfl) rfl
  | 8, _ => exact gT0 (gI1 72 rfl) rfl
  | 9, _ => exact gT0 (gI1 74 rfl) rfl
  | k + 10, hk => omega
theorem in_DI : ∀ w ∈ u_ws cR_DI cT_DI 10, w ∈ gTs := by
  intro w hw
  obtain ⟨k, hk, rfl⟩ := List.mem_map.mp hw
  have hk := List.mem_range.mp hk
  match k, hk with
  | 0, _ => exact gT0 (gI1 193 rfl) rfl
  | 1, _ => exact gT0 (gI1 195 rfl) rfl
  | 2, _ => exact gT0 (gI1 197 rfl) rfl
  | 3, _ => exact gT0 (gI1 199 rfl) rfl
  | 4, _ => exact gT0 (gI1 201 rfl) rfl
  | 5, _ => exact gT0 (gI1 203 rfl) rfl
  | 6, _ => exact gT0 (gI1 205 rfl) rfl
  | 7, _ => exact gT0 (gI1 207 rfl) rfl
  | 8, _ => exact gT0 (gI1 209 rfl) rfl
  | 9, _ => exact gT0 (gI1 211 rfl) rfl
  | k + 10, hk => omega
theorem in_FB : ∀ w ∈ u_ws cR_FB cT_FB 2, w ∈ gTs := by
  intro w hw
  obtain ⟨k, hk, rfl⟩ := List.mem_map.mp hw
  have hk := List.mem_range.mp hk
  match k, hk with
  | 0, _ => exact gT0 (gI1 90 rfl) rfl
  | 1, _ => exact gT0 (gI1 92 rfl) rfl
  | k + 2, hk => omega
theorem in_FI : ∀ w ∈ u_ws cR_FI cT_FI 1, w ∈ gTs := by
  intro w hw
  obtain ⟨k, hk, rfl⟩ := List.mem_map.mp hw
  have hk := List.mem_range.mp hk
  match k, hk with
  | 0, _ => exact gT0 (gI1 170 rfl) rfl
  | k + 1, hk => omega
theorem in_RE : ∀ w ∈ u_ws cR_RE cT_RE 4, w ∈ gTs := by
  intro w hw
  obtain ⟨k, hk, rfl⟩ := List.mem_map.mp hw
  have hk := List.mem_range.mp hk
  match k, hk with
  | 0, _ => exact gT0 (gI1 224 rfl) rfl
  | 1, _ => exact gT0 (gI1 226 rfl) rfl
  | 2, _ => exact gT0 (gI1 228 rfl) rfl
  | 3, _ => exact gT0 (gI1 230 rfl) rfl
  | k + 4, hk => omega
theorem in_ST : ∀ w ∈ u_ws cR_ST cT_ST 2, w ∈ gTs := by
  intro w hw
  obtain ⟨k, hk, rfl⟩ := List.mem_map.mp hw
  have hk := List.mem_range.mp hk
  match k, hk with
  | 0, _ => exact gT0 (gI1 111 rfl) rfl
  | 1, _ => exact gT0 (gI1 113 rfl) rfl
  | k + 2, hk => omega
theorem in_WR : ∀ w ∈ u_ws cR_WR cT_WR 15, w ∈ gTs := by
  intro w hw
  obtain ⟨k, hk, rfl⟩ := List.mem_map.mp hw
  have hk := List.mem_range.mp hk
  match k, hk with
  | 0, _ => exact gT0 (gI1 131 rfl) rfl
  | 1, _ => exact gT0 (gI1 133 rfl) rfl
  | 2, _ => exact gT0 (gI1 135 rfl) rfl
  | 3, _ => exact gT0 (gI1 137 rfl) rfl
  | 4, _ => exact gT0 (gI1 139 rfl) rfl
  | 5, _ => exact gT0 (gI1 141 rfl) rfl
  | 6, _ => exact gT0 (gI1 143 rfl) rfl
  | 7, _ => exact gT0 (gI1 145 rfl) rfl
  | 8, _ => exact gT0 (gI1 147 rfl) rfl
  | 9, _ => exact gT0 (gI1 149 rfl) rfl
  | 10, _ => exact gT0 (gI1 151 rfl) rfl
  | 11, _ => exact gT0 (gI1 153 rfl) rfl
  | 12, _ => exact gT0 (gI1 155 rfl) rfl
  | 13, _ => exact gT0 (gI1 157 rfl) rfl
  | 14, _ => exact gT0 (gI1 159 rfl) rfl
  | k + 15, hk => omega
theorem in_OF : ∀ w ∈ u_ws cR_OF cT_OF 9, w ∈ gTs := by
  intro w hw
  obtain ⟨k, hk, rfl⟩ := List.mem_map.mp hw
  have hk := List.mem_range.mp hk
  match k, hk with
  | 0, _ => exact gT0 (gI2 2 rfl) rfl
  | 1, _ => exact gT0 (gI2 4 rfl) rfl
  | 2, _ => exact gT0 (gI2 6 rfl) rfl
  | 3, _ => exact gT0 (gI2 8 rfl) rfl
  | 4, _ => exact gT0 (gI2 10 rfl) rfl
  | 5, _ => exact gT0 (gI2 12 rfl) rfl
  | 6, _ => exact gT0 (gI2 14 rfl) rfl
  | 7, _ => exact gT0 (gI2 16 rfl) rfl
  | 8, _ => exact gT0 (gI2 18 rfl) rfl
  | k + 9, hk => omega
theorem in_MO : ∀ w ∈ u_ws cR_MO cT_MO 41, w ∈ gTs := by
  intro w hw
  obtain ⟨k, hk, rfl⟩ := List.mem_map.mp hw
  have hk := List.mem_range.mp hk
  match k, hk with
  | 0, _ => exact gT0 (gI5 17 rfl) rfl
  | 1, _ => exact gT0 (gI5 19 rfl) rfl
  | 2, _ => exact gT0 (gI5 21 rfl) rfl
  | 3, _ => exact gT0 (gI5 23 rfl) rfl
  | 4, _ => exact gT0 (gI5 25 rfl) rfl
  | 5, _ => exact gT0 (gI5 27 rfl) rfl
  | 6, _ => exact gT0 (gI5 29 rfl) rfl
  | 7, _ => exact gT0 (gI5 31 rfl) rfl
  | 8, _ => exact gT0 (gI5 33 rfl) rfl
  | 9, _ => exact gT0 (gI5 35 rfl) rfl
  | 10, _ => exact gT0 (gI5 37 rfl) rfl
  | 11, _ => exact gT0 (gI5 39 rfl) rfl
  | 12, _ => exact gT0 (gI5 41 rfl) rfl
  | 13, _ => exact gT0 (gI5 43 rfl) rfl
  | 14, _ => exact gT0 (gI5 45 rfl) rfl
  | 15, _ => exact gT0 (gI5 47 rfl) rfl
  | 16, _ => exact gT0 (gI5 49 rfl) rfl
  | 17, _ => exact gT0 (gI5 51 rfl) rfl
  | 18, _ => exact gT0 (gI5 53 rfl) rfl
  | 19, _ => exact gT0 (gI5 55 rfl) rfl
  | 20, _ => exact gT0 (gI5 57 rfl) rfl
  | 21, _ => exact gT0 (gI5 59 rfl) rfl
  | 22, _ => exact gT0 (gI5 61 rfl) rfl
  | 23, _ => exact gT0 (gI5 63 rfl) rfl
  | 24, _ => exact gT0 (gI5 65 rfl) rfl
  | 25, _ => exact gT0 (gI5 67 rfl) rfl
  | 26, _ => exact gT0 (gI5 69 rfl) rfl
  | 27, _ => exact gT0 (gI5 71 rfl) rfl
  | 28, _ => exact gT0 (gI5 73 rfl) rfl
  | 29, _ => exact gT0 (gI5 75 rfl) rfl
  | 30, _ => exact gT0 (gI5 77 rfl) rfl
  | 31, _ => exact gT0 (gI5 79 rfl) rfl
  | 32, _ => exact gT0 (gI5 81 rfl) rfl
  | 33, _ => exact gT0 (gI5 83 rfl) rfl
  | 34, _ => exact gT0 (gI5 85 rfl) rfl
  | 35, _ => exact gT0 (gI5 87 rfl) rfl
  | 36, _ => exact gT0 (gI5 89 rfl) rfl
  | 37, _ => exact gT0 (gI5 91 rfl) rfl
  | 38, _ => exact gT0 (gI5 93 rfl) rfl
  | 39, _ => exact gT0 (gI5 95 rfl) rfl
  | 40, _ => exact gT0 (gI5 97 rfl) rfl
  | k + 41, hk => omega
abbrev GMx (D : va_G) (ta : Nat → ClassId) (base : Nat) (p : Program) (l : Launch) (e : Env) (f lo : Nat) (s : State) (m : MethodId) (av : List Value) (below : List Frame) (meth : Method) (c : Code) (post' : Option Value → gMem → Prop) (nL pc : Nat) (L : List (Nat × Value)) (S : List Value) (M : gMem) : Prop := GW gLay gCl D ta base p l e (gRm f lo) s m (List.toArray av) below meth c 0 0 (MQ below (gQ gLay gCl D ta base post') (List.toArray av) s 0 0 (fun q => base ≤ q)) nL pc L S M
