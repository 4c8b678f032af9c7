/-! printed: names of classes, fields, methods; their words among lw_g -/
theorem lg_in1 {w : Cond} (h : w ∈ tables_1_1) (hg : goodWord w = true) : w ∈ lw_g := List.mem_filter.mpr ⟨List.mem_append_right _ (show w ∈ tables_1 from List.mem_append_left _ h), hg⟩
theorem lg_in2 {w : Cond} (h : w ∈ tables_1_2) (hg : goodWord w = true) : w ∈ lw_g := List.mem_filter.mpr ⟨List.mem_append_right _ (show w ∈ tables_1 from List.mem_append_right _ (List.mem_append_left _ h)), hg⟩
theorem lg_in3 {w : Cond} (h : w ∈ tables_1_3) (hg : goodWord w = true) : w ∈ lw_g := List.mem_filter.mpr ⟨List.mem_append_right _ (show w ∈ tables_1 from List.mem_append_right _ (List.mem_append_right _ (List.mem_append_left _ h))), hg⟩
theorem lg_in4 {w : Cond} (h : w ∈ tables_1_4) (hg : goodWord w = true) : w ∈ lw_g := List.mem_filter.mpr ⟨List.mem_append_right _ (show w ∈ tables_1 from List.mem_append_right _ (List.mem_append_right _ (List.mem_append_right _ (List.mem_append_left _ h)))), hg⟩
theorem lg_in5 {w : Cond} (h : w ∈ tables_1_5) (hg : goodWord w = true) : w ∈ lw_g := List.mem_filter.mpr ⟨List.mem_append_right _ (show w ∈ tables_1 from List.mem_append_right _ (List.mem_append_right _ (List.mem_append_right _ (List.mem_append_right _ (List.mem_append_left _ h))))), hg⟩
theorem lg_in6 {w : Cond} (h : w ∈ tables_1_6) (hg : goodWord w = true) : w ∈ lw_g := List.mem_filter.mpr ⟨List.mem_append_right _ (show w ∈ tables_1 from List.mem_append_right _ (List.mem_append_right _ (List.mem_append_right _ (List.mem_append_right _ (List.mem_append_right _ (List.mem_append_left _ h)))))), hg⟩
theorem lg_in7 {w : Cond} (h : w ∈ tables_1_7) (hg : goodWord w = true) : w ∈ lw_g := List.mem_filter.mpr ⟨List.mem_append_right _ (show w ∈ tables_1 from List.mem_append_right _ (List.mem_append_right _ (List.mem_append_right _ (List.mem_append_right _ (List.mem_append_right _ (List.mem_append_right _ (List.mem_append_left _ h))))))), hg⟩
theorem lg_in8 {w : Cond} (h : w ∈ tables_1_8) (hg : goodWord w = true) : w ∈ lw_g := List.mem_filter.mpr ⟨List.mem_append_right _ (show w ∈ tables_1 from List.mem_append_right _ (List.mem_append_right _ (List.mem_append_right _ (List.mem_append_right _ (List.mem_append_right _ (List.mem_append_right _ (List.mem_append_right _ (List.mem_append_left _ h)))))))), hg⟩
theorem lg_in9 {w : Cond} (h : w ∈ tables_1_9) (hg : goodWord w = true) : w ∈ lw_g := List.mem_filter.mpr ⟨List.mem_append_right _ (show w ∈ tables_1 from List.mem_append_right _ (List.mem_append_right _ (List.mem_append_right _ (List.mem_append_right _ (List.mem_append_right _ (List.mem_append_right _ (List.mem_append_right _ (List.mem_append_right _ (List.mem_append_left _ h))))))))), hg⟩
theorem lg_in10 {w : Cond} (h : w ∈ tables_1_10) (hg : goodWord w = true) : w ∈ lw_g := List.mem_filter.mpr ⟨List.mem_append_right _ (show w ∈ tables_1 from List.mem_append_right _ (List.mem_append_right _ (List.mem_append_right _ (List.mem_append_right _ (List.mem_append_right _ (List.mem_append_right _ (List.mem_append_right _ (List.mem_append_right _ (List.mem_append_right _ (h)))))))))), hg⟩
def R_D : String := "PictureDesk"
def F_D : u_T := fun k => match k with
  | 0 => ("PictureDesk", "tape", "[B", true)
  | 1 => ("PictureDesk", "tapeLength", "I", false)
  | 2 => ("PictureDesk", "result", "LPictureDesk$Sink;", false)
  | 3 => ("PictureDesk", "draft", "LPictureDesk$Sink;", false)
  | 4 => ("PictureDesk", "slots", "[LPictureDesk$Picture;", true)
  | 5 => ("PictureDesk", "spare", "LPictureDesk$Picture;", false)
  | 6 => ("PictureDesk", "source", "LPictureDesk$Source;", true)
  | 7 => ("PictureDesk", "pngReader", "LPictureDesk$PngReader;", true)
  | 8 => ("PictureDesk", "pngWriter", "LPictureDesk$PngWriter;", true)
  | 9 => ("PictureDesk", "gifReader", "LPictureDesk$GifReader;", true)
  | 10 => ("PictureDesk", "gifWriter", "LPictureDesk$GifWriter;", true)
  | _ => ("PictureDesk", "bmpFiles", "LPictureDesk$BmpFiles;", true)
def t_D : Nat → FieldType := fun k => match k with
  | 0 => .array .byte
  | 1 => .int
  | 2 => .object "PictureDesk$Sink"
  | 3 => .object "PictureDesk$Sink"
  | 4 => .array (.object "PictureDesk$Picture")
  | 5 => .object "PictureDesk$Picture"
  | 6 => .object "PictureDesk$Source"
  | 7 => .object "PictureDesk$PngReader"
  | 8 => .object "PictureDesk$PngWriter"
  | 9 => .object "PictureDesk$GifReader"
  | 10 => .object "PictureDesk$GifWriter"
  | _ => .object "PictureDesk$BmpFiles"
def R_M : String := "PictureDeskModel"
def F_M : u_T := fun k => match k with
  | 0 => ("PictureDeskModel", "failed", "I", false)
  | 1 => ("PictureDeskModel", "tape", "[B", true)
  | 2 => ("PictureDeskModel", "taped", "I", false)
  | 3 => ("PictureDeskModel", "result", "[B", true)
  | 4 => ("PictureDeskModel", "size", "I", false)
  | 5 => ("PictureDeskModel", "images", "[[I", true)
  | 6 => ("PictureDeskModel", "widths", "[I", true)
  | 7 => ("PictureDeskModel", "heights", "[I", true)
  | 8 => ("PictureDeskModel", "at", "I", false)
  | 9 => ("PictureDeskModel", "width", "I", false)
  | 10 => ("PictureDeskModel", "height", "I", false)
  | 11 => ("PictureDeskModel", "points", "[I", true)
  | 12 => ("PictureDeskModel", "depth", "I", false)
  | 13 => ("PictureDeskModel", "kind", "I", false)
  | 14 => ("PictureDeskModel", "interlace", "I", false)
  | 15 => ("PictureDeskModel", "palette", "[I", true)
  | 16 => ("PictureDeskModel", "colours", "I", false)
  | 17 => ("PictureDeskModel", "clear", "Z", false)
  | 18 => ("PictureDeskModel", "clearKey", "[I", true)
  | 19 => ("PictureDeskModel", "data", "[B", false)
  | 20 => ("PictureDeskModel", "dataSize", "I", false)
  | 21 => ("PictureDeskModel", "bitAt", "I", false)
  | 22 => ("PictureDeskModel", "rows", "[B", true)
  | 23 => ("PictureDeskModel", "rowBytes", "I", false)
  | 24 => ("PictureDeskModel", "expected", "I", false)
  | 25 => ("PictureDeskModel", "literals", "LPictureDeskModel$Codes;", true)
  | 26 => ("PictureDeskModel", "distances", "LPictureDeskModel$Codes;", true)
  | 27 => ("PictureDeskModel", "lengthCodes", "LPictureDeskModel$Codes;", true)
  | 28 => ("PictureDeskModel", "lengths", "[I", true)
  | 29 => ("PictureDeskModel", "tableSize", "I", false)
  | 30 => ("PictureDeskModel", "own", "[I", true)
  | 31 => ("PictureDeskModel", "before", "[I", true)
  | 32 => ("PictureDeskModel", "lastIndex", "[I", true)
  | 33 => ("PictureDeskModel", "deep", "[I", true)
  | 34 => ("PictureDeskModel", "out", "[B", false)
  | 35 => ("PictureDeskModel", "outSize", "I", false)
  | 36 => ("PictureDeskModel", "bitBuffer", "I", false)
  | 37 => ("PictureDeskModel", "bitCount", "I", false)
  | 38 => ("PictureDeskModel", "heads", "[I", true)
  | 39 => ("PictureDeskModel", "chain", "[I", true)
  | 40 => ("PictureDeskModel", "keys", "[I", true)
  | 41 => ("PictureDeskModel", "indices", "[I", true)
  | 42 => ("PictureDeskModel", "keyCount", "I", false)
  | 43 => ("PictureDeskModel", "codeWidth", "I", false)
  | 44 => ("PictureDeskModel", "codeNext", "I", false)
  | 45 => ("PictureDeskModel", "codeFirst", "Z", false)
  | _ => ("PictureDeskModel", "kids", "[I", false)
def t_M : Nat → FieldType := fun k => match k with
  | 0 => .int
  | 1 => .array .byte
  | 2 => .int
  | 3 => .array .byte
  | 4 => .int
  | 5 => .array (.array .int)
  | 6 => .array .int
  | 7 => .array .int
  | 8 => .int
  | 9 => .int
  | 10 => .int
  | 11 => .array .int
  | 12 => .int
  | 13 => .int
  | 14 => .int
  | 15 => .array .int
  | 16 => .int
  | 17 => .boolean
  | 18 => .array .int
  | 19 => .array .byte
  | 20 => .int
  | 21 => .int
  | 22 => .array .byte
  | 23 => .int
  | 24 => .int
  | 25 => .object "PictureDeskModel$Codes"
  | 26 => .object "PictureDeskModel$Codes"
  | 27 => .object "PictureDeskModel$Codes"
  | 28 => .array .int
  | 29 => .int
  | 30 => .array .int
  | 31 => .array .int
  | 32 => .array .int
  | 33 => .array .int
  | 34 => .array .byte
  | 35 => .int
  | 36 => .int
  | 37 => .int
  | 38 => .array .int
  | 39 => .array .int
  | 40 => .array .int
  | 41 => .array .int
  | 42 => .int
  | 43 => .int
  | 44 => .int
  | 45 => .boolean
  | _ => .array .int
def R_BmpFiles : String := "PictureDesk$BmpFiles"
def F_BmpFiles : u_T := fun k => match k with
  | 0 => ("PictureDesk$BmpFiles", "in", "LPictureDesk$Source;", true)
  | 1 => ("PictureDesk$BmpFiles", "table", "LPictureDesk$ColourTable;", true)
  | 2 => ("PictureDesk$BmpFiles", "palette", "[I", true)
  | 3 => ("PictureDesk$BmpFiles", "colours", "I", false)
  | 4 => ("PictureDesk$BmpFiles", "depth", "I", false)
  | 5 => ("PictureDesk$BmpFiles", "isFromTop", "Z", false)
  | 6 => ("PictureDesk$BmpFiles", "hasRuns", "Z", false)
  | 7 => ("PictureDesk$BmpFiles", "start", "I", false)
  | 8 => ("PictureDesk$BmpFiles", "column", "I", false)
  | _ => ("PictureDesk$BmpFiles", "line", "I", false)
def t_BmpFiles : Nat → FieldType := fun k => match k with
  | 0 => .object "PictureDesk$Source"
  | 1 => .object "PictureDesk$ColourTable"
  | 2 => .array .int
  | 3 => .int
  | 4 => .int
  | 5 => .boolean
  | 6 => .boolean
  | 7 => .int
  | 8 => .int
  | _ => .int
def R_Codes : String := "PictureDesk$Codes"
def F_Codes : u_T := fun k => match k with
  | 0 => ("PictureDesk$Codes", "counts", "[I", true)
  | 1 => ("PictureDesk$Codes", "places", "[I", true)
  | 2 => ("PictureDesk$Codes", "meanings", "[I", true)
  | 3 => ("PictureDesk$Codes", "used", "I", false)
  | _ => ("PictureDesk$Codes", "unusedWords", "I", false)
def t_Codes : Nat → FieldType := fun k => match k with
  | 0 => .array .int
  | 1 => .array .int
  | 2 => .array .int
  | 3 => .int
  | _ => .int
def R_ColourTable : String := "PictureDesk$ColourTable"
def F_ColourTable : u_T := fun k => match k with
  | 0 => ("PictureDesk$ColourTable", "colours", "[I", true)
  | 1 => ("PictureDesk$ColourTable", "indices", "[I", true)
  | 2 => ("PictureDesk$ColourTable", "cells", "[I", true)
  | 3 => ("PictureDesk$ColourTable", "used", "I", false)
  | _ => ("PictureDesk$ColourTable", "transparentIndex", "I", false)
def t_ColourTable : Nat → FieldType := fun k => match k with
  | 0 => .array .int
  | 1 => .array .int
  | 2 => .array .int
  | 3 => .int
  | _ => .int
def R_GifReader : String := "PictureDesk$GifReader"
def F_GifReader : u_T := fun k => match k with
  | 0 => ("PictureDesk$GifReader", "in", "LPictureDesk$Source;", true)
  | 1 => ("PictureDesk$GifReader", "packed", "LPictureDesk$Source;", true)
  | 2 => ("PictureDesk$GifReader", "table", "[I", true)
  | 3 => ("PictureDesk$GifReader", "rowStarts", "[I", true)
  | 4 => ("PictureDesk$GifReader", "rowLengths", "[I", true)
  | 5 => ("PictureDesk$GifReader", "indices", "[I", true)
  | 6 => ("PictureDesk$GifReader", "order", "[I", true)
  | 7 => ("PictureDesk$GifReader", "colours", "I", false)
  | 8 => ("PictureDesk$GifReader", "transparent", "I", false)
  | _ => ("PictureDesk$GifReader", "made", "I", false)
def t_GifReader : Nat → FieldType := fun k => match k with
  | 0 => .object "PictureDesk$Source"
  | 1 => .object "PictureDesk$Source"
  | 2 => .array .int
  | 3 => .array .int
  | 4 => .array .int
  | 5 => .array .int
  | 6 => .array .int
  | 7 => .int
  | 8 => .int
  | _ => .int
def R_GifWriter : String := "PictureDesk$GifWriter"
def F_GifWriter : u_T := fun k => match k with
  | 0 => ("PictureDesk$GifWriter", "table", "LPictureDesk$ColourTable;", true)
  | 1 => ("PictureDesk$GifWriter", "codes", "LPictureDesk$Sink;", true)
  | 2 => ("PictureDesk$GifWriter", "order", "[I", true)
  | 3 => ("PictureDesk$GifWriter", "indices", "[I", true)
  | 4 => ("PictureDesk$GifWriter", "newestLonger", "[I", true)
  | 5 => ("PictureDesk$GifWriter", "olderSibling", "[I", true)
  | 6 => ("PictureDesk$GifWriter", "lastIndex", "[I", true)
  | 7 => ("PictureDesk$GifWriter", "m", "I", false)
  | 8 => ("PictureDesk$GifWriter", "nextRow", "I", false)
  | 9 => ("PictureDesk$GifWriter", "bits", "I", false)
  | 10 => ("PictureDesk$GifWriter", "readersNextRow", "I", false)
  | _ => ("PictureDesk$GifWriter", "isFirstCode", "Z", false)
def t_GifWriter : Nat → FieldType := fun k => match k with
  | 0 => .object "PictureDesk$ColourTable"
  | 1 => .object "PictureDesk$Sink"
  | 2 => .array .int
  | 3 => .array .int
  | 4 => .array .int
  | 5 => .array .int
  | 6 => .array .int
  | 7 => .int
  | 8 => .int
  | 9 => .int
  | 10 => .int
  | _ => .boolean
def R_Inflater : String := "PictureDesk$Inflater"
def F_Inflater : u_T := fun k => match k with
  | 0 => ("PictureDesk$Inflater", "in", "LPictureDesk$Source;", true)
  | 1 => ("PictureDesk$Inflater", "out", "[B", true)
  | 2 => ("PictureDesk$Inflater", "literals", "LPictureDesk$Codes;", true)
  | 3 => ("PictureDesk$Inflater", "distances", "LPictureDesk$Codes;", true)
  | 4 => ("PictureDesk$Inflater", "lengthCodes", "LPictureDesk$Codes;", true)
  | 5 => ("PictureDesk$Inflater", "lengths", "[I", true)
  | 6 => ("PictureDesk$Inflater", "made", "I", false)
  | _ => ("PictureDesk$Inflater", "due", "I", false)
def t_Inflater : Nat → FieldType := fun k => match k with
  | 0 => .object "PictureDesk$Source"
  | 1 => .array .byte
  | 2 => .object "PictureDesk$Codes"
  | 3 => .object "PictureDesk$Codes"
  | 4 => .object "PictureDesk$Codes"
  | 5 => .array .int
  | 6 => .int
  | _ => .int
def R_Picture : String := "PictureDesk$Picture"
def F_Picture : u_T := fun k => match k with
  | 0 => ("PictureDesk$Picture", "points", "[I", true)
  | 1 => ("PictureDesk$Picture", "width", "I", false)
  | _ => ("PictureDesk$Picture", "height", "I", false)
def t_Picture : Nat → FieldType := fun k => match k with
  | 0 => .array .int
  | 1 => .int
  | _ => .int
def R_PngReader : String := "PictureDesk$PngReader"
def F_PngReader : u_T := fun k => match k with
  | 0 => ("PictureDesk$PngReader", "in", "LPictureDesk$Source;", true)
  | 1 => ("PictureDesk$PngReader", "packed", "LPictureDesk$Source;", true)
  | 2 => ("PictureDesk$PngReader", "rows", "[B", true)
  | 3 => ("PictureDesk$PngReader", "inflater", "LPictureDesk$Inflater;", true)
  | 4 => ("PictureDesk$PngReader", "palette", "[I", true)
  | 5 => ("PictureDesk$PngReader", "key", "[I", true)
  | 6 => ("PictureDesk$PngReader", "colours", "I", false)
  | 7 => ("PictureDesk$PngReader", "hasTransparency", "Z", false)
  | 8 => ("PictureDesk$PngReader", "depth", "I", false)
  | 9 => ("PictureDesk$PngReader", "kind", "I", false)
  | 10 => ("PictureDesk$PngReader", "isInterlaced", "Z", false)
  | 11 => ("PictureDesk$PngReader", "stage", "I", false)
  | 12 => ("PictureDesk$PngReader", "partLength", "I", false)
  | _ => ("PictureDesk$PngReader", "partCrc", "I", false)
def t_PngReader : Nat → FieldType := fun k => match k with
  | 0 => .object "PictureDesk$Source"
  | 1 => .object "PictureDesk$Source"
  | 2 => .array .byte
  | 3 => .object "PictureDesk$Inflater"
  | 4 => .array .int
  | 5 => .array .int
  | 6 => .int
  | 7 => .boolean
  | 8 => .int
  | 9 => .int
  | 10 => .boolean
  | 11 => .int
  | 12 => .int
  | _ => .int
def R_PngWriter : String := "PictureDesk$PngWriter"
def F_PngWriter : u_T := fun k => match k with
  | 0 => ("PictureDesk$PngWriter", "rows", "[B", true)
  | 1 => ("PictureDesk$PngWriter", "lastPlaces", "[I", true)
  | 2 => ("PictureDesk$PngWriter", "placesBefore", "[I", true)
  | 3 => ("PictureDesk$PngWriter", "total", "I", false)
  | 4 => ("PictureDesk$PngWriter", "copyLength", "I", false)
  | _ => ("PictureDesk$PngWriter", "copyDistance", "I", false)
def t_PngWriter : Nat → FieldType := fun k => match k with
  | 0 => .array .byte
  | 1 => .array .int
  | 2 => .array .int
  | 3 => .int
  | 4 => .int
  | _ => .int
def R_Sink : String := "PictureDesk$Sink"
def F_Sink : u_T := fun k => match k with
  | 0 => ("PictureDesk$Sink", "bytes", "[B", true)
  | 1 => ("PictureDesk$Sink", "filled", "I", false)
  | 2 => ("PictureDesk$Sink", "bitStore", "I", false)
  | _ => ("PictureDesk$Sink", "bitsHeld", "I", false)
def t_Sink : Nat → FieldType := fun k => match k with
  | 0 => .array .byte
  | 1 => .int
  | 2 => .int
  | _ => .int
def R_Source : String := "PictureDesk$Source"
def F_Source : u_T := fun k => match k with
  | 0 => ("PictureDesk$Source", "bytes", "[B", true)
  | 1 => ("PictureDesk$Source", "at", "I", false)
  | 2 => ("PictureDesk$Source", "stop", "I", false)
  | 3 => ("PictureDesk$Source", "bitStore", "I", false)
  | 4 => ("PictureDesk$Source", "bitsHeld", "I", false)
  | 5 => ("PictureDesk$Source", "gatheredFrom", "I", false)
  | _ => ("PictureDesk$Source", "gatheredTo", "I", false)
def t_Source : Nat → FieldType := fun k => match k with
  | 0 => .array .byte
  | 1 => .int
  | 2 => .int
  | 3 => .int
  | 4 => .int
  | 5 => .int
  | _ => .int
def R_MCodes : String := "PictureDeskModel$Codes"
def F_MCodes : u_T := fun k => match k with
  | 0 => ("PictureDeskModel$Codes", "counts", "[I", true)
  | 1 => ("PictureDeskModel$Codes", "meanings", "[I", true)
  | _ => ("PictureDeskModel$Codes", "all", "I", false)
def t_MCodes : Nat → FieldType := fun k => match k with
  | 0 => .array .int
  | 1 => .array .int
  | _ => .int
abbrev classes : List vw_C := [(R_D, F_D, 12), (R_M, F_M, 47), (R_BmpFiles, F_BmpFiles, 10), (R_Codes, F_Codes, 5), (R_ColourTable, F_ColourTable, 5), (R_GifReader, F_GifReader, 10), (R_GifWriter, F_GifWriter, 12), (R_Inflater, F_Inflater, 8), (R_Picture, F_Picture, 3), (R_PngReader, F_PngReader, 14), (R_PngWriter, F_PngWriter, 6), (R_Sink, F_Sink, 4), (R_Source, F_Source, 7), (R_MCodes, F_MCodes, 3)]
theorem n_D : ∀ a, a < 12 → ∀ b, b < 12 → a ≠ b → (F_D a).2.1 ≠ (F_D b).2.1 := by decide +kernel
theorem t_D_ok : ∀ k, k < 12 → parseFieldDescriptor (F_D k).2.2.1 = some (t_D k) := by decide +kernel
theorem i_D : ∀ w ∈ u_ws R_D F_D 12, w ∈ lw_g := by
  intro w hw
  obtain ⟨k, hk, rfl⟩ := List.mem_map.mp hw
  have hk := List.mem_range.mp hk
  match k, hk with
  | 0, _ => exact lg_in2 (List.mem_of_getElem? (i := 169) rfl) rfl
  | 1, _ => exact lg_in2 (List.mem_of_getElem? (i := 171) rfl) rfl
  | 2, _ => exact lg_in2 (List.mem_of_getElem? (i := 173) rfl) rfl
  | 3, _ => exact lg_in2 (List.mem_of_getElem? (i := 175) rfl) rfl
  | 4, _ => exact lg_in2 (List.mem_of_getElem? (i := 177) rfl) rfl
  | 5, _ => exact lg_in2 (List.mem_of_getElem? (i := 179) rfl) rfl
  | 6, _ => exact lg_in2 (List.mem_of_getElem? (i := 181) rfl) rfl
  | 7, _ => exact lg_in2 (List.mem_of_getElem? (i := 183) rfl) rfl
  | 8, _ => exact lg_in2 (List.mem_of_getElem? (i := 185) rfl) rfl
  | 9, _ => exact lg_in2 (List.mem_of_getElem? (i := 187) rfl) rfl
  | 10, _ => exact lg_in2 (List.mem_of_getElem? (i := 189) rfl) rfl
  | 11, _ => exact lg_in2 (List.mem_of_getElem? (i := 191) rfl) rfl
  | k + 12, h => exact absurd h (by omega)
theorem n_M : ∀ a, a < 47 → ∀ b, b < 47 → a ≠ b → (F_M a).2.1 ≠ (F_M b).2.1 := by decide +kernel
theorem t_M_ok : ∀ k, k < 47 → parseFieldDescriptor (F_M k).2.2.1 = some (t_M k) := by decide +kernel
theorem i_M : ∀ w ∈ u_ws R_M F_M 47, w ∈ lw_g := by
  intro w hw
  obtain ⟨k, hk, rfl⟩ := List.mem_map.mp hw
  have hk := List.mem_range.mp hk
  match k, hk with
  | 0, _ => exact lg_in8 (List.mem_of_getElem? (i := 54) rfl) rfl
  | 1, _ => exact lg_in8 (List.mem_of_getElem? (i := 56) rfl) rfl
  | 2, _ => exact lg_in8 (List.mem_of_getElem? (i := 58) rfl) rfl
  | 3, _ => exact lg_in8 (List.mem_of_getElem? (i := 60) rfl) rfl
  | 4, _ => exact lg_in8 (List.mem_of_getElem? (i := 62) rfl) rfl
  | 5, _ => exact lg_in8 (List.mem_of_getElem? (i := 64) rfl) rfl
  | 6, _ => exact lg_in8 (List.mem_of_getElem? (i := 66) rfl) rfl
  | 7, _ => exact lg_in8 (List.mem_of_getElem? (i := 68) rfl) rfl
  | 8, _ => exact lg_in8 (List.mem_of_getElem? (i := 70) rfl) rfl
  | 9, _ => exact lg_in8 (List.mem_of_getElem? (i := 72) rfl) rfl
  | 10, _ => exact lg_in8 (List.mem_of_getElem? (i := 74) rfl) rfl
  | 11, _ => exact lg_in8 (List.mem_of_getElem? (i := 76) rfl) rfl
  | 12, _ => exact lg_in8 (List.mem_of_getElem? (i := 78) rfl) rfl
  | 13, _ => exact lg_in8 (List.mem_of_getElem? (i := 80) rfl) rfl
  | 14, _ => exact lg_in8 (List.mem_of_getElem? (i := 82) rfl) rfl
  | 15, _ => exact lg_in8 (List.mem_of_getElem? (i := 84) rfl) rfl
  | 16, _ => exact lg_in8 (List.mem_of_getElem? (i := 86) rfl) rfl
  | 17, _ => exact lg_in8 (List.mem_of_getElem? (i := 88) rfl) rfl
  | 18, _ => exact lg_in8 (List.mem_of_getElem? (i := 90) rfl) rfl
  | 19, _ => exact lg_in8 (List.mem_of_getElem? (i := 92) rfl) rfl
  | 20, _ => exact lg_in8 (List.mem_of_getElem? (i := 94) rfl) rfl
  | 21, _ => exact lg_in8 (List.mem_of_getElem? (i := 96) rfl) rfl
  | 22, _ => exact lg_in8 (List.mem_of_getElem? (i := 98) rfl) rfl
  | 23, _ => exact lg_in8 (List.mem_of_getElem? (i := 100) rfl) rfl
  | 24, _ => exact lg_in8 (List.mem_of_getElem? (i := 102) rfl) rfl
  | 25, _ => exact lg_in8 (List.mem_of_getElem? (i := 104) rfl) rfl
  | 26, _ => exact lg_in8 (List.mem_of_getElem? (i := 106) rfl) rfl
  | 27, _ => exact lg_in8 (List.mem_of_getElem? (i := 108) rfl) rfl
  | 28, _ => exact lg_in8 (List.mem_of_getElem? (i := 110) rfl) rfl
  | 29, _ => exact lg_in8 (List.mem_of_getElem? (i := 112) rfl) rfl
  | 30, _ => exact lg_in8 (List.mem_of_getElem? (i := 114) rfl) rfl
  | 31, _ => exact lg_in8 (List.mem_of_getElem? (i := 116) rfl) rfl
  | 32, _ => exact lg_in8 (List.mem_of_getElem? (i := 118) rfl) rfl
  | 33, _ => exact lg_in8 (List.mem_of_getElem? (i := 120) rfl) rfl
  | 34, _ => exact lg_in8 (List.mem_of_getElem? (i := 122) rfl) rfl
  | 35, _ => exact lg_in8 (List.mem_of_getElem? (i := 124) rfl) rfl
  | 36, _ => exact lg_in8 (List.mem_of_getElem? (i := 126) rfl) rfl
  | 37, _ => exact lg_in8 (List.mem_of_getElem? (i := 128) rfl) rfl
  | 38, _ => exact lg_in8 (List.mem_of_getElem? (i := 130) rfl) rfl
  | 39, _ => exact lg_in8 (List.mem_of_getElem? (i := 132) rfl) rfl
  | 40, _ => exact lg_in8 (List.mem_of_getElem? (i := 134) rfl) rfl
  | 41, _ => exact lg_in8 (List.mem_of_getElem? (i := 136) rfl) rfl
  | 42, _ => exact lg_in8 (List.mem_of_getElem? (i := 138) rfl) rfl
  | 43, _ => exact lg_in8 (List.mem_of_getElem? (i := 140) rfl) rfl
  | 44, _ => exact lg_in8 (List.mem_of_getElem? (i := 142) rfl) rfl
  | 45, _ => exact lg_in8 (List.mem_of_getElem? (i := 144) rfl) rfl
  | 46, _ => exact lg_in8 (List.mem_of_getElem? (i := 146) rfl) rfl
  | k + 47, h => exact absurd h (by omega)
theorem n_BmpFiles : ∀ a, a < 10 → ∀ b, b < 10 → a ≠ b → (F_BmpFiles a).2.1 ≠ (F_BmpFiles b).2.1 := by decide +kernel
theorem t_BmpFiles_ok : ∀ k, k < 10 → parseFieldDescriptor (F_BmpFiles k).2.2.1 = some (t_BmpFiles k) := by decide +kernel
theorem i_BmpFiles : ∀ w ∈ u_ws R_BmpFiles F_BmpFiles 10, w ∈ lw_g := by
  intro w hw
  obtain ⟨k, hk, rfl⟩ := List.mem_map.mp hw
  have hk := List.mem_range.mp hk
  match k, hk with
  | 0, _ => exact lg_in2 (List.mem_of_getElem? (i := 136) rfl) rfl
  | 1, _ => exact lg_in2 (List.mem_of_getElem? (i := 138) rfl) rfl
  | 2, _ => exact lg_in2 (List.mem_of_getElem? (i := 140) rfl) rfl
  | 3, _ => exact lg_in2 (List.mem_of_getElem? (i := 142) rfl) rfl
  | 4, _ => exact lg_in2 (List.mem_of_getElem? (i := 144) rfl) rfl
  | 5, _ => exact lg_in2 (List.mem_of_getElem? (i := 146) rfl) rfl
  | 6, _ => exact lg_in2 (List.mem_of_getElem? (i := 148) rfl) rfl
  | 7, _ => exact lg_in2 (List.mem_of_getElem? (i := 150) rfl) rfl
  | 8, _ => exact lg_in2 (List.mem_of_getElem? (i := 152) rfl) rfl
  | 9, _ => exact lg_in2 (List.mem_of_getElem? (i := 154) rfl) rfl
  | k + 10, h => exact absurd h (by omega)
theorem n_Codes : ∀ a, a < 5 → ∀ b, b < 5 → a ≠ b → (F_Codes a).2.1 ≠ (F_Codes b).2.1 := by decide +kernel
theorem t_Codes_ok : ∀ k, k < 5 → parseFieldDescriptor (F_Codes k).2.2.1 = some (t_Codes k) := by decide +kernel
theorem i_Codes : ∀ w ∈ u_ws R_Codes F_Codes 5, w ∈ lw_g := by
  intro w hw
  obtain ⟨k, hk, rfl⟩ := List.mem_map.mp hw
  have hk := List.mem_range.mp hk
  match k, hk with
  | 0, _ => exact lg_in1 (List.mem_of_getElem? (i := 173) rfl) rfl
  | 1, _ => exact lg_in1 (List.mem_of_getElem? (i := 175) rfl) rfl
  | 2, _ => exact lg_in1 (List.mem_of_getElem? (i := 177) rfl) rfl
  | 3, _ => exact lg_in1 (List.mem_of_getElem? (i := 179) rfl) rfl
  | 4, _ => exact lg_in1 (List.mem_of_getElem? (i := 181) rfl) rfl
  | k + 5, h => exact absurd h (by omega)
theorem n_ColourTable : ∀ a, a < 5 → ∀ b, b < 5 → a ≠ b → (F_ColourTable a).2.1 ≠ (F_ColourTable b).2.1 := by decide +kernel
theorem t_ColourTable_ok : ∀ k, k < 5 → parseFieldDescriptor (F_ColourTable k).2.2.1 = some (t_ColourTable k) := by decide +kernel
theorem i_ColourTable : ∀ w ∈ u_ws R_ColourTable F_ColourTable 5, w ∈ lw_g := by
  intro w hw
  obtain ⟨k, hk, rfl⟩ := List.mem_map.mp hw
  have hk := List.mem_range.mp hk
  match k, hk with
  | 0, _ => exact lg_in1 (List.mem_of_getElem? (i := 139) rfl) rfl
  | 1, _ => exact lg_in1 (List.mem_of_getElem? (i := 141) rfl) rfl
  | 2, _ => exact lg_in1 (List.mem_of_getElem? (i := 143) rfl) rfl
  | 3, _ => exact lg_in1 (List.mem_of_getElem? (i := 145) rfl) rfl
  | 4, _ => exact lg_in1 (List.mem_of_getElem? (i := 147) rfl) rfl
  | k + 5, h => exact absurd h (by omega)
theorem n_GifReader : ∀ a, a < 10 → ∀ b, b < 10 → a ≠ b → (F_GifReader a).2.1 ≠ (F_GifReader b).2.1 := by decide +kernel
theorem t_GifReader_ok : ∀ k, k < 10 → parseFieldDescriptor (F_GifReader k).2.2.1 = some (t_GifReader k) := by decide +kernel
theorem i_GifReader : ∀ w ∈ u_ws R_GifReader F_GifReader 10, w ∈ lw_g := by
  intro w hw
  obtain ⟨k, hk, rfl⟩ := List.mem_map.mp hw
  have hk := List.mem_range.mp hk
  match k, hk with
  | 0, _ => exact lg_in2 (List.mem_of_getElem? (i := 53) rfl) rfl
  | 1, _ => exact lg_in2 (List.mem_of_getElem? (i := 55) rfl) rfl
  | 2, _ => exact lg_in2 (List.mem_of_getElem? (i := 57) rfl) rfl
  | 3, _ => exact lg_in2 (List.mem_of_getElem? (i := 59) rfl) rfl
  | 4, _ => exact lg_in2 (List.mem_of_getElem? (i := 61) rfl) rfl
  | 5, _ => exact lg_in2 (List.mem_of_getElem? (i := 63) rfl) rfl
  | 6, _ => exact lg_in2 (List.mem_of_getElem? (i := 65) rfl) rfl
  | 7, _ => exact lg_in2 (List.mem_of_getElem? (i := 67) rfl) rfl
  | 8, _ => exact lg_in2 (List.mem_of_getElem? (i := 69) rfl) rfl
  | 9, _ => exact lg_in2 (List.mem_of_getElem? (i := 71) rfl) rfl
  | k + 10, h => exact absurd h (by omega)
theorem n_GifWriter : ∀ a, a < 12 → ∀ b, b < 12 → a ≠ b → (F_GifWriter a).2.1 ≠ (F_GifWriter b).2.1 := by decide +kernel
theorem t_GifWriter_ok : ∀ k, k < 12 → parseFieldDescriptor (F_GifWriter k).2.2.1 = some (t_GifWriter k) := by decide +kernel
theorem i_GifWriter : ∀ w ∈ u_ws R_GifWriter F_GifWriter 12, w ∈ lw_g := by
  intro w hw
  obtain ⟨k, hk, rfl⟩ := List.mem_map.mp hw
  have hk := List.mem_range.mp hk
  match k, hk with
  | 0, _ => exact lg_in2 (List.mem_of_getElem? (i := 95) rfl) rfl
  | 1, _ => exact lg_in2 (List.mem_of_getElem? (i := 97) rfl) rfl
  | 2, _ => exact lg_in2 (List.mem_of_getElem? (i := 99) rfl) rfl
  | 3, _ => exact lg_in2 (List.mem_of_getElem? (i := 101) rfl) rfl
  | 4, _ => exact lg_in2 (List.mem_of_getElem? (i := 103) rfl) rfl
  | 5, _ => exact lg_in2 (List.mem_of_getElem? (i := 105) rfl) rfl
  | 6, _ => exact lg_in2 (List.mem_of_getElem? (i := 107) rfl) rfl
  | 7, _ => exact lg_in2 (List.mem_of_getElem? (i := 109) rfl) rfl
  | 8, _ => exact lg_in2 (List.mem_of_getElem? (i := 111) rfl) rfl
  | 9, _ => exact lg_in2 (List.mem_of_getElem? (i := 113) rfl) rfl
  | 10, _ => exact lg_in2 (List.mem_of_getElem? (i := 115) rfl) rfl
  | 11, _ => exact lg_in2 (List.mem_of_getElem? (i := 117) rfl) rfl
  | k + 12, h => exact absurd h (by omega)
theorem n_Inflater : ∀ a, a < 8 → ∀ b, b < 8 → a ≠ b → (F_Inflater a).2.1 ≠ (F_Inflater b).2.1 := by decide +kernel
theorem t_Inflater_ok : ∀ k, k < 8 → parseFieldDescriptor (F_Inflater k).2.2.1 = some (t_Inflater k) := by decide +kernel
theorem i_Inflater : ∀ w ∈ u_ws R_Inflater F_Inflater 8, w ∈ lw_g := by
  intro w hw
  obtain ⟨k, hk, rfl⟩ := List.mem_map.mp hw
  have hk := List.mem_range.mp hk
  match k, hk with
  | 0, _ => exact lg_in1 (List.mem_of_getElem? (i := 192) rfl) rfl
  | 1, _ => exact lg_in1 (List.mem_of_getElem? (i := 194) rfl) rfl
  | 2, _ => exact lg_in1 (List.mem_of_getElem? (i := 196) rfl) rfl
  | 3, _ => exact lg_in1 (List.mem_of_getElem? (i := 198) rfl) rfl
  | 4, _ => exact lg_in1 (List.mem_of_getElem? (i := 200) rfl) rfl
  | 5, _ => exact lg_in1 (List.mem_of_getElem? (i := 202) rfl) rfl
  | 6, _ => exact lg_in1 (List.mem_of_getElem? (i := 204) rfl) rfl
  | 7, _ => exact lg_in1 (List.mem_of_getElem? (i := 206) rfl) rfl
  | k + 8, h => exact absurd h (by omega)
theorem n_Picture : ∀ a, a < 3 → ∀ b, b < 3 → a ≠ b → (F_Picture a).2.1 ≠ (F_Picture b).2.1 := by decide +kernel
theorem t_Picture_ok : ∀ k, k < 3 → parseFieldDescriptor (F_Picture k).2.2.1 = some (t_Picture k) := by decide +kernel
theorem i_Picture : ∀ w ∈ u_ws R_Picture F_Picture 3, w ∈ lw_g := by
  intro w hw
  obtain ⟨k, hk, rfl⟩ := List.mem_map.mp hw
  have hk := List.mem_range.mp hk
  match k, hk with
  | 0, _ => exact lg_in1 (List.mem_of_getElem? (i := 91) rfl) rfl
  | 1, _ => exact lg_in1 (List.mem_of_getElem? (i := 93) rfl) rfl
  | 2, _ => exact lg_in1 (List.mem_of_getElem? (i := 95) rfl) rfl
  | k + 3, h => exact absurd h (by omega)
theorem n_PngReader : ∀ a, a < 14 → ∀ b, b < 14 → a ≠ b → (F_PngReader a).2.1 ≠ (F_PngReader b).2.1 := by decide +kernel
theorem t_PngReader_ok : ∀ k, k < 14 → parseFieldDescriptor (F_PngReader k).2.2.1 = some (t_PngReader k) := by decide +kernel
theorem i_PngReader : ∀ w ∈ u_ws R_PngReader F_PngReader 14, w ∈ lw_g := by
  intro w hw
  obtain ⟨k, hk, rfl⟩ := List.mem_map.mp hw
  have hk := List.mem_range.mp hk
  match k, hk with
  | 0, _ => exact lg_in1 (List.mem_of_getElem? (i := 223) rfl) rfl
  | 1, _ => exact lg_in1 (List.mem_of_getElem? (i := 225) rfl) rfl
  | 2, _ => exact lg_in1 (List.mem_of_getElem? (i := 227) rfl) rfl
  | 3, _ => exact lg_in1 (List.mem_of_getElem? (i := 229) rfl) rfl
  | 4, _ => exact lg_in1 (List.mem_of_getElem? (i := 231) rfl) rfl
  | 5, _ => exact lg_in1 (List.mem_of_getElem? (i := 233) rfl) rfl
  | 6, _ => exact lg_in1 (List.mem_of_getElem? (i := 235) rfl) rfl
  | 7, _ => exact lg_in1 (List.mem_of_getElem? (i := 237) rfl) rfl
  | 8, _ => exact lg_in1 (List.mem_of_getElem? (i := 239) rfl) rfl
  | 9, _ => exact lg_in2 (List.mem_of_getElem? (i := 1) rfl) rfl
  | 10, _ => exact lg_in2 (List.mem_of_getElem? (i := 3) rfl) rfl
  | 11, _ => exact lg_in2 (List.mem_of_getElem? (i := 5) rfl) rfl
  | 12, _ => exact lg_in2 (List.mem_of_getElem? (i := 7) rfl) rfl
  | 13, _ => exact lg_in2 (List.mem_of_getElem? (i := 9) rfl) rfl
  | k + 14, h => exact absurd h (by omega)
theorem n_PngWriter : ∀ a, a < 6 → ∀ b, b < 6 → a ≠ b → (F_PngWriter a).2.1 ≠ (F_PngWriter b).2.1 := by decide +kernel
theorem t_PngWriter_ok : ∀ k, k < 6 → parseFieldDescriptor (F_PngWriter k).2.2.1 = some (t_PngWriter k) := by decide +kernel
theorem i_PngWriter : ∀ w ∈ u_ws R_PngWriter F_PngWriter 6, w ∈ lw_g := by
  intro w hw
  obtain ⟨k, hk, rfl⟩ := List.mem_map.mp hw
  have hk := List.mem_range.mp hk
  match k, hk with
  | 0, _ => exact lg_in2 (List.mem_of_getElem? (i := 24) rfl) rfl
  | 1, _ => exact lg_in2 (List.mem_of_getElem? (i := 26) rfl) rfl
  | 2, _ => exact lg_in2 (List.mem_of_getElem? (i := 28) rfl) rfl
  | 3, _ => exact lg_in2 (List.mem_of_getElem? (i := 30) rfl) rfl
  | 4, _ => exact lg_in2 (List.mem_of_getElem? (i := 32) rfl) rfl
  | 5, _ => exact lg_in2 (List.mem_of_getElem? (i := 34) rfl) rfl
  | k + 6, h => exact absurd h (by omega)
theorem n_Sink : ∀ a, a < 4 → ∀ b, b < 4 → a ≠ b → (F_Sink a).2.1 ≠ (F_Sink b).2.1 := by decide +kernel
theorem t_Sink_ok : ∀ k, k < 4 → parseFieldDescriptor (F_Sink k).2.2.1 = some (t_Sink k) := by decide +kernel
theorem i_Sink : ∀ w ∈ u_ws R_Sink F_Sink 4, w ∈ lw_g := by
  intro w hw
  obtain ⟨k, hk, rfl⟩ := List.mem_map.mp hw
  have hk := List.mem_range.mp hk
  match k, hk with
  | 0, _ => exact lg_in1 (List.mem_of_getElem? (i := 53) rfl) rfl
  | 1, _ => exact lg_in1 (List.mem_of_getElem? (i := 55) rfl) rfl
  | 2, _ => exact lg_in1 (List.mem_of_getElem? (i := 57) rfl) rfl
  | 3, _ => exact lg_in1 (List.mem_of_getElem? (i := 59) rfl) rfl
  | k + 4, h => exact absurd h (by omega)
theorem n_Source : ∀ a, a < 7 → ∀ b, b < 7 → a ≠ b → (F_Source a).2.1 ≠ (F_Source b).2.1 := by decide +kernel
theorem t_Source_ok : ∀ k, k < 7 → parseFieldDescriptor (F_Source k).2.2.1 = some (t_Source k) := by decide +kernel
theorem i_Source : ∀ w ∈ u_ws R_Source F_Source 7, w ∈ lw_g := by
  intro w hw
  obtain ⟨k, hk, rfl⟩ := List.mem_map.mp hw
  have hk := List.mem_range.mp hk
  match k, hk with
  | 0, _ => exact lg_in1 (List.mem_of_getElem? (i := 112) rfl) rfl
  | 1, _ => exact lg_in1 (List.mem_of_getElem? (i := 114) rfl) rfl
  | 2, _ => exact lg_in1 (List.mem_of_getElem? (i := 116) rfl) rfl
  | 3, _ => exact lg_in1 (List.mem_of_getElem? (i := 118) rfl) rfl
  | 4, _ => exact lg_in1 (List.mem_of_getElem? (i := 120) rfl) rfl
  | 5, _ => exact lg_in1 (List.mem_of_getElem? (i := 122) rfl) rfl
  | 6, _ => exact lg_in1 (List.mem_of_getElem? (i := 124) rfl) rfl
  | k + 7, h => exact absurd h (by omega)
theorem n_MCodes : ∀ a, a < 3 → ∀ b, b < 3 → a ≠ b → (F_MCodes a).2.1 ≠ (F_MCodes b).2.1 := by decide +kernel
theorem t_MCodes_ok : ∀ k, k < 3 → parseFieldDescriptor (F_MCodes k).2.2.1 = some (t_MCodes k) := by decide +kernel
theorem i_MCodes : ∀ w ∈ u_ws R_MCodes F_MCodes 3, w ∈ lw_g := by
  intro w hw
  obtain ⟨k, hk, rfl⟩ := List.mem_map.mp hw
  have hk := List.mem_range.mp hk
  match k, hk with
  | 0, _ => exact lg_in7 (List.mem_of_getElem? (i := 239) rfl) rfl
  | 1, _ => exact lg_in8 (List.mem_of_getElem? (i := 1) rfl) rfl
  | 2, _ => exact lg_in8 (List.mem_of_getElem? (i := 3) rfl) rfl
  | k + 3, h => exact absurd h (by omega)
abbrev b_D_init : ByteArray := prog_1_method_1_code
def y_D_init : MethodName := ⟨R_D, "<init>", "()V"⟩
theorem cw_D_init : Cond.code y_D_init b_D_init 4 none ∈ lw_g := lg_in1 (List.mem_of_getElem? (i := 38) rfl) rfl
abbrev b_D_feed : ByteArray := prog_1_method_2_code
def y_D_feed : MethodName := ⟨R_D, "feed", "(IIIII)I"⟩
theorem cw_D_feed : Cond.code y_D_feed b_D_feed 6 (some .int) ∈ lw_g := lg_in2 (List.mem_of_getElem? (i := 215) rfl) rfl
abbrev b_D_end : ByteArray := prog_1_method_3_code
def y_D_end : MethodName := ⟨R_D, "end", "(I)I"⟩
theorem cw_D_end : Cond.code y_D_end b_D_end 2 (some .int) ∈ lw_g := lg_in3 (List.mem_of_getElem? (i := 57) rfl) rfl
abbrev b_D_again : ByteArray := prog_1_method_4_code
def y_D_again : MethodName := ⟨R_D, "again", "()I"⟩
theorem cw_D_again : Cond.code y_D_again b_D_again 1 (some .int) ∈ lw_g := lg_in2 (List.mem_of_getElem? (i := 197) rfl) rfl
abbrev b_D_patch : ByteArray := prog_1_method_5_code
def y_D_patch : MethodName := ⟨R_D, "patch", "(III)V"⟩
theorem cw_D_patch : Cond.code y_D_patch b_D_patch 4 none ∈ lw_g := lg_in3 (List.mem_of_getElem? (i := 83) rfl) rfl
abbrev b_D_read : ByteArray := prog_1_method_6_code
def y_D_read : MethodName := ⟨R_D, "read", "(I)I"⟩
theorem cw_D_read : Cond.code y_D_read b_D_read 4 (some .int) ∈ lw_g := lg_in3 (List.mem_of_getElem? (i := 91) rfl) rfl
abbrev b_D_write : ByteArray := prog_1_method_7_code
def y_D_write : MethodName := ⟨R_D, "write", "(III)I"⟩
theorem cw_D_write : Cond.code y_D_write b_D_write 6 (some .int) ∈ lw_g := lg_in6 (List.mem_of_getElem? (i := 91) rfl) rfl
abbrev b_D_make : ByteArray := prog_1_method_8_code
def y_D_make : MethodName := ⟨R_D, "make", "(IIII)V"⟩
theorem cw_D_make : Cond.code y_D_make b_D_make 6 none ∈ lw_g := lg_in7 (List.mem_of_getElem? (i := 156) rfl) rfl
abbrev b_D_set : ByteArray := prog_1_method_9_code
def y_D_set : MethodName := ⟨R_D, "set", "(IIII)I"⟩
theorem cw_D_set : Cond.code y_D_set b_D_set 8 (some .int) ∈ lw_g := lg_in7 (List.mem_of_getElem? (i := 167) rfl) rfl
abbrev b_D_get : ByteArray := prog_1_method_10_code
def y_D_get : MethodName := ⟨R_D, "get", "(III)I"⟩
theorem cw_D_get : Cond.code y_D_get b_D_get 5 (some .int) ∈ lw_g := lg_in7 (List.mem_of_getElem? (i := 178) rfl) rfl
abbrev b_D_paint : ByteArray := prog_1_method_11_code
def y_D_paint : MethodName := ⟨R_D, "paint", "(IIII)V"⟩
theorem cw_D_paint : Cond.code y_D_paint b_D_paint 9 none ∈ lw_g := lg_in7 (List.mem_of_getElem? (i := 185) rfl) rfl
abbrev b_D_hash : ByteArray := prog_1_method_12_code
def y_D_hash : MethodName := ⟨R_D, "hash", "(I)I"⟩
theorem cw_D_hash : Cond.code y_D_hash b_D_hash 6 (some .int) ∈ lw_g := lg_in7 (List.mem_of_getElem? (i := 193) rfl) rfl
abbrev b_D_size : ByteArray := prog_1_method_13_code
def y_D_size : MethodName := ⟨R_D, "size", "(II)I"⟩
theorem cw_D_size : Cond.code y_D_size b_D_size 4 (some .int) ∈ lw_g := lg_in7 (List.mem_of_getElem? (i := 200) rfl) rfl
abbrev b_D_word : ByteArray := prog_1_method_14_code
def y_D_word : MethodName := ⟨R_D, "word", "(I)J"⟩
theorem cw_D_word : Cond.code y_D_word b_D_word 5 (some .long) ∈ lw_g := lg_in7 (List.mem_of_getElem? (i := 207) rfl) rfl
abbrev b_D_count : ByteArray := prog_1_method_15_code
def y_D_count : MethodName := ⟨R_D, "count", "(I)I"⟩
theorem cw_D_count : Cond.code y_D_count b_D_count 4 (some .int) ∈ lw_g := lg_in7 (List.mem_of_getElem? (i := 216) rfl) rfl
abbrev b_D_requireArgument : ByteArray := prog_1_method_16_code
def y_D_requireArgument : MethodName := ⟨R_D, "requireArgument", "(Z)V"⟩
theorem cw_D_requireArgument : Cond.code y_D_requireArgument b_D_requireArgument 1 none ∈ lw_g := lg_in3 (List.mem_of_getElem? (i := 60) rfl) rfl
abbrev b_D_requireSlot : ByteArray := prog_1_method_17_code
def y_D_requireSlot : MethodName := ⟨R_D, "requireSlot", "(I)V"⟩
theorem cw_D_requireSlot : Cond.code y_D_requireSlot b_D_requireSlot 1 none ∈ lw_g := lg_in3 (List.mem_of_getElem? (i := 94) rfl) rfl
abbrev b_D_heldPicture : ByteArray := prog_1_method_18_code
def y_D_heldPicture : MethodName := ⟨R_D, "heldPicture", "(I)LPictureDesk$Picture;"⟩
theorem cw_D_heldPicture : Cond.code y_D_heldPicture b_D_heldPicture 2 (some (.object "PictureDesk$Picture")) ∈ lw_g := lg_in6 (List.mem_of_getElem? (i := 95) rfl) rfl
abbrev b_D_layOnTape : ByteArray := prog_1_method_19_code
def y_D_layOnTape : MethodName := ⟨R_D, "layOnTape", "(III)V"⟩
theorem cw_D_layOnTape : Cond.code y_D_layOnTape b_D_layOnTape 5 none ∈ lw_g := lg_in3 (List.mem_of_getElem? (i := 49) rfl) rfl
abbrev b_D_formatOf : ByteArray := prog_1_method_20_code
def y_D_formatOf : MethodName := ⟨R_D, "formatOf", "(I)I"⟩
theorem cw_D_formatOf : Cond.code y_D_formatOf b_D_formatOf 1 (some .int) ∈ lw_g := lg_in3 (List.mem_of_getElem? (i := 113) rfl) rfl
abbrev b_D_need : ByteArray := prog_1_method_21_code
def y_D_need : MethodName := ⟨R_D, "need", "(Z)V"⟩
theorem cw_D_need : Cond.code y_D_need b_D_need 1 none ∈ lw_g := lg_in3 (List.mem_of_getElem? (i := 116) rfl) rfl
abbrev b_D_crcOf : ByteArray := prog_1_method_22_code
def y_D_crcOf : MethodName := ⟨R_D, "crcOf", "([BII)I"⟩
theorem cw_D_crcOf : Cond.code y_D_crcOf b_D_crcOf 6 (some .int) ∈ lw_g := lg_in3 (List.mem_of_getElem? (i := 176) rfl) rfl
abbrev b_D_adlerOf : ByteArray := prog_1_method_23_code
def y_D_adlerOf : MethodName := ⟨R_D, "adlerOf", "([BI)I"⟩
theorem cw_D_adlerOf : Cond.code y_D_adlerOf b_D_adlerOf 6 (some .int) ∈ lw_g := lg_in5 (List.mem_of_getElem? (i := 144) rfl) rfl
abbrev b_M_init : ByteArray := prog_14_method_1_code
def y_M_init : MethodName := ⟨R_M, "<init>", "()V"⟩
theorem cw_M_init : Cond.code y_M_init b_M_init 1 none ∈ lw_g := lg_in7 (List.mem_of_getElem? (i := 221) rfl) rfl
abbrev b_M_thrown : ByteArray := prog_14_method_2_code
def y_M_thrown : MethodName := ⟨R_M, "thrown", "()I"⟩
theorem cw_M_thrown : Cond.code y_M_thrown b_M_thrown 1 (some .int) ∈ lw_g := lg_in8 (List.mem_of_getElem? (i := 152) rfl) rfl
abbrev b_M_fail : ByteArray := prog_14_method_3_code
def y_M_fail : MethodName := ⟨R_M, "fail", "(I)I"⟩
theorem cw_M_fail : Cond.code y_M_fail b_M_fail 2 (some .int) ∈ lw_g := lg_in8 (List.mem_of_getElem? (i := 162) rfl) rfl
abbrev b_M_can : ByteArray := prog_14_method_4_code
def y_M_can : MethodName := ⟨R_M, "can", "(Z)V"⟩
theorem cw_M_can : Cond.code y_M_can b_M_can 2 none ∈ lw_g := lg_in8 (List.mem_of_getElem? (i := 166) rfl) rfl
abbrev b_M_next : ByteArray := prog_14_method_5_code
def y_M_next : MethodName := ⟨R_M, "next", "()I"⟩
theorem cw_M_next : Cond.code y_M_next b_M_next 1 (some .int) ∈ lw_g := lg_in8 (List.mem_of_getElem? (i := 188) rfl) rfl
abbrev b_M_big : ByteArray := prog_14_method_6_code
def y_M_big : MethodName := ⟨R_M, "big", "(I)J"⟩
theorem cw_M_big : Cond.code y_M_big b_M_big 5 (some .long) ∈ lw_g := lg_in8 (List.mem_of_getElem? (i := 194) rfl) rfl
abbrev b_M_little : ByteArray := prog_14_method_7_code
def y_M_little : MethodName := ⟨R_M, "little", "(I)J"⟩
theorem cw_M_little : Cond.code y_M_little b_M_little 5 (some .long) ∈ lw_g := lg_in9 (List.mem_of_getElem? (i := 100) rfl) rfl
abbrev b_M_sized : ByteArray := prog_14_method_8_code
def y_M_sized : MethodName := ⟨R_M, "sized", "(JJ)V"⟩
theorem cw_M_sized : Cond.code y_M_sized b_M_sized 5 none ∈ lw_g := lg_in8 (List.mem_of_getElem? (i := 208) rfl) rfl
abbrev b_M_crc : ByteArray := prog_14_method_9_code
def y_M_crc : MethodName := ⟨R_M, "crc", "([BII)J"⟩
theorem cw_M_crc : Cond.code y_M_crc b_M_crc 7 (some .long) ∈ lw_g := lg_in8 (List.mem_of_getElem? (i := 202) rfl) rfl
abbrev b_M_named : ByteArray := prog_14_method_10_code
def y_M_named : MethodName := ⟨R_M, "named", "(ILjava/lang/String;)Z"⟩
theorem cw_M_named : Cond.code y_M_named b_M_named 4 (some .boolean) ∈ lw_g := lg_in8 (List.mem_of_getElem? (i := 221) rfl) rfl
abbrev b_M_letter : ByteArray := prog_14_method_11_code
def y_M_letter : MethodName := ⟨R_M, "letter", "(I)Z"⟩
theorem cw_M_letter : Cond.code y_M_letter b_M_letter 1 (some .boolean) ∈ lw_g := lg_in8 (List.mem_of_getElem? (i := 216) rfl) rfl
abbrev b_M_header : ByteArray := prog_14_method_12_code
def y_M_header : MethodName := ⟨R_M, "header", "()V"⟩
theorem cw_M_header : Cond.code y_M_header b_M_header 7 none ∈ lw_g := lg_in8 (List.mem_of_getElem? (i := 184) rfl) rfl
abbrev b_M_readPng : ByteArray := prog_14_method_13_code
def y_M_readPng : MethodName := ⟨R_M, "readPng", "()V"⟩
theorem cw_M_readPng : Cond.code y_M_readPng b_M_readPng 12 none ∈ lw_g := lg_in8 (List.mem_of_getElem? (i := 180) rfl) rfl
abbrev b_M_table : ByteArray := prog_14_method_14_code
def y_M_table : MethodName := ⟨R_M, "table", "(JI)V"⟩
theorem cw_M_table : Cond.code y_M_table b_M_table 5 none ∈ lw_g := lg_in8 (List.mem_of_getElem? (i := 226) rfl) rfl
abbrev b_M_transparent : ByteArray := prog_14_method_15_code
def y_M_transparent : MethodName := ⟨R_M, "transparent", "(II)V"⟩
theorem cw_M_transparent : Cond.code y_M_transparent b_M_transparent 4 none ∈ lw_g := lg_in8 (List.mem_of_getElem? (i := 233) rfl) rfl
abbrev b_M_bits : ByteArray := prog_14_method_16_code
def y_M_bits : MethodName := ⟨R_M, "bits", "(I)I"⟩
theorem cw_M_bits : Cond.code y_M_bits b_M_bits 4 (some .int) ∈ lw_g := lg_in9 (List.mem_of_getElem? (i := 30) rfl) rfl
abbrev b_M_meaning : ByteArray := prog_14_method_17_code
def y_M_meaning : MethodName := ⟨R_M, "meaning", "(LPictureDeskModel$Codes;)I"⟩
theorem cw_M_meaning : Cond.code y_M_meaning b_M_meaning 6 (some .int) ∈ lw_g := lg_in9 (List.mem_of_getElem? (i := 54) rfl) rfl
abbrev b_M_fixedCodes : ByteArray := prog_14_method_18_code
def y_M_fixedCodes : MethodName := ⟨R_M, "fixedCodes", "()V"⟩
theorem cw_M_fixedCodes : Cond.code y_M_fixedCodes b_M_fixedCodes 3 none ∈ lw_g := lg_in9 (List.mem_of_getElem? (i := 39) rfl) rfl
abbrev b_M_toldCodes : ByteArray := prog_14_method_19_code
def y_M_toldCodes : MethodName := ⟨R_M, "toldCodes", "()V"⟩
theorem cw_M_toldCodes : Cond.code y_M_toldCodes b_M_toldCodes 9 none ∈ lw_g := lg_in9 (List.mem_of_getElem? (i := 48) rfl) rfl
abbrev b_M_give : ByteArray := prog_14_method_20_code
def y_M_give : MethodName := ⟨R_M, "give", "(I)V"⟩
theorem cw_M_give : Cond.code y_M_give b_M_give 2 none ∈ lw_g := lg_in9 (List.mem_of_getElem? (i := 35) rfl) rfl
abbrev b_M_block : ByteArray := prog_14_method_21_code
def y_M_block : MethodName := ⟨R_M, "block", "()V"⟩
theorem cw_M_block : Cond.code y_M_block b_M_block 6 none ∈ lw_g := lg_in9 (List.mem_of_getElem? (i := 58) rfl) rfl
abbrev b_M_lengthBits : ByteArray := prog_14_method_22_code
def y_M_lengthBits : MethodName := ⟨R_M, "lengthBits", "(I)I"⟩
theorem cw_M_lengthBits : Cond.code y_M_lengthBits b_M_lengthBits 1 (some .int) ∈ lw_g := lg_in9 (List.mem_of_getElem? (i := 61) rfl) rfl
abbrev b_M_distanceBits : ByteArray := prog_14_method_23_code
def y_M_distanceBits : MethodName := ⟨R_M, "distanceBits", "(I)I"⟩
theorem cw_M_distanceBits : Cond.code y_M_distanceBits b_M_distanceBits 1 (some .int) ∈ lw_g := lg_in9 (List.mem_of_getElem? (i := 64) rfl) rfl
abbrev b_M_inflate : ByteArray := prog_14_method_24_code
def y_M_inflate : MethodName := ⟨R_M, "inflate", "()V"⟩
theorem cw_M_inflate : Cond.code y_M_inflate b_M_inflate 7 none ∈ lw_g := lg_in8 (List.mem_of_getElem? (i := 238) rfl) rfl
abbrev b_M_adler : ByteArray := prog_14_method_25_code
def y_M_adler : MethodName := ⟨R_M, "adler", "([BI)J"⟩
theorem cw_M_adler : Cond.code y_M_adler b_M_adler 5 (some .long) ∈ lw_g := lg_in9 (List.mem_of_getElem? (i := 68) rfl) rfl
abbrev b_M_samples : ByteArray := prog_14_method_26_code
def y_M_samples : MethodName := ⟨R_M, "samples", "()I"⟩
theorem cw_M_samples : Cond.code y_M_samples b_M_samples 1 (some .int) ∈ lw_g := lg_in9 (List.mem_of_getElem? (i := 26) rfl) rfl
abbrev b_M_passWidth : ByteArray := prog_14_method_27_code
def y_M_passWidth : MethodName := ⟨R_M, "passWidth", "(I)I"⟩
theorem cw_M_passWidth : Cond.code y_M_passWidth b_M_passWidth 2 (some .int) ∈ lw_g := lg_in9 (List.mem_of_getElem? (i := 6) rfl) rfl
abbrev b_M_passHeight : ByteArray := prog_14_method_28_code
def y_M_passHeight : MethodName := ⟨R_M, "passHeight", "(I)I"⟩
theorem cw_M_passHeight : Cond.code y_M_passHeight b_M_passHeight 2 (some .int) ∈ lw_g := lg_in9 (List.mem_of_getElem? (i := 14) rfl) rfl
abbrev b_M_rowSize : ByteArray := prog_14_method_29_code
def y_M_rowSize : MethodName := ⟨R_M, "rowSize", "(I)I"⟩
theorem cw_M_rowSize : Cond.code y_M_rowSize b_M_rowSize 2 (some .int) ∈ lw_g := lg_in9 (List.mem_of_getElem? (i := 22) rfl) rfl
abbrev b_M_allRows : ByteArray := prog_14_method_30_code
def y_M_allRows : MethodName := ⟨R_M, "allRows", "()I"⟩
theorem cw_M_allRows : Cond.code y_M_allRows b_M_allRows 3 (some .int) ∈ lw_g := lg_in9 (List.mem_of_getElem? (i := 2) rfl) rfl
abbrev b_M_guess : ByteArray := prog_14_method_31_code
def y_M_guess : MethodName := ⟨R_M, "guess", "(IIII)I"⟩
theorem cw_M_guess : Cond.code y_M_guess b_M_guess 8 (some .int) ∈ lw_g := lg_in9 (List.mem_of_getElem? (i := 78) rfl) rfl
abbrev b_M_pictures : ByteArray := prog_14_method_32_code
def y_M_pictures : MethodName := ⟨R_M, "pictures", "()V"⟩
theorem cw_M_pictures : Cond.code y_M_pictures b_M_pictures 13 none ∈ lw_g := lg_in9 (List.mem_of_getElem? (i := 74) rfl) rfl
abbrev b_M_sample : ByteArray := prog_14_method_33_code
def y_M_sample : MethodName := ⟨R_M, "sample", "(II)I"⟩
theorem cw_M_sample : Cond.code y_M_sample b_M_sample 4 (some .int) ∈ lw_g := lg_in9 (List.mem_of_getElem? (i := 87) rfl) rfl
abbrev b_M_shade : ByteArray := prog_14_method_34_code
def y_M_shade : MethodName := ⟨R_M, "shade", "(I)I"⟩
theorem cw_M_shade : Cond.code y_M_shade b_M_shade 2 (some .int) ∈ lw_g := lg_in9 (List.mem_of_getElem? (i := 91) rfl) rfl
abbrev b_M_point : ByteArray := prog_14_method_35_code
def y_M_point : MethodName := ⟨R_M, "point", "(II)I"⟩
theorem cw_M_point : Cond.code y_M_point b_M_point 7 (some .int) ∈ lw_g := lg_in9 (List.mem_of_getElem? (i := 83) rfl) rfl
abbrev b_M_readTable : ByteArray := prog_14_method_36_code
def y_M_readTable : MethodName := ⟨R_M, "readTable", "(I[I)I"⟩
theorem cw_M_readTable : Cond.code y_M_readTable b_M_readTable 7 (some .int) ∈ lw_g := lg_in9 (List.mem_of_getElem? (i := 104) rfl) rfl
abbrev b_M_pieces : ByteArray := prog_14_method_37_code
def y_M_pieces : MethodName := ⟨R_M, "pieces", "()V"⟩
theorem cw_M_pieces : Cond.code y_M_pieces b_M_pieces 3 none ∈ lw_g := lg_in9 (List.mem_of_getElem? (i := 108) rfl) rfl
abbrev b_M_readGif : ByteArray := prog_14_method_38_code
def y_M_readGif : MethodName := ⟨R_M, "readGif", "()V"⟩
theorem cw_M_readGif : Cond.code y_M_readGif b_M_readGif 13 none ∈ lw_g := lg_in9 (List.mem_of_getElem? (i := 95) rfl) rfl
abbrev b_M_image : ByteArray := prog_14_method_39_code
def y_M_image : MethodName := ⟨R_M, "image", "(ZI)V"⟩
theorem cw_M_image : Cond.code y_M_image b_M_image 19 none ∈ lw_g := lg_in9 (List.mem_of_getElem? (i := 112) rfl) rfl
abbrev b_M_firstOf : ByteArray := prog_14_method_40_code
def y_M_firstOf : MethodName := ⟨R_M, "firstOf", "(I)I"⟩
theorem cw_M_firstOf : Cond.code y_M_firstOf b_M_firstOf 3 (some .int) ∈ lw_g := lg_in9 (List.mem_of_getElem? (i := 120) rfl) rfl
abbrev b_M_giveRow : ByteArray := prog_14_method_41_code
def y_M_giveRow : MethodName := ⟨R_M, "giveRow", "(I)V"⟩
theorem cw_M_giveRow : Cond.code y_M_giveRow b_M_giveRow 5 none ∈ lw_g := lg_in9 (List.mem_of_getElem? (i := 124) rfl) rfl
abbrev b_M_unrows : ByteArray := prog_14_method_42_code
def y_M_unrows : MethodName := ⟨R_M, "unrows", "(I)V"⟩
theorem cw_M_unrows : Cond.code y_M_unrows b_M_unrows 7 none ∈ lw_g := lg_in9 (List.mem_of_getElem? (i := 116) rfl) rfl
abbrev b_M_readBmp : ByteArray := prog_14_method_43_code
def y_M_readBmp : MethodName := ⟨R_M, "readBmp", "()V"⟩
theorem cw_M_readBmp : Cond.code y_M_readBmp b_M_readBmp 16 none ∈ lw_g := lg_in9 (List.mem_of_getElem? (i := 128) rfl) rfl
abbrev b_M_plainRow : ByteArray := prog_14_method_44_code
def y_M_plainRow : MethodName := ⟨R_M, "plainRow", "(I)V"⟩
theorem cw_M_plainRow : Cond.code y_M_plainRow b_M_plainRow 8 none ∈ lw_g := lg_in9 (List.mem_of_getElem? (i := 137) rfl) rfl
abbrev b_M_packedRows : ByteArray := prog_14_method_45_code
def y_M_packedRows : MethodName := ⟨R_M, "packedRows", "()V"⟩
theorem cw_M_packedRows : Cond.code y_M_packedRows b_M_packedRows 8 none ∈ lw_g := lg_in9 (List.mem_of_getElem? (i := 133) rfl) rfl
abbrev b_M_read : ByteArray := prog_14_method_46_code
def y_M_read : MethodName := ⟨R_M, "read", "(I)I"⟩
abbrev b_M_put : ByteArray := prog_14_method_47_code
def y_M_put : MethodName := ⟨R_M, "put", "(I)V"⟩
theorem cw_M_put : Cond.code y_M_put b_M_put 2 none ∈ lw_g := lg_in9 (List.mem_of_getElem? (i := 149) rfl) rfl
abbrev b_M_putBig : ByteArray := prog_14_method_48_code
def y_M_putBig : MethodName := ⟨R_M, "putBig", "(J)V"⟩
theorem cw_M_putBig : Cond.code y_M_putBig b_M_putBig 4 none ∈ lw_g := lg_in9 (List.mem_of_getElem? (i := 157) rfl) rfl
abbrev b_M_putLittle : ByteArray := prog_14_method_49_code
def y_M_putLittle : MethodName := ⟨R_M, "putLittle", "(II)V"⟩
theorem cw_M_putLittle : Cond.code y_M_putLittle b_M_putLittle 4 none ∈ lw_g := lg_in9 (List.mem_of_getElem? (i := 161) rfl) rfl
abbrev b_M_putBits : ByteArray := prog_14_method_50_code
def y_M_putBits : MethodName := ⟨R_M, "putBits", "(II)V"⟩
theorem cw_M_putBits : Cond.code y_M_putBits b_M_putBits 4 none ∈ lw_g := lg_in9 (List.mem_of_getElem? (i := 181) rfl) rfl
abbrev b_M_flush : ByteArray := prog_14_method_51_code
def y_M_flush : MethodName := ⟨R_M, "flush", "()V"⟩
theorem cw_M_flush : Cond.code y_M_flush b_M_flush 1 none ∈ lw_g := lg_in9 (List.mem_of_getElem? (i := 185) rfl) rfl
abbrev b_M_putCode : ByteArray := prog_14_method_52_code
def y_M_putCode : MethodName := ⟨R_M, "putCode", "(II)V"⟩
theorem cw_M_putCode : Cond.code y_M_putCode b_M_putCode 4 none ∈ lw_g := lg_in9 (List.mem_of_getElem? (i := 204) rfl) rfl
abbrev b_M_putLiteral : ByteArray := prog_14_method_53_code
def y_M_putLiteral : MethodName := ⟨R_M, "putLiteral", "(I)V"⟩
theorem cw_M_putLiteral : Cond.code y_M_putLiteral b_M_putLiteral 2 none ∈ lw_g := lg_in9 (List.mem_of_getElem? (i := 200) rfl) rfl
abbrev b_M_putCopy : ByteArray := prog_14_method_54_code
def y_M_putCopy : MethodName := ⟨R_M, "putCopy", "(II)V"⟩
theorem cw_M_putCopy : Cond.code y_M_putCopy b_M_putCopy 7 none ∈ lw_g := lg_in9 (List.mem_of_getElem? (i := 196) rfl) rfl
abbrev b_M_mark : ByteArray := prog_14_method_55_code
def y_M_mark : MethodName := ⟨R_M, "mark", "(I)I"⟩
theorem cw_M_mark : Cond.code y_M_mark b_M_mark 2 (some .int) ∈ lw_g := lg_in9 (List.mem_of_getElem? (i := 189) rfl) rfl
abbrev b_M_deflate : ByteArray := prog_14_method_56_code
def y_M_deflate : MethodName := ⟨R_M, "deflate", "()V"⟩
theorem cw_M_deflate : Cond.code y_M_deflate b_M_deflate 8 none ∈ lw_g := lg_in9 (List.mem_of_getElem? (i := 177) rfl) rfl
abbrev b_M_byteOf : ByteArray := prog_14_method_57_code
def y_M_byteOf : MethodName := ⟨R_M, "byteOf", "([III)I"⟩
theorem cw_M_byteOf : Cond.code y_M_byteOf b_M_byteOf 4 (some .int) ∈ lw_g := lg_in9 (List.mem_of_getElem? (i := 173) rfl) rfl
abbrev b_M_filtered : ByteArray := prog_14_method_58_code
def y_M_filtered : MethodName := ⟨R_M, "filtered", "([IIIII)I"⟩
theorem cw_M_filtered : Cond.code y_M_filtered b_M_filtered 13 (some .int) ∈ lw_g := lg_in9 (List.mem_of_getElem? (i := 169) rfl) rfl
abbrev b_M_part : ByteArray := prog_14_method_59_code
def y_M_part : MethodName := ⟨R_M, "part", "(II)V"⟩
theorem cw_M_part : Cond.code y_M_part b_M_part 5 none ∈ lw_g := lg_in9 (List.mem_of_getElem? (i := 165) rfl) rfl
abbrev b_M_open : ByteArray := prog_14_method_60_code
def y_M_open : MethodName := ⟨R_M, "open", "(Ljava/lang/String;)I"⟩
theorem cw_M_open : Cond.code y_M_open b_M_open 3 (some .int) ∈ lw_g := lg_in9 (List.mem_of_getElem? (i := 153) rfl) rfl
abbrev b_M_writePng : ByteArray := prog_14_method_61_code
def y_M_writePng : MethodName := ⟨R_M, "writePng", "(II)V"⟩
theorem cw_M_writePng : Cond.code y_M_writePng b_M_writePng 11 none ∈ lw_g := lg_in9 (List.mem_of_getElem? (i := 145) rfl) rfl
abbrev b_M_collect : ByteArray := prog_14_method_62_code
def y_M_collect : MethodName := ⟨R_M, "collect", "(IZ)V"⟩
theorem cw_M_collect : Cond.code y_M_collect b_M_collect 7 none ∈ lw_g := lg_in9 (List.mem_of_getElem? (i := 212) rfl) rfl
abbrev b_M_writeGif : ByteArray := prog_14_method_63_code
def y_M_writeGif : MethodName := ⟨R_M, "writeGif", "(II)V"⟩
theorem cw_M_writeGif : Cond.code y_M_writeGif b_M_writeGif 15 none ∈ lw_g := lg_in9 (List.mem_of_getElem? (i := 208) rfl) rfl
abbrev b_M_begin : ByteArray := prog_14_method_64_code
def y_M_begin : MethodName := ⟨R_M, "begin", "(I)V"⟩
theorem cw_M_begin : Cond.code y_M_begin b_M_begin 2 none ∈ lw_g := lg_in9 (List.mem_of_getElem? (i := 221) rfl) rfl
abbrev b_M_emit : ByteArray := prog_14_method_65_code
def y_M_emit : MethodName := ⟨R_M, "emit", "(I)V"⟩
theorem cw_M_emit : Cond.code y_M_emit b_M_emit 2 none ∈ lw_g := lg_in9 (List.mem_of_getElem? (i := 225) rfl) rfl
abbrev b_M_pack : ByteArray := prog_14_method_66_code
def y_M_pack : MethodName := ⟨R_M, "pack", "(II)V"⟩
theorem cw_M_pack : Cond.code y_M_pack b_M_pack 10 none ∈ lw_g := lg_in9 (List.mem_of_getElem? (i := 217) rfl) rfl
abbrev b_M_writeBmp : ByteArray := prog_14_method_67_code
def y_M_writeBmp : MethodName := ⟨R_M, "writeBmp", "(II)V"⟩
theorem cw_M_writeBmp : Cond.code y_M_writeBmp b_M_writeBmp 9 none ∈ lw_g := lg_in9 (List.mem_of_getElem? (i := 229) rfl) rfl
abbrev b_M_write : ByteArray := prog_14_method_68_code
def y_M_write : MethodName := ⟨R_M, "write", "(III)I"⟩
abbrev b_M_make : ByteArray := prog_14_method_69_code
def y_M_make : MethodName := ⟨R_M, "make", "(IIII)V"⟩
theorem cw_M_make : Cond.code y_M_make b_M_make 6 none ∈ lw_g := lg_in9 (List.mem_of_getElem? (i := 233) rfl) rfl
abbrev b_M_place : ByteArray := prog_14_method_70_code
def y_M_place : MethodName := ⟨R_M, "place", "(III)I"⟩
theorem cw_M_place : Cond.code y_M_place b_M_place 4 (some .int) ∈ lw_g := lg_in10 (List.mem_of_getElem? (i := 1) rfl) rfl
abbrev b_M_set : ByteArray := prog_14_method_71_code
def y_M_set : MethodName := ⟨R_M, "set", "(IIII)I"⟩
theorem cw_M_set : Cond.code y_M_set b_M_set 7 (some .int) ∈ lw_g := lg_in9 (List.mem_of_getElem? (i := 237) rfl) rfl
abbrev b_M_get : ByteArray := prog_14_method_72_code
def y_M_get : MethodName := ⟨R_M, "get", "(III)I"⟩
theorem cw_M_get : Cond.code y_M_get b_M_get 5 (some .int) ∈ lw_g := lg_in10 (List.mem_of_getElem? (i := 5) rfl) rfl
abbrev b_M_paint : ByteArray := prog_14_method_73_code
def y_M_paint : MethodName := ⟨R_M, "paint", "(IIII)V"⟩
theorem cw_M_paint : Cond.code y_M_paint b_M_paint 6 none ∈ lw_g := lg_in10 (List.mem_of_getElem? (i := 9) rfl) rfl
abbrev b_M_hash : ByteArray := prog_14_method_74_code
def y_M_hash : MethodName := ⟨R_M, "hash", "(I)I"⟩
theorem cw_M_hash : Cond.code y_M_hash b_M_hash 4 (some .int) ∈ lw_g := lg_in10 (List.mem_of_getElem? (i := 14) rfl) rfl
abbrev b_M_size : ByteArray := prog_14_method_75_code
def y_M_size : MethodName := ⟨R_M, "size", "(II)I"⟩
theorem cw_M_size : Cond.code y_M_size b_M_size 3 (some .int) ∈ lw_g := lg_in10 (List.mem_of_getElem? (i := 18) rfl) rfl
abbrev b_M_feed : ByteArray := prog_14_method_76_code
def y_M_feed : MethodName := ⟨R_M, "feed", "(IIIII)I"⟩
theorem cw_M_feed : Cond.code y_M_feed b_M_feed 8 (some .int) ∈ lw_g := lg_in10 (List.mem_of_getElem? (i := 22) rfl) rfl
abbrev b_M_end : ByteArray := prog_14_method_77_code
def y_M_end : MethodName := ⟨R_M, "end", "(I)I"⟩
theorem cw_M_end : Cond.code y_M_end b_M_end 2 (some .int) ∈ lw_g := lg_in10 (List.mem_of_getElem? (i := 26) rfl) rfl
abbrev b_M_again : ByteArray := prog_14_method_78_code
def y_M_again : MethodName := ⟨R_M, "again", "()I"⟩
theorem cw_M_again : Cond.code y_M_again b_M_again 2 (some .int) ∈ lw_g := lg_in10 (List.mem_of_getElem? (i := 30) rfl) rfl
abbrev b_M_patch : ByteArray := prog_14_method_79_code
def y_M_patch : MethodName := ⟨R_M, "patch", "(III)V"⟩
theorem cw_M_patch : Cond.code y_M_patch b_M_patch 5 none ∈ lw_g := lg_in10 (List.mem_of_getElem? (i := 34) rfl) rfl
abbrev b_M_word : ByteArray := prog_14_method_80_code
def y_M_word : MethodName := ⟨R_M, "word", "(I)J"⟩
theorem cw_M_word : Cond.code y_M_word b_M_word 5 (some .long) ∈ lw_g := lg_in10 (List.mem_of_getElem? (i := 38) rfl) rfl
abbrev b_M_count : ByteArray := prog_14_method_81_code
def y_M_count : MethodName := ⟨R_M, "count", "(I)I"⟩
theorem cw_M_count : Cond.code y_M_count b_M_count 4 (some .int) ∈ lw_g := lg_in10 (List.mem_of_getElem? (i := 42) rfl) rfl
abbrev b_BmpFiles_init : ByteArray := prog_2_method_1_code
def y_BmpFiles_init : MethodName := ⟨R_BmpFiles, "<init>", "(LPictureDesk$Source;LPictureDesk$ColourTable;)V"⟩
theorem cw_BmpFiles_init : Cond.code y_BmpFiles_init b_BmpFiles_init 3 none ∈ lw_g := lg_in2 (List.mem_of_getElem? (i := 124) rfl) rfl
abbrev b_BmpFiles_decode : ByteArray := prog_2_method_2_code
def y_BmpFiles_decode : MethodName := ⟨R_BmpFiles, "decode", "(LPictureDesk$Picture;)V"⟩
theorem cw_BmpFiles_decode : Cond.code y_BmpFiles_decode b_BmpFiles_decode 2 none ∈ lw_g := lg_in6 (List.mem_of_getElem? (i := 17) rfl) rfl
abbrev b_BmpFiles_takeHead : ByteArray := prog_2_method_3_code
def y_BmpFiles_takeHead : MethodName := ⟨R_BmpFiles, "takeHead", "(LPictureDesk$Picture;)V"⟩
theorem cw_BmpFiles_takeHead : Cond.code y_BmpFiles_takeHead b_BmpFiles_takeHead 9 none ∈ lw_g := lg_in6 (List.mem_of_getElem? (i := 21) rfl) rfl
abbrev b_BmpFiles_takeColours : ByteArray := prog_2_method_4_code
def y_BmpFiles_takeColours : MethodName := ⟨R_BmpFiles, "takeColours", "()V"⟩
theorem cw_BmpFiles_takeColours : Cond.code y_BmpFiles_takeColours b_BmpFiles_takeColours 2 none ∈ lw_g := lg_in6 (List.mem_of_getElem? (i := 36) rfl) rfl
abbrev b_BmpFiles_takeColour : ByteArray := prog_2_method_5_code
def y_BmpFiles_takeColour : MethodName := ⟨R_BmpFiles, "takeColour", "()I"⟩
theorem cw_BmpFiles_takeColour : Cond.code y_BmpFiles_takeColour b_BmpFiles_takeColour 3 (some .int) ∈ lw_g := lg_in6 (List.mem_of_getElem? (i := 40) rfl) rfl
abbrev b_BmpFiles_colourOf : ByteArray := prog_2_method_6_code
def y_BmpFiles_colourOf : MethodName := ⟨R_BmpFiles, "colourOf", "(I)I"⟩
theorem cw_BmpFiles_colourOf : Cond.code y_BmpFiles_colourOf b_BmpFiles_colourOf 2 (some .int) ∈ lw_g := lg_in6 (List.mem_of_getElem? (i := 53) rfl) rfl
abbrev b_BmpFiles_takeRows : ByteArray := prog_2_method_7_code
def y_BmpFiles_takeRows : MethodName := ⟨R_BmpFiles, "takeRows", "(LPictureDesk$Picture;)V"⟩
theorem cw_BmpFiles_takeRows : Cond.code y_BmpFiles_takeRows b_BmpFiles_takeRows 6 none ∈ lw_g := lg_in6 (List.mem_of_getElem? (i := 75) rfl) rfl
abbrev b_BmpFiles_takeIndices : ByteArray := prog_2_method_8_code
def y_BmpFiles_takeIndices : MethodName := ⟨R_BmpFiles, "takeIndices", "(LPictureDesk$Picture;I)V"⟩
theorem cw_BmpFiles_takeIndices : Cond.code y_BmpFiles_takeIndices b_BmpFiles_takeIndices 7 none ∈ lw_g := lg_in6 (List.mem_of_getElem? (i := 79) rfl) rfl
abbrev b_BmpFiles_takePoints : ByteArray := prog_2_method_9_code
def y_BmpFiles_takePoints : MethodName := ⟨R_BmpFiles, "takePoints", "(LPictureDesk$Picture;I)V"⟩
theorem cw_BmpFiles_takePoints : Cond.code y_BmpFiles_takePoints b_BmpFiles_takePoints 4 none ∈ lw_g := lg_in6 (List.mem_of_getElem? (i := 83) rfl) rfl
abbrev b_BmpFiles_takeRuns : ByteArray := prog_2_method_10_code
def y_BmpFiles_takeRuns : MethodName := ⟨R_BmpFiles, "takeRuns", "(LPictureDesk$Picture;)V"⟩
theorem cw_BmpFiles_takeRuns : Cond.code y_BmpFiles_takeRuns b_BmpFiles_takeRuns 6 none ∈ lw_g := lg_in6 (List.mem_of_getElem? (i := 48) rfl) rfl
abbrev b_BmpFiles_takeRun : ByteArray := prog_2_method_11_code
def y_BmpFiles_takeRun : MethodName := ⟨R_BmpFiles, "takeRun", "(LPictureDesk$Picture;II)V"⟩
theorem cw_BmpFiles_takeRun : Cond.code y_BmpFiles_takeRun b_BmpFiles_takeRun 5 none ∈ lw_g := lg_in6 (List.mem_of_getElem? (i := 59) rfl) rfl
abbrev b_BmpFiles_takeSingles : ByteArray := prog_2_method_12_code
def y_BmpFiles_takeSingles : MethodName := ⟨R_BmpFiles, "takeSingles", "(LPictureDesk$Picture;I)V"⟩
theorem cw_BmpFiles_takeSingles : Cond.code y_BmpFiles_takeSingles b_BmpFiles_takeSingles 5 none ∈ lw_g := lg_in6 (List.mem_of_getElem? (i := 67) rfl) rfl
abbrev b_BmpFiles_placeFor : ByteArray := prog_2_method_13_code
def y_BmpFiles_placeFor : MethodName := ⟨R_BmpFiles, "placeFor", "(LPictureDesk$Picture;I)I"⟩
theorem cw_BmpFiles_placeFor : Cond.code y_BmpFiles_placeFor b_BmpFiles_placeFor 3 (some .int) ∈ lw_g := lg_in6 (List.mem_of_getElem? (i := 63) rfl) rfl
abbrev b_BmpFiles_takeMove : ByteArray := prog_2_method_14_code
def y_BmpFiles_takeMove : MethodName := ⟨R_BmpFiles, "takeMove", "(LPictureDesk$Picture;Z)V"⟩
theorem cw_BmpFiles_takeMove : Cond.code y_BmpFiles_takeMove b_BmpFiles_takeMove 3 none ∈ lw_g := lg_in6 (List.mem_of_getElem? (i := 71) rfl) rfl
abbrev b_BmpFiles_encodePlain : ByteArray := prog_2_method_15_code
def y_BmpFiles_encodePlain : MethodName := ⟨R_BmpFiles, "encodePlain", "(LPictureDesk$Picture;LPictureDesk$Sink;)V"⟩
theorem cw_BmpFiles_encodePlain : Cond.code y_BmpFiles_encodePlain b_BmpFiles_encodePlain 6 none ∈ lw_g := lg_in7 (List.mem_of_getElem? (i := 114) rfl) rfl
abbrev b_BmpFiles_encodeRuns : ByteArray := prog_2_method_16_code
def y_BmpFiles_encodeRuns : MethodName := ⟨R_BmpFiles, "encodeRuns", "(LPictureDesk$Picture;LPictureDesk$Sink;)V"⟩
theorem cw_BmpFiles_encodeRuns : Cond.code y_BmpFiles_encodeRuns b_BmpFiles_encodeRuns 5 none ∈ lw_g := lg_in7 (List.mem_of_getElem? (i := 139) rfl) rfl
abbrev b_BmpFiles_putRuns : ByteArray := prog_2_method_17_code
def y_BmpFiles_putRuns : MethodName := ⟨R_BmpFiles, "putRuns", "(IILPictureDesk$Sink;)V"⟩
theorem cw_BmpFiles_putRuns : Cond.code y_BmpFiles_putRuns b_BmpFiles_putRuns 8 none ∈ lw_g := lg_in7 (List.mem_of_getElem? (i := 147) rfl) rfl
abbrev b_BmpFiles_putHead : ByteArray := prog_2_method_18_code
def y_BmpFiles_putHead : MethodName := ⟨R_BmpFiles, "putHead", "(LPictureDesk$Picture;IILPictureDesk$Sink;)V"⟩
theorem cw_BmpFiles_putHead : Cond.code y_BmpFiles_putHead b_BmpFiles_putHead 4 none ∈ lw_g := lg_in7 (List.mem_of_getElem? (i := 117) rfl) rfl
abbrev b_BmpFiles_putColour : ByteArray := prog_2_method_19_code
def y_BmpFiles_putColour : MethodName := ⟨R_BmpFiles, "putColour", "(ILPictureDesk$Sink;)V"⟩
theorem cw_BmpFiles_putColour : Cond.code y_BmpFiles_putColour b_BmpFiles_putColour 2 none ∈ lw_g := lg_in7 (List.mem_of_getElem? (i := 129) rfl) rfl
abbrev b_Codes_init : ByteArray := prog_3_method_1_code
def y_Codes_init : MethodName := ⟨R_Codes, "<init>", "(I)V"⟩
theorem cw_Codes_init : Cond.code y_Codes_init b_Codes_init 2 none ∈ lw_g := lg_in1 (List.mem_of_getElem? (i := 166) rfl) rfl
abbrev b_Codes_lay : ByteArray := prog_3_method_2_code
def y_Codes_lay : MethodName := ⟨R_Codes, "lay", "([III)V"⟩
theorem cw_Codes_lay : Cond.code y_Codes_lay b_Codes_lay 7 none ∈ lw_g := lg_in5 (List.mem_of_getElem? (i := 91) rfl) rfl
abbrev b_Codes_usesAllWords : ByteArray := prog_3_method_3_code
def y_Codes_usesAllWords : MethodName := ⟨R_Codes, "usesAllWords", "()Z"⟩
theorem cw_Codes_usesAllWords : Cond.code y_Codes_usesAllWords b_Codes_usesAllWords 1 (some .boolean) ∈ lw_g := lg_in5 (List.mem_of_getElem? (i := 105) rfl) rfl
abbrev b_Codes_servesDistances : ByteArray := prog_3_method_4_code
def y_Codes_servesDistances : MethodName := ⟨R_Codes, "servesDistances", "()Z"⟩
theorem cw_Codes_servesDistances : Cond.code y_Codes_servesDistances b_Codes_servesDistances 1 (some .boolean) ∈ lw_g := lg_in5 (List.mem_of_getElem? (i := 121) rfl) rfl
abbrev b_Codes_take : ByteArray := prog_3_method_5_code
def y_Codes_take : MethodName := ⟨R_Codes, "take", "(LPictureDesk$Source;)I"⟩
theorem cw_Codes_take : Cond.code y_Codes_take b_Codes_take 7 (some .int) ∈ lw_g := lg_in5 (List.mem_of_getElem? (i := 113) rfl) rfl
abbrev b_ColourTable_init : ByteArray := prog_4_method_1_code
def y_ColourTable_init : MethodName := ⟨R_ColourTable, "<init>", "()V"⟩
theorem cw_ColourTable_init : Cond.code y_ColourTable_init b_ColourTable_init 1 none ∈ lw_g := lg_in1 (List.mem_of_getElem? (i := 132) rfl) rfl
abbrev b_ColourTable_restart : ByteArray := prog_4_method_2_code
def y_ColourTable_restart : MethodName := ⟨R_ColourTable, "restart", "()V"⟩
theorem cw_ColourTable_restart : Cond.code y_ColourTable_restart b_ColourTable_restart 1 none ∈ lw_g := lg_in7 (List.mem_of_getElem? (i := 0) rfl) rfl
abbrev b_ColourTable_colours : ByteArray := prog_4_method_3_code
def y_ColourTable_colours : MethodName := ⟨R_ColourTable, "colours", "()I"⟩
theorem cw_ColourTable_colours : Cond.code y_ColourTable_colours b_ColourTable_colours 1 (some .int) ∈ lw_g := lg_in7 (List.mem_of_getElem? (i := 14) rfl) rfl
abbrev b_ColourTable_indexOfTransparent : ByteArray := prog_4_method_4_code
def y_ColourTable_indexOfTransparent : MethodName := ⟨R_ColourTable, "indexOfTransparent", "()I"⟩
theorem cw_ColourTable_indexOfTransparent : Cond.code y_ColourTable_indexOfTransparent b_ColourTable_indexOfTransparent 1 (some .int) ∈ lw_g := lg_in7 (List.mem_of_getElem? (i := 67) rfl) rfl
abbrev b_ColourTable_colourOrZero : ByteArray := prog_4_method_5_code
def y_ColourTable_colourOrZero : MethodName := ⟨R_ColourTable, "colourOrZero", "(I)I"⟩
theorem cw_ColourTable_colourOrZero : Cond.code y_ColourTable_colourOrZero b_ColourTable_colourOrZero 2 (some .int) ∈ lw_g := lg_in7 (List.mem_of_getElem? (i := 58) rfl) rfl
abbrev b_ColourTable_indexAt : ByteArray := prog_4_method_6_code
def y_ColourTable_indexAt : MethodName := ⟨R_ColourTable, "indexAt", "(I)I"⟩
theorem cw_ColourTable_indexAt : Cond.code y_ColourTable_indexAt b_ColourTable_indexAt 2 (some .int) ∈ lw_g := lg_in7 (List.mem_of_getElem? (i := 76) rfl) rfl
abbrev b_ColourTable_lay : ByteArray := prog_4_method_7_code
def y_ColourTable_lay : MethodName := ⟨R_ColourTable, "lay", "(II)V"⟩
theorem cw_ColourTable_lay : Cond.code y_ColourTable_lay b_ColourTable_lay 5 none ∈ lw_g := lg_in7 (List.mem_of_getElem? (i := 6) rfl) rfl
abbrev b_GifReader_init : ByteArray := prog_5_method_1_code
def y_GifReader_init : MethodName := ⟨R_GifReader, "<init>", "(LPictureDesk$Source;LPictureDesk$Source;)V"⟩
theorem cw_GifReader_init : Cond.code y_GifReader_init b_GifReader_init 3 none ∈ lw_g := lg_in2 (List.mem_of_getElem? (i := 41) rfl) rfl
abbrev b_GifReader_decode : ByteArray := prog_5_method_2_code
def y_GifReader_decode : MethodName := ⟨R_GifReader, "decode", "(LPictureDesk$Picture;)V"⟩
theorem cw_GifReader_decode : Cond.code y_GifReader_decode b_GifReader_decode 6 none ∈ lw_g := lg_in5 (List.mem_of_getElem? (i := 193) rfl) rfl
abbrev b_GifReader_takeHead : ByteArray := prog_5_method_3_code
def y_GifReader_takeHead : MethodName := ⟨R_GifReader, "takeHead", "(LPictureDesk$Picture;)V"⟩
theorem cw_GifReader_takeHead : Cond.code y_GifReader_takeHead b_GifReader_takeHead 6 none ∈ lw_g := lg_in5 (List.mem_of_getElem? (i := 197) rfl) rfl
abbrev b_GifReader_takeTable : ByteArray := prog_5_method_4_code
def y_GifReader_takeTable : MethodName := ⟨R_GifReader, "takeTable", "(I)V"⟩
theorem cw_GifReader_takeTable : Cond.code y_GifReader_takeTable b_GifReader_takeTable 4 none ∈ lw_g := lg_in5 (List.mem_of_getElem? (i := 206) rfl) rfl
abbrev b_GifReader_takeExtension : ByteArray := prog_5_method_5_code
def y_GifReader_takeExtension : MethodName := ⟨R_GifReader, "takeExtension", "()V"⟩
theorem cw_GifReader_takeExtension : Cond.code y_GifReader_takeExtension b_GifReader_takeExtension 3 none ∈ lw_g := lg_in6 (List.mem_of_getElem? (i := 12) rfl) rfl
abbrev b_GifReader_takeSubs : ByteArray := prog_5_method_6_code
def y_GifReader_takeSubs : MethodName := ⟨R_GifReader, "takeSubs", "()V"⟩
theorem cw_GifReader_takeSubs : Cond.code y_GifReader_takeSubs b_GifReader_takeSubs 3 none ∈ lw_g := lg_in5 (List.mem_of_getElem? (i := 221) rfl) rfl
abbrev b_GifReader_takeImage : ByteArray := prog_5_method_7_code
def y_GifReader_takeImage : MethodName := ⟨R_GifReader, "takeImage", "(LPictureDesk$Picture;Z)V"⟩
theorem cw_GifReader_takeImage : Cond.code y_GifReader_takeImage b_GifReader_takeImage 10 none ∈ lw_g := lg_in5 (List.mem_of_getElem? (i := 217) rfl) rfl
abbrev b_GifReader_layRow : ByteArray := prog_5_method_8_code
def y_GifReader_layRow : MethodName := ⟨R_GifReader, "layRow", "([IIII)V"⟩
theorem cw_GifReader_layRow : Cond.code y_GifReader_layRow b_GifReader_layRow 7 none ∈ lw_g := lg_in6 (List.mem_of_getElem? (i := 8) rfl) rfl
abbrev b_GifReader_layRowOrder : ByteArray := prog_5_method_9_code
def y_GifReader_layRowOrder : MethodName := ⟨R_GifReader, "layRowOrder", "([IIZ)V"⟩
theorem cw_GifReader_layRowOrder : Cond.code y_GifReader_layRowOrder b_GifReader_layRowOrder 6 none ∈ lw_g := lg_in6 (List.mem_of_getElem? (i := 4) rfl) rfl
abbrev b_GifReader_unpack : ByteArray := prog_5_method_10_code
def y_GifReader_unpack : MethodName := ⟨R_GifReader, "unpack", "(II)V"⟩
theorem cw_GifReader_unpack : Cond.code y_GifReader_unpack b_GifReader_unpack 9 none ∈ lw_g := lg_in5 (List.mem_of_getElem? (i := 228) rfl) rfl
abbrev b_GifReader_unpackIndex : ByteArray := prog_5_method_11_code
def y_GifReader_unpackIndex : MethodName := ⟨R_GifReader, "unpackIndex", "(II)I"⟩
theorem cw_GifReader_unpackIndex : Cond.code y_GifReader_unpackIndex b_GifReader_unpackIndex 3 (some .int) ∈ lw_g := lg_in5 (List.mem_of_getElem? (i := 234) rfl) rfl
abbrev b_GifReader_unpackRow : ByteArray := prog_5_method_12_code
def y_GifReader_unpackRow : MethodName := ⟨R_GifReader, "unpackRow", "(II)I"⟩
theorem cw_GifReader_unpackRow : Cond.code y_GifReader_unpackRow b_GifReader_unpackRow 6 (some .int) ∈ lw_g := lg_in5 (List.mem_of_getElem? (i := 238) rfl) rfl
abbrev b_GifWriter_init : ByteArray := prog_6_method_1_code
def y_GifWriter_init : MethodName := ⟨R_GifWriter, "<init>", "(LPictureDesk$ColourTable;)V"⟩
theorem cw_GifWriter_init : Cond.code y_GifWriter_init b_GifWriter_init 2 none ∈ lw_g := lg_in2 (List.mem_of_getElem? (i := 78) rfl) rfl
abbrev b_GifWriter_encode : ByteArray := prog_6_method_2_code
def y_GifWriter_encode : MethodName := ⟨R_GifWriter, "encode", "(LPictureDesk$Picture;ZLPictureDesk$Sink;)V"⟩
theorem cw_GifWriter_encode : Cond.code y_GifWriter_encode b_GifWriter_encode 6 none ∈ lw_g := lg_in6 (List.mem_of_getElem? (i := 236) rfl) rfl
abbrev b_GifWriter_putHead : ByteArray := prog_6_method_3_code
def y_GifWriter_putHead : MethodName := ⟨R_GifWriter, "putHead", "(LPictureDesk$Picture;ILPictureDesk$Sink;)V"⟩
theorem cw_GifWriter_putHead : Cond.code y_GifWriter_putHead b_GifWriter_putHead 6 none ∈ lw_g := lg_in7 (List.mem_of_getElem? (i := 18) rfl) rfl
abbrev b_GifWriter_putTransparency : ByteArray := prog_6_method_4_code
def y_GifWriter_putTransparency : MethodName := ⟨R_GifWriter, "putTransparency", "(LPictureDesk$Sink;)V"⟩
theorem cw_GifWriter_putTransparency : Cond.code y_GifWriter_putTransparency b_GifWriter_putTransparency 3 none ∈ lw_g := lg_in7 (List.mem_of_getElem? (i := 63) rfl) rfl
abbrev b_GifWriter_layIndices : ByteArray := prog_6_method_5_code
def y_GifWriter_layIndices : MethodName := ⟨R_GifWriter, "layIndices", "(LPictureDesk$Picture;Z)V"⟩
theorem cw_GifWriter_layIndices : Cond.code y_GifWriter_layIndices b_GifWriter_layIndices 7 none ∈ lw_g := lg_in7 (List.mem_of_getElem? (i := 71) rfl) rfl
abbrev b_GifWriter_pack : ByteArray := prog_6_method_6_code
def y_GifWriter_pack : MethodName := ⟨R_GifWriter, "pack", "(I)V"⟩
theorem cw_GifWriter_pack : Cond.code y_GifWriter_pack b_GifWriter_pack 6 none ∈ lw_g := lg_in7 (List.mem_of_getElem? (i := 80) rfl) rfl
abbrev b_GifWriter_putBeginning : ByteArray := prog_6_method_7_code
def y_GifWriter_putBeginning : MethodName := ⟨R_GifWriter, "putBeginning", "()V"⟩
theorem cw_GifWriter_putBeginning : Cond.code y_GifWriter_putBeginning b_GifWriter_putBeginning 1 none ∈ lw_g := lg_in7 (List.mem_of_getElem? (i := 85) rfl) rfl
abbrev b_GifWriter_putCode : ByteArray := prog_6_method_8_code
def y_GifWriter_putCode : MethodName := ⟨R_GifWriter, "putCode", "(I)V"⟩
theorem cw_GifWriter_putCode : Cond.code y_GifWriter_putCode b_GifWriter_putCode 2 none ∈ lw_g := lg_in7 (List.mem_of_getElem? (i := 95) rfl) rfl
abbrev b_GifWriter_longerRow : ByteArray := prog_6_method_9_code
def y_GifWriter_longerRow : MethodName := ⟨R_GifWriter, "longerRow", "(II)I"⟩
theorem cw_GifWriter_longerRow : Cond.code y_GifWriter_longerRow b_GifWriter_longerRow 5 (some .int) ∈ lw_g := lg_in7 (List.mem_of_getElem? (i := 91) rfl) rfl
abbrev b_GifWriter_addRow : ByteArray := prog_6_method_10_code
def y_GifWriter_addRow : MethodName := ⟨R_GifWriter, "addRow", "(II)Z"⟩
theorem cw_GifWriter_addRow : Cond.code y_GifWriter_addRow b_GifWriter_addRow 3 (some .boolean) ∈ lw_g := lg_in7 (List.mem_of_getElem? (i := 99) rfl) rfl
abbrev b_GifWriter_putSubs : ByteArray := prog_6_method_11_code
def y_GifWriter_putSubs : MethodName := ⟨R_GifWriter, "putSubs", "(LPictureDesk$Sink;)V"⟩
theorem cw_GifWriter_putSubs : Cond.code y_GifWriter_putSubs b_GifWriter_putSubs 6 none ∈ lw_g := lg_in7 (List.mem_of_getElem? (i := 104) rfl) rfl
abbrev b_Inflater_init : ByteArray := prog_7_method_1_code
def y_Inflater_init : MethodName := ⟨R_Inflater, "<init>", "(LPictureDesk$Source;[B)V"⟩
theorem cw_Inflater_init : Cond.code y_Inflater_init b_Inflater_init 3 none ∈ lw_g := lg_in1 (List.mem_of_getElem? (i := 160) rfl) rfl
abbrev b_Inflater_unpack : ByteArray := prog_7_method_2_code
def y_Inflater_unpack : MethodName := ⟨R_Inflater, "unpack", "(I)V"⟩
theorem cw_Inflater_unpack : Cond.code y_Inflater_unpack b_Inflater_unpack 5 none ∈ lw_g := lg_in4 (List.mem_of_getElem? (i := 41) rfl) rfl
abbrev b_Inflater_takeHead : ByteArray := prog_7_method_3_code
def y_Inflater_takeHead : MethodName := ⟨R_Inflater, "takeHead", "()V"⟩
theorem cw_Inflater_takeHead : Cond.code y_Inflater_takeHead b_Inflater_takeHead 3 none ∈ lw_g := lg_in4 (List.mem_of_getElem? (i := 46) rfl) rfl
abbrev b_Inflater_takeStored : ByteArray := prog_7_method_4_code
def y_Inflater_takeStored : MethodName := ⟨R_Inflater, "takeStored", "()V"⟩
theorem cw_Inflater_takeStored : Cond.code y_Inflater_takeStored b_Inflater_takeStored 3 none ∈ lw_g := lg_in4 (List.mem_of_getElem? (i := 56) rfl) rfl
abbrev b_Inflater_layFixedCodes : ByteArray := prog_7_method_5_code
def y_Inflater_layFixedCodes : MethodName := ⟨R_Inflater, "layFixedCodes", "()V"⟩
theorem cw_Inflater_layFixedCodes : Cond.code y_Inflater_layFixedCodes b_Inflater_layFixedCodes 1 none ∈ lw_g := lg_in4 (List.mem_of_getElem? (i := 66) rfl) rfl
abbrev b_Inflater_takeCodes : ByteArray := prog_7_method_6_code
def y_Inflater_takeCodes : MethodName := ⟨R_Inflater, "takeCodes", "()V"⟩
theorem cw_Inflater_takeCodes : Cond.code y_Inflater_takeCodes b_Inflater_takeCodes 5 none ∈ lw_g := lg_in5 (List.mem_of_getElem? (i := 99) rfl) rfl
abbrev b_Inflater_takeLengths : ByteArray := prog_7_method_7_code
def y_Inflater_takeLengths : MethodName := ⟨R_Inflater, "takeLengths", "(I)V"⟩
theorem cw_Inflater_takeLengths : Cond.code y_Inflater_takeLengths b_Inflater_takeLengths 6 none ∈ lw_g := lg_in5 (List.mem_of_getElem? (i := 109) rfl) rfl
abbrev b_Inflater_takeCoded : ByteArray := prog_7_method_8_code
def y_Inflater_takeCoded : MethodName := ⟨R_Inflater, "takeCoded", "()V"⟩
theorem cw_Inflater_takeCoded : Cond.code y_Inflater_takeCoded b_Inflater_takeCoded 3 none ∈ lw_g := lg_in5 (List.mem_of_getElem? (i := 125) rfl) rfl
abbrev b_Inflater_takeCopy : ByteArray := prog_7_method_9_code
def y_Inflater_takeCopy : MethodName := ⟨R_Inflater, "takeCopy", "(I)V"⟩
theorem cw_Inflater_takeCopy : Cond.code y_Inflater_takeCopy b_Inflater_takeCopy 6 none ∈ lw_g := lg_in5 (List.mem_of_getElem? (i := 129) rfl) rfl
abbrev b_Picture_init : ByteArray := prog_8_method_1_code
def y_Picture_init : MethodName := ⟨R_Picture, "<init>", "()V"⟩
theorem cw_Picture_init : Cond.code y_Picture_init b_Picture_init 1 none ∈ lw_g := lg_in1 (List.mem_of_getElem? (i := 68) rfl) rfl
abbrev b_Picture_isHeld : ByteArray := prog_8_method_2_code
def y_Picture_isHeld : MethodName := ⟨R_Picture, "isHeld", "()Z"⟩
theorem cw_Picture_isHeld : Cond.code y_Picture_isHeld b_Picture_isHeld 1 (some .boolean) ∈ lw_g := lg_in6 (List.mem_of_getElem? (i := 99) rfl) rfl
abbrev b_Picture_total : ByteArray := prog_8_method_3_code
def y_Picture_total : MethodName := ⟨R_Picture, "total", "()I"⟩
theorem cw_Picture_total : Cond.code y_Picture_total b_Picture_total 1 (some .int) ∈ lw_g := lg_in5 (List.mem_of_getElem? (i := 211) rfl) rfl
abbrev b_Picture_contains : ByteArray := prog_8_method_4_code
def y_Picture_contains : MethodName := ⟨R_Picture, "contains", "(II)Z"⟩
theorem cw_Picture_contains : Cond.code y_Picture_contains b_Picture_contains 3 (some .boolean) ∈ lw_g := lg_in7 (List.mem_of_getElem? (i := 171) rfl) rfl
abbrev b_Picture_resize : ByteArray := prog_8_method_5_code
def y_Picture_resize : MethodName := ⟨R_Picture, "resize", "(JJ)V"⟩
theorem cw_Picture_resize : Cond.code y_Picture_resize b_Picture_resize 5 none ∈ lw_g := lg_in3 (List.mem_of_getElem? (i := 194) rfl) rfl
abbrev b_PngReader_init : ByteArray := prog_9_method_1_code
def y_PngReader_init : MethodName := ⟨R_PngReader, "<init>", "(LPictureDesk$Source;LPictureDesk$Source;[B)V"⟩
theorem cw_PngReader_init : Cond.code y_PngReader_init b_PngReader_init 4 none ∈ lw_g := lg_in1 (List.mem_of_getElem? (i := 154) rfl) rfl
abbrev b_PngReader_decode : ByteArray := prog_9_method_2_code
def y_PngReader_decode : MethodName := ⟨R_PngReader, "decode", "(LPictureDesk$Picture;)V"⟩
theorem cw_PngReader_decode : Cond.code y_PngReader_decode b_PngReader_decode 3 none ∈ lw_g := lg_in3 (List.mem_of_getElem? (i := 136) rfl) rfl
abbrev b_PngReader_takeHeader : ByteArray := prog_9_method_3_code
def y_PngReader_takeHeader : MethodName := ⟨R_PngReader, "takeHeader", "(LPictureDesk$Picture;)V"⟩
theorem cw_PngReader_takeHeader : Cond.code y_PngReader_takeHeader b_PngReader_takeHeader 5 none ∈ lw_g := lg_in3 (List.mem_of_getElem? (i := 150) rfl) rfl
abbrev b_PngReader_kindHasDepth : ByteArray := prog_9_method_4_code
def y_PngReader_kindHasDepth : MethodName := ⟨R_PngReader, "kindHasDepth", "()Z"⟩
theorem cw_PngReader_kindHasDepth : Cond.code y_PngReader_kindHasDepth b_PngReader_kindHasDepth 2 (some .boolean) ∈ lw_g := lg_in3 (List.mem_of_getElem? (i := 185) rfl) rfl
abbrev b_PngReader_openPart : ByteArray := prog_9_method_5_code
def y_PngReader_openPart : MethodName := ⟨R_PngReader, "openPart", "()I"⟩
theorem cw_PngReader_openPart : Cond.code y_PngReader_openPart b_PngReader_openPart 1 (some .int) ∈ lw_g := lg_in3 (List.mem_of_getElem? (i := 154) rfl) rfl
abbrev b_PngReader_closePart : ByteArray := prog_9_method_6_code
def y_PngReader_closePart : MethodName := ⟨R_PngReader, "closePart", "()V"⟩
theorem cw_PngReader_closePart : Cond.code y_PngReader_closePart b_PngReader_closePart 1 none ∈ lw_g := lg_in3 (List.mem_of_getElem? (i := 190) rfl) rfl
abbrev b_PngReader_takeParts : ByteArray := prog_9_method_7_code
def y_PngReader_takeParts : MethodName := ⟨R_PngReader, "takeParts", "()V"⟩
theorem cw_PngReader_takeParts : Cond.code y_PngReader_takeParts b_PngReader_takeParts 4 none ∈ lw_g := lg_in3 (List.mem_of_getElem? (i := 202) rfl) rfl
abbrev b_PngReader_takeData : ByteArray := prog_9_method_8_code
def y_PngReader_takeData : MethodName := ⟨R_PngReader, "takeData", "()V"⟩
theorem cw_PngReader_takeData : Cond.code y_PngReader_takeData b_PngReader_takeData 1 none ∈ lw_g := lg_in3 (List.mem_of_getElem? (i := 209) rfl) rfl
abbrev b_PngReader_takeOther : ByteArray := prog_9_method_9_code
def y_PngReader_takeOther : MethodName := ⟨R_PngReader, "takeOther", "(I)V"⟩
theorem cw_PngReader_takeOther : Cond.code y_PngReader_takeOther b_PngReader_takeOther 2 none ∈ lw_g := lg_in3 (List.mem_of_getElem? (i := 222) rfl) rfl
abbrev b_PngReader_isUncounted : ByteArray := prog_9_method_10_code
def y_PngReader_isUncounted : MethodName := ⟨R_PngReader, "isUncounted", "(I)Z"⟩
theorem cw_PngReader_isUncounted : Cond.code y_PngReader_isUncounted b_PngReader_isUncounted 3 (some .boolean) ∈ lw_g := lg_in3 (List.mem_of_getElem? (i := 235) rfl) rfl
abbrev b_PngReader_isSmallLetter : ByteArray := prog_9_method_11_code
def y_PngReader_isSmallLetter : MethodName := ⟨R_PngReader, "isSmallLetter", "(I)Z"⟩
theorem cw_PngReader_isSmallLetter : Cond.code y_PngReader_isSmallLetter b_PngReader_isSmallLetter 1 (some .boolean) ∈ lw_g := lg_in3 (List.mem_of_getElem? (i := 238) rfl) rfl
abbrev b_PngReader_takePalette : ByteArray := prog_9_method_12_code
def y_PngReader_takePalette : MethodName := ⟨R_PngReader, "takePalette", "()V"⟩
theorem cw_PngReader_takePalette : Cond.code y_PngReader_takePalette b_PngReader_takePalette 3 none ∈ lw_g := lg_in3 (List.mem_of_getElem? (i := 227) rfl) rfl
abbrev b_PngReader_takeTransparency : ByteArray := prog_9_method_13_code
def y_PngReader_takeTransparency : MethodName := ⟨R_PngReader, "takeTransparency", "()V"⟩
theorem cw_PngReader_takeTransparency : Cond.code y_PngReader_takeTransparency b_PngReader_takeTransparency 3 none ∈ lw_g := lg_in3 (List.mem_of_getElem? (i := 232) rfl) rfl
abbrev b_PngReader_bitsAPoint : ByteArray := prog_9_method_14_code
def y_PngReader_bitsAPoint : MethodName := ⟨R_PngReader, "bitsAPoint", "()I"⟩
theorem cw_PngReader_bitsAPoint : Cond.code y_PngReader_bitsAPoint b_PngReader_bitsAPoint 2 (some .int) ∈ lw_g := lg_in4 (List.mem_of_getElem? (i := 37) rfl) rfl
abbrev b_PngReader_rowBytes : ByteArray := prog_9_method_15_code
def y_PngReader_rowBytes : MethodName := ⟨R_PngReader, "rowBytes", "(I)I"⟩
theorem cw_PngReader_rowBytes : Cond.code y_PngReader_rowBytes b_PngReader_rowBytes 2 (some .int) ∈ lw_g := lg_in4 (List.mem_of_getElem? (i := 33) rfl) rfl
abbrev b_PngReader_passWidth : ByteArray := prog_9_method_16_code
def y_PngReader_passWidth : MethodName := ⟨R_PngReader, "passWidth", "(LPictureDesk$Picture;I)I"⟩
theorem cw_PngReader_passWidth : Cond.code y_PngReader_passWidth b_PngReader_passWidth 3 (some .int) ∈ lw_g := lg_in4 (List.mem_of_getElem? (i := 18) rfl) rfl
abbrev b_PngReader_passHeight : ByteArray := prog_9_method_17_code
def y_PngReader_passHeight : MethodName := ⟨R_PngReader, "passHeight", "(LPictureDesk$Picture;I)I"⟩
theorem cw_PngReader_passHeight : Cond.code y_PngReader_passHeight b_PngReader_passHeight 3 (some .int) ∈ lw_g := lg_in4 (List.mem_of_getElem? (i := 25) rfl) rfl
abbrev b_PngReader_passBytes : ByteArray := prog_9_method_18_code
def y_PngReader_passBytes : MethodName := ⟨R_PngReader, "passBytes", "(LPictureDesk$Picture;I)I"⟩
theorem cw_PngReader_passBytes : Cond.code y_PngReader_passBytes b_PngReader_passBytes 4 (some .int) ∈ lw_g := lg_in4 (List.mem_of_getElem? (i := 15) rfl) rfl
abbrev b_PngReader_rowBytesDue : ByteArray := prog_9_method_19_code
def y_PngReader_rowBytesDue : MethodName := ⟨R_PngReader, "rowBytesDue", "(LPictureDesk$Picture;)I"⟩
theorem cw_PngReader_rowBytesDue : Cond.code y_PngReader_rowBytesDue b_PngReader_rowBytesDue 4 (some .int) ∈ lw_g := lg_in4 (List.mem_of_getElem? (i := 11) rfl) rfl
abbrev b_PngReader_takePasses : ByteArray := prog_9_method_20_code
def y_PngReader_takePasses : MethodName := ⟨R_PngReader, "takePasses", "(LPictureDesk$Picture;)V"⟩
theorem cw_PngReader_takePasses : Cond.code y_PngReader_takePasses b_PngReader_takePasses 4 none ∈ lw_g := lg_in5 (List.mem_of_getElem? (i := 150) rfl) rfl
abbrev b_PngReader_takePass : ByteArray := prog_9_method_21_code
def y_PngReader_takePass : MethodName := ⟨R_PngReader, "takePass", "(LPictureDesk$Picture;II)I"⟩
theorem cw_PngReader_takePass : Cond.code y_PngReader_takePass b_PngReader_takePass 12 (some .int) ∈ lw_g := lg_in5 (List.mem_of_getElem? (i := 154) rfl) rfl
abbrev b_PngReader_unfilter : ByteArray := prog_9_method_22_code
def y_PngReader_unfilter : MethodName := ⟨R_PngReader, "unfilter", "(IIZ)V"⟩
theorem cw_PngReader_unfilter : Cond.code y_PngReader_unfilter b_PngReader_unfilter 12 none ∈ lw_g := lg_in5 (List.mem_of_getElem? (i := 158) rfl) rfl
abbrev b_PngReader_predicted : ByteArray := prog_9_method_23_code
def y_PngReader_predicted : MethodName := ⟨R_PngReader, "predicted", "(IIII)I"⟩
theorem cw_PngReader_predicted : Cond.code y_PngReader_predicted b_PngReader_predicted 4 (some .int) ∈ lw_g := lg_in5 (List.mem_of_getElem? (i := 162) rfl) rfl
abbrev b_PngReader_nearest : ByteArray := prog_9_method_24_code
def y_PngReader_nearest : MethodName := ⟨R_PngReader, "nearest", "(III)I"⟩
theorem cw_PngReader_nearest : Cond.code y_PngReader_nearest b_PngReader_nearest 6 (some .int) ∈ lw_g := lg_in5 (List.mem_of_getElem? (i := 165) rfl) rfl
abbrev b_PngReader_pointAt : ByteArray := prog_9_method_25_code
def y_PngReader_pointAt : MethodName := ⟨R_PngReader, "pointAt", "(II)I"⟩
theorem cw_PngReader_pointAt : Cond.code y_PngReader_pointAt b_PngReader_pointAt 5 (some .int) ∈ lw_g := lg_in5 (List.mem_of_getElem? (i := 172) rfl) rfl
abbrev b_PngReader_greyPoint : ByteArray := prog_9_method_26_code
def y_PngReader_greyPoint : MethodName := ⟨R_PngReader, "greyPoint", "(I)I"⟩
theorem cw_PngReader_greyPoint : Cond.code y_PngReader_greyPoint b_PngReader_greyPoint 3 (some .int) ∈ lw_g := lg_in5 (List.mem_of_getElem? (i := 180) rfl) rfl
abbrev b_PngReader_rgbPoint : ByteArray := prog_9_method_27_code
def y_PngReader_rgbPoint : MethodName := ⟨R_PngReader, "rgbPoint", "(III)I"⟩
theorem cw_PngReader_rgbPoint : Cond.code y_PngReader_rgbPoint b_PngReader_rgbPoint 5 (some .int) ∈ lw_g := lg_in5 (List.mem_of_getElem? (i := 189) rfl) rfl
abbrev b_PngReader_numberAt : ByteArray := prog_9_method_28_code
def y_PngReader_numberAt : MethodName := ⟨R_PngReader, "numberAt", "(II)I"⟩
theorem cw_PngReader_numberAt : Cond.code y_PngReader_numberAt b_PngReader_numberAt 5 (some .int) ∈ lw_g := lg_in5 (List.mem_of_getElem? (i := 176) rfl) rfl
abbrev b_PngReader_scaled : ByteArray := prog_9_method_29_code
def y_PngReader_scaled : MethodName := ⟨R_PngReader, "scaled", "(I)I"⟩
theorem cw_PngReader_scaled : Cond.code y_PngReader_scaled b_PngReader_scaled 2 (some .int) ∈ lw_g := lg_in5 (List.mem_of_getElem? (i := 184) rfl) rfl
abbrev b_PngWriter_init : ByteArray := prog_10_method_1_code
def y_PngWriter_init : MethodName := ⟨R_PngWriter, "<init>", "([B)V"⟩
theorem cw_PngWriter_init : Cond.code y_PngWriter_init b_PngWriter_init 2 none ∈ lw_g := lg_in2 (List.mem_of_getElem? (i := 16) rfl) rfl
abbrev b_PngWriter_encode : ByteArray := prog_10_method_2_code
def y_PngWriter_encode : MethodName := ⟨R_PngWriter, "encode", "(LPictureDesk$Picture;ILPictureDesk$Sink;)V"⟩
theorem cw_PngWriter_encode : Cond.code y_PngWriter_encode b_PngWriter_encode 5 none ∈ lw_g := lg_in6 (List.mem_of_getElem? (i := 123) rfl) rfl
abbrev b_PngWriter_openPart : ByteArray := prog_10_method_3_code
def y_PngWriter_openPart : MethodName := ⟨R_PngWriter, "openPart", "(ILPictureDesk$Sink;)I"⟩
theorem cw_PngWriter_openPart : Cond.code y_PngWriter_openPart b_PngWriter_openPart 3 (some .int) ∈ lw_g := lg_in6 (List.mem_of_getElem? (i := 138) rfl) rfl
abbrev b_PngWriter_closePart : ByteArray := prog_10_method_4_code
def y_PngWriter_closePart : MethodName := ⟨R_PngWriter, "closePart", "(ILPictureDesk$Sink;)V"⟩
theorem cw_PngWriter_closePart : Cond.code y_PngWriter_closePart b_PngWriter_closePart 2 none ∈ lw_g := lg_in6 (List.mem_of_getElem? (i := 154) rfl) rfl
abbrev b_PngWriter_putHeader : ByteArray := prog_10_method_5_code
def y_PngWriter_putHeader : MethodName := ⟨R_PngWriter, "putHeader", "(LPictureDesk$Picture;LPictureDesk$Sink;)V"⟩
theorem cw_PngWriter_putHeader : Cond.code y_PngWriter_putHeader b_PngWriter_putHeader 3 none ∈ lw_g := lg_in6 (List.mem_of_getElem? (i := 134) rfl) rfl
abbrev b_PngWriter_filterRows : ByteArray := prog_10_method_6_code
def y_PngWriter_filterRows : MethodName := ⟨R_PngWriter, "filterRows", "(LPictureDesk$Picture;I)V"⟩
theorem cw_PngWriter_filterRows : Cond.code y_PngWriter_filterRows b_PngWriter_filterRows 7 none ∈ lw_g := lg_in6 (List.mem_of_getElem? (i := 171) rfl) rfl
abbrev b_PngWriter_bestFilter : ByteArray := prog_10_method_7_code
def y_PngWriter_bestFilter : MethodName := ⟨R_PngWriter, "bestFilter", "(LPictureDesk$Picture;II)I"⟩
theorem cw_PngWriter_bestFilter : Cond.code y_PngWriter_bestFilter b_PngWriter_bestFilter 8 (some .int) ∈ lw_g := lg_in6 (List.mem_of_getElem? (i := 175) rfl) rfl
abbrev b_PngWriter_filterRow : ByteArray := prog_10_method_8_code
def y_PngWriter_filterRow : MethodName := ⟨R_PngWriter, "filterRow", "(LPictureDesk$Picture;III)I"⟩
theorem cw_PngWriter_filterRow : Cond.code y_PngWriter_filterRow b_PngWriter_filterRow 16 (some .int) ∈ lw_g := lg_in6 (List.mem_of_getElem? (i := 179) rfl) rfl
abbrev b_PngWriter_putData : ByteArray := prog_10_method_9_code
def y_PngWriter_putData : MethodName := ⟨R_PngWriter, "putData", "(LPictureDesk$Sink;)V"⟩
theorem cw_PngWriter_putData : Cond.code y_PngWriter_putData b_PngWriter_putData 6 none ∈ lw_g := lg_in6 (List.mem_of_getElem? (i := 185) rfl) rfl
abbrev b_PngWriter_chainOf : ByteArray := prog_10_method_10_code
def y_PngWriter_chainOf : MethodName := ⟨R_PngWriter, "chainOf", "(I)I"⟩
theorem cw_PngWriter_chainOf : Cond.code y_PngWriter_chainOf b_PngWriter_chainOf 3 (some .int) ∈ lw_g := lg_in6 (List.mem_of_getElem? (i := 200) rfl) rfl
abbrev b_PngWriter_remember : ByteArray := prog_10_method_11_code
def y_PngWriter_remember : MethodName := ⟨R_PngWriter, "remember", "(I)V"⟩
theorem cw_PngWriter_remember : Cond.code y_PngWriter_remember b_PngWriter_remember 3 none ∈ lw_g := lg_in6 (List.mem_of_getElem? (i := 226) rfl) rfl
abbrev b_PngWriter_findCopy : ByteArray := prog_10_method_12_code
def y_PngWriter_findCopy : MethodName := ⟨R_PngWriter, "findCopy", "(I)V"⟩
theorem cw_PngWriter_findCopy : Cond.code y_PngWriter_findCopy b_PngWriter_findCopy 6 none ∈ lw_g := lg_in6 (List.mem_of_getElem? (i := 195) rfl) rfl
abbrev b_PngWriter_commonLength : ByteArray := prog_10_method_13_code
def y_PngWriter_commonLength : MethodName := ⟨R_PngWriter, "commonLength", "(III)I"⟩
theorem cw_PngWriter_commonLength : Cond.code y_PngWriter_commonLength b_PngWriter_commonLength 5 (some .int) ∈ lw_g := lg_in6 (List.mem_of_getElem? (i := 205) rfl) rfl
abbrev b_PngWriter_putLiteral : ByteArray := prog_10_method_14_code
def y_PngWriter_putLiteral : MethodName := ⟨R_PngWriter, "putLiteral", "(ILPictureDesk$Sink;)V"⟩
theorem cw_PngWriter_putLiteral : Cond.code y_PngWriter_putLiteral b_PngWriter_putLiteral 2 none ∈ lw_g := lg_in6 (List.mem_of_getElem? (i := 216) rfl) rfl
abbrev b_PngWriter_putCopy : ByteArray := prog_10_method_15_code
def y_PngWriter_putCopy : MethodName := ⟨R_PngWriter, "putCopy", "(LPictureDesk$Sink;)V"⟩
theorem cw_PngWriter_putCopy : Cond.code y_PngWriter_putCopy b_PngWriter_putCopy 4 none ∈ lw_g := lg_in6 (List.mem_of_getElem? (i := 209) rfl) rfl
abbrev b_PngWriter_codeFor : ByteArray := prog_10_method_16_code
def y_PngWriter_codeFor : MethodName := ⟨R_PngWriter, "codeFor", "(I[I)I"⟩
theorem cw_PngWriter_codeFor : Cond.code y_PngWriter_codeFor b_PngWriter_codeFor 3 (some .int) ∈ lw_g := lg_in6 (List.mem_of_getElem? (i := 213) rfl) rfl
abbrev b_PngWriter_turned : ByteArray := prog_10_method_17_code
def y_PngWriter_turned : MethodName := ⟨R_PngWriter, "turned", "(II)I"⟩
theorem cw_PngWriter_turned : Cond.code y_PngWriter_turned b_PngWriter_turned 4 (some .int) ∈ lw_g := lg_in6 (List.mem_of_getElem? (i := 219) rfl) rfl
abbrev b_Sink_init : ByteArray := prog_11_method_1_code
def y_Sink_init : MethodName := ⟨R_Sink, "<init>", "(I)V"⟩
theorem cw_Sink_init : Cond.code y_Sink_init b_Sink_init 2 none ∈ lw_g := lg_in1 (List.mem_of_getElem? (i := 47) rfl) rfl
abbrev b_Sink_restart : ByteArray := prog_11_method_2_code
def y_Sink_restart : MethodName := ⟨R_Sink, "restart", "()V"⟩
theorem cw_Sink_restart : Cond.code y_Sink_restart b_Sink_restart 1 none ∈ lw_g := lg_in6 (List.mem_of_getElem? (i := 119) rfl) rfl
abbrev b_Sink_filled : ByteArray := prog_11_method_3_code
def y_Sink_filled : MethodName := ⟨R_Sink, "filled", "()I"⟩
theorem cw_Sink_filled : Cond.code y_Sink_filled b_Sink_filled 1 (some .int) ∈ lw_g := lg_in6 (List.mem_of_getElem? (i := 142) rfl) rfl
abbrev b_Sink_byteOrZero : ByteArray := prog_11_method_4_code
def y_Sink_byteOrZero : MethodName := ⟨R_Sink, "byteOrZero", "(I)I"⟩
theorem cw_Sink_byteOrZero : Cond.code y_Sink_byteOrZero b_Sink_byteOrZero 2 (some .int) ∈ lw_g := lg_in7 (List.mem_of_getElem? (i := 110) rfl) rfl
abbrev b_Sink_copyTo : ByteArray := prog_11_method_5_code
def y_Sink_copyTo : MethodName := ⟨R_Sink, "copyTo", "([B)I"⟩
theorem cw_Sink_copyTo : Cond.code y_Sink_copyTo b_Sink_copyTo 3 (some .int) ∈ lw_g := lg_in2 (List.mem_of_getElem? (i := 201) rfl) rfl
abbrev b_Sink_put : ByteArray := prog_11_method_6_code
def y_Sink_put : MethodName := ⟨R_Sink, "put", "(I)V"⟩
theorem cw_Sink_put : Cond.code y_Sink_put b_Sink_put 2 none ∈ lw_g := lg_in6 (List.mem_of_getElem? (i := 128) rfl) rfl
abbrev b_Sink_putZeros : ByteArray := prog_11_method_7_code
def y_Sink_putZeros : MethodName := ⟨R_Sink, "putZeros", "(I)V"⟩
theorem cw_Sink_putZeros : Cond.code y_Sink_putZeros b_Sink_putZeros 3 none ∈ lw_g := lg_in6 (List.mem_of_getElem? (i := 151) rfl) rfl
abbrev b_Sink_putText : ByteArray := prog_11_method_8_code
def y_Sink_putText : MethodName := ⟨R_Sink, "putText", "(Ljava/lang/String;)V"⟩
theorem cw_Sink_putText : Cond.code y_Sink_putText b_Sink_putText 3 none ∈ lw_g := lg_in7 (List.mem_of_getElem? (i := 23) rfl) rfl
abbrev b_Sink_putBig4 : ByteArray := prog_11_method_9_code
def y_Sink_putBig4 : MethodName := ⟨R_Sink, "putBig4", "(I)V"⟩
theorem cw_Sink_putBig4 : Cond.code y_Sink_putBig4 b_Sink_putBig4 2 none ∈ lw_g := lg_in6 (List.mem_of_getElem? (i := 146) rfl) rfl
abbrev b_Sink_putLittle2 : ByteArray := prog_11_method_10_code
def y_Sink_putLittle2 : MethodName := ⟨R_Sink, "putLittle2", "(I)V"⟩
theorem cw_Sink_putLittle2 : Cond.code y_Sink_putLittle2 b_Sink_putLittle2 2 none ∈ lw_g := lg_in7 (List.mem_of_getElem? (i := 52) rfl) rfl
abbrev b_Sink_putLittle4 : ByteArray := prog_11_method_11_code
def y_Sink_putLittle4 : MethodName := ⟨R_Sink, "putLittle4", "(I)V"⟩
theorem cw_Sink_putLittle4 : Cond.code y_Sink_putLittle4 b_Sink_putLittle4 2 none ∈ lw_g := lg_in7 (List.mem_of_getElem? (i := 124) rfl) rfl
abbrev b_Sink_putBits : ByteArray := prog_11_method_12_code
def y_Sink_putBits : MethodName := ⟨R_Sink, "putBits", "(II)V"⟩
theorem cw_Sink_putBits : Cond.code y_Sink_putBits b_Sink_putBits 3 none ∈ lw_g := lg_in6 (List.mem_of_getElem? (i := 190) rfl) rfl
abbrev b_Sink_closeBits : ByteArray := prog_11_method_13_code
def y_Sink_closeBits : MethodName := ⟨R_Sink, "closeBits", "()V"⟩
theorem cw_Sink_closeBits : Cond.code y_Sink_closeBits b_Sink_closeBits 1 none ∈ lw_g := lg_in6 (List.mem_of_getElem? (i := 230) rfl) rfl
abbrev b_Sink_mendBig4 : ByteArray := prog_11_method_14_code
def y_Sink_mendBig4 : MethodName := ⟨R_Sink, "mendBig4", "(II)V"⟩
theorem cw_Sink_mendBig4 : Cond.code y_Sink_mendBig4 b_Sink_mendBig4 4 none ∈ lw_g := lg_in6 (List.mem_of_getElem? (i := 158) rfl) rfl
abbrev b_Sink_mendLittle4 : ByteArray := prog_11_method_15_code
def y_Sink_mendLittle4 : MethodName := ⟨R_Sink, "mendLittle4", "(II)V"⟩
theorem cw_Sink_mendLittle4 : Cond.code y_Sink_mendLittle4 b_Sink_mendLittle4 4 none ∈ lw_g := lg_in7 (List.mem_of_getElem? (i := 135) rfl) rfl
abbrev b_Sink_mendByte : ByteArray := prog_11_method_16_code
def y_Sink_mendByte : MethodName := ⟨R_Sink, "mendByte", "(II)V"⟩
theorem cw_Sink_mendByte : Cond.code y_Sink_mendByte b_Sink_mendByte 3 none ∈ lw_g := lg_in6 (List.mem_of_getElem? (i := 162) rfl) rfl
abbrev b_Sink_crcFrom : ByteArray := prog_11_method_17_code
def y_Sink_crcFrom : MethodName := ⟨R_Sink, "crcFrom", "(I)I"⟩
theorem cw_Sink_crcFrom : Cond.code y_Sink_crcFrom b_Sink_crcFrom 2 (some .int) ∈ lw_g := lg_in6 (List.mem_of_getElem? (i := 166) rfl) rfl
abbrev b_Source_init : ByteArray := prog_12_method_1_code
def y_Source_init : MethodName := ⟨R_Source, "<init>", "([B)V"⟩
theorem cw_Source_init : Cond.code y_Source_init b_Source_init 2 none ∈ lw_g := lg_in1 (List.mem_of_getElem? (i := 103) rfl) rfl
abbrev b_Source_open : ByteArray := prog_12_method_2_code
def y_Source_open : MethodName := ⟨R_Source, "open", "(II)V"⟩
theorem cw_Source_open : Cond.code y_Source_open b_Source_open 3 none ∈ lw_g := lg_in3 (List.mem_of_getElem? (i := 98) rfl) rfl
abbrev b_Source_place : ByteArray := prog_12_method_3_code
def y_Source_place : MethodName := ⟨R_Source, "place", "()I"⟩
theorem cw_Source_place : Cond.code y_Source_place b_Source_place 1 (some .int) ∈ lw_g := lg_in6 (List.mem_of_getElem? (i := 44) rfl) rfl
abbrev b_Source_left : ByteArray := prog_12_method_4_code
def y_Source_left : MethodName := ⟨R_Source, "left", "()I"⟩
theorem cw_Source_left : Cond.code y_Source_left b_Source_left 1 (some .int) ∈ lw_g := lg_in3 (List.mem_of_getElem? (i := 167) rfl) rfl
abbrev b_Source_first : ByteArray := prog_12_method_5_code
def y_Source_first : MethodName := ⟨R_Source, "first", "()I"⟩
theorem cw_Source_first : Cond.code y_Source_first b_Source_first 1 (some .int) ∈ lw_g := lg_in3 (List.mem_of_getElem? (i := 110) rfl) rfl
abbrev b_Source_next : ByteArray := prog_12_method_6_code
def y_Source_next : MethodName := ⟨R_Source, "next", "()I"⟩
theorem cw_Source_next : Cond.code y_Source_next b_Source_next 2 (some .int) ∈ lw_g := lg_in3 (List.mem_of_getElem? (i := 142) rfl) rfl
abbrev b_Source_skip : ByteArray := prog_12_method_7_code
def y_Source_skip : MethodName := ⟨R_Source, "skip", "(I)V"⟩
theorem cw_Source_skip : Cond.code y_Source_skip b_Source_skip 2 none ∈ lw_g := lg_in4 (List.mem_of_getElem? (i := 2) rfl) rfl
abbrev b_Source_big2 : ByteArray := prog_12_method_8_code
def y_Source_big2 : MethodName := ⟨R_Source, "big2", "()I"⟩
theorem cw_Source_big2 : Cond.code y_Source_big2 b_Source_big2 2 (some .int) ∈ lw_g := lg_in3 (List.mem_of_getElem? (i := 162) rfl) rfl
abbrev b_Source_big4 : ByteArray := prog_12_method_9_code
def y_Source_big4 : MethodName := ⟨R_Source, "big4", "()I"⟩
theorem cw_Source_big4 : Cond.code y_Source_big4 b_Source_big4 2 (some .int) ∈ lw_g := lg_in3 (List.mem_of_getElem? (i := 158) rfl) rfl
abbrev b_Source_little2 : ByteArray := prog_12_method_10_code
def y_Source_little2 : MethodName := ⟨R_Source, "little2", "()I"⟩
theorem cw_Source_little2 : Cond.code y_Source_little2 b_Source_little2 2 (some .int) ∈ lw_g := lg_in4 (List.mem_of_getElem? (i := 61) rfl) rfl
abbrev b_Source_little4 : ByteArray := prog_12_method_11_code
def y_Source_little4 : MethodName := ⟨R_Source, "little4", "()I"⟩
theorem cw_Source_little4 : Cond.code y_Source_little4 b_Source_little4 2 (some .int) ∈ lw_g := lg_in6 (List.mem_of_getElem? (i := 28) rfl) rfl
abbrev b_Source_bits : ByteArray := prog_12_method_12_code
def y_Source_bits : MethodName := ⟨R_Source, "bits", "(I)I"⟩
theorem cw_Source_bits : Cond.code y_Source_bits b_Source_bits 3 (some .int) ∈ lw_g := lg_in4 (List.mem_of_getElem? (i := 52) rfl) rfl
abbrev b_Source_dropBits : ByteArray := prog_12_method_13_code
def y_Source_dropBits : MethodName := ⟨R_Source, "dropBits", "()V"⟩
theorem cw_Source_dropBits : Cond.code y_Source_dropBits b_Source_dropBits 1 none ∈ lw_g := lg_in3 (List.mem_of_getElem? (i := 106) rfl) rfl
abbrev b_Source_crcAhead : ByteArray := prog_12_method_14_code
def y_Source_crcAhead : MethodName := ⟨R_Source, "crcAhead", "(I)I"⟩
theorem cw_Source_crcAhead : Cond.code y_Source_crcAhead b_Source_crcAhead 2 (some .int) ∈ lw_g := lg_in3 (List.mem_of_getElem? (i := 171) rfl) rfl
abbrev b_Source_beginGathering : ByteArray := prog_12_method_15_code
def y_Source_beginGathering : MethodName := ⟨R_Source, "beginGathering", "()V"⟩
theorem cw_Source_beginGathering : Cond.code y_Source_beginGathering b_Source_beginGathering 1 none ∈ lw_g := lg_in3 (List.mem_of_getElem? (i := 213) rfl) rfl
abbrev b_Source_gather : ByteArray := prog_12_method_16_code
def y_Source_gather : MethodName := ⟨R_Source, "gather", "(I)V"⟩
theorem cw_Source_gather : Cond.code y_Source_gather b_Source_gather 2 none ∈ lw_g := lg_in3 (List.mem_of_getElem? (i := 217) rfl) rfl
abbrev b_Source_openGathered : ByteArray := prog_12_method_17_code
def y_Source_openGathered : MethodName := ⟨R_Source, "openGathered", "(LPictureDesk$Source;)V"⟩
theorem cw_Source_openGathered : Cond.code y_Source_openGathered b_Source_openGathered 2 none ∈ lw_g := lg_in4 (List.mem_of_getElem? (i := 6) rfl) rfl
abbrev b_MCodes_init : ByteArray := prog_15_method_1_code
def y_MCodes_init : MethodName := ⟨R_MCodes, "<init>", "()V"⟩
theorem cw_MCodes_init : Cond.code y_MCodes_init b_MCodes_init 1 none ∈ lw_g := lg_in7 (List.mem_of_getElem? (i := 231) rfl) rfl
abbrev b_MCodes_make : ByteArray := prog_15_method_2_code
def y_MCodes_make : MethodName := ⟨R_MCodes, "make", "([III)I"⟩
theorem cw_MCodes_make : Cond.code y_MCodes_make b_MCodes_make 6 (some .int) ∈ lw_g := lg_in9 (List.mem_of_getElem? (i := 43) rfl) rfl
abbrev b_law_feed : ByteArray := method_3_code
def y_law_feed : MethodName := ⟨"PictureDeskLaw", "feed", "(LPictureDesk;IIIII[J)I"⟩
abbrev b_law_end : ByteArray := method_4_code
def y_law_end : MethodName := ⟨"PictureDeskLaw", "end", "(LPictureDesk;I[J)I"⟩
abbrev b_law_patch : ByteArray := method_5_code
def y_law_patch : MethodName := ⟨"PictureDeskLaw", "patch", "(LPictureDesk;III)I"⟩
abbrev b_law_read : ByteArray := method_6_code
def y_law_read : MethodName := ⟨"PictureDeskLaw", "read", "(LPictureDesk;I[J)I"⟩
abbrev b_law_write : ByteArray := method_7_code
def y_law_write : MethodName := ⟨"PictureDeskLaw", "write", "(LPictureDesk;III[J)I"⟩
abbrev b_law_make : ByteArray := method_8_code
def y_law_make : MethodName := ⟨"PictureDeskLaw", "make", "(LPictureDesk;IIII)I"⟩
abbrev b_law_set : ByteArray := method_9_code
def y_law_set : MethodName := ⟨"PictureDeskLaw", "set", "(LPictureDesk;IIII[J)I"⟩
abbrev b_law_get : ByteArray := method_10_code
def y_law_get : MethodName := ⟨"PictureDeskLaw", "get", "(LPictureDesk;III[J)I"⟩
abbrev b_law_paint : ByteArray := method_11_code
def y_law_paint : MethodName := ⟨"PictureDeskLaw", "paint", "(LPictureDesk;IIII)I"⟩
abbrev b_law_hash : ByteArray := method_12_code
def y_law_hash : MethodName := ⟨"PictureDeskLaw", "hash", "(LPictureDesk;I[J)I"⟩
abbrev b_law_size : ByteArray := method_13_code
def y_law_size : MethodName := ⟨"PictureDeskLaw", "size", "(LPictureDesk;II[J)I"⟩
abbrev b_law_word : ByteArray := method_14_code
def y_law_word : MethodName := ⟨"PictureDeskLaw", "word", "(LPictureDesk;I[J)I"⟩
abbrev b_law_count : ByteArray := method_15_code
def y_law_count : MethodName := ⟨"PictureDeskLaw", "count", "(LPictureDesk;I[J)I"⟩
