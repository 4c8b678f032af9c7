def ws_law_law (h_x : Nat) (h_x_tape : Nat) (h_x_slots : Nat) (h_x_source : Nat) (h_x_pngReader : Nat) (h_x_pngWriter : Nat) (h_x_gifReader : Nat) (h_x_gifWriter : Nat) (h_x_bmpFiles : Nat) (h_o : Nat) (h_m : Nat) (h_m_tape : Nat) (h_m_result : Nat) (h_m_images : Nat) (h_m_widths : Nat) (h_m_heights : Nat) (h_m_points : Nat) (h_m_palette : Nat) (h_m_clearKey : Nat) (h_m_data : Nat) (h_m_rows : Nat) (h_m_literals : Nat) (h_m_distances : Nat) (h_m_lengthCodes : Nat) (h_m_lengths : Nat) (h_m_own : Nat) (h_m_before : Nat) (h_m_lastIndex : Nat) (h_m_deep : Nat) (h_m_out : Nat) (h_m_heads : Nat) (h_m_chain : Nat) (h_m_keys : Nat) (h_m_indices : Nat) (h_m_kids : Nat) (h_m_images_0 : Nat) (h_m_images_1 : Nat) (h_m_images_2 : Nat) (h_m_images_3 : Nat) (h_x_pngReader_rows : Nat) (h_x_pngWriter_lastPlaces : Nat) (h_x_pngWriter_placesBefore : Nat) (h_x_gifWriter_table : Nat) (h_x_gifWriter_codes : Nat) (h_x_gifWriter_order : Nat) (h_x_gifWriter_indices : Nat) (h_x_gifWriter_newestLonger : Nat) (h_x_gifWriter_olderSibling : Nat) (h_x_gifWriter_lastIndex : Nat) (h_x_gifWriter_table_colours : Nat) (h_x_gifWriter_table_indices : Nat) (h_x_gifWriter_table_cells : Nat) (h_x_gifWriter_codes_bytes : Nat) (h_x_bmpFiles_palette : Nat) (h_x_pngReader_packed : Nat) (h_x_pngReader_inflater : Nat) (h_x_pngReader_palette : Nat) (h_x_pngReader_key : Nat) (h_x_pngReader_inflater_literals : Nat) (h_x_pngReader_inflater_distances : Nat) (h_x_pngReader_inflater_lengthCodes : Nat) (h_x_pngReader_inflater_lengths : Nat) (h_x_pngReader_inflater_literals_counts : Nat) (h_x_pngReader_inflater_literals_places : Nat) (h_x_pngReader_inflater_literals_meanings : Nat) (h_x_pngReader_inflater_distances_counts : Nat) (h_x_pngReader_inflater_distances_places : Nat) (h_x_pngReader_inflater_distances_meanings : Nat) (h_x_pngReader_inflater_lengthCodes_counts : Nat) (h_x_pngReader_inflater_lengthCodes_places : Nat) (h_x_pngReader_inflater_lengthCodes_meanings : Nat) (h_x_gifReader_table : Nat) (h_x_gifReader_rowStarts : Nat) (h_x_gifReader_rowLengths : Nat) (h_x_gifReader_indices : Nat) (h_x_gifReader_order : Nat) (h_m_literals_counts : Nat) (h_m_literals_meanings : Nat) (h_m_distances_counts : Nat) (h_m_distances_meanings : Nat) (h_m_lengthCodes_counts : Nat) (h_m_lengthCodes_meanings : Nat) (h_p0 : Nat) (k_x_slots : ClassId) (k_J : ClassId) (k_I : ClassId) (k_B : ClassId) (k_m_images : ClassId) (n_x_gifWriter_codes_bytes : Nat) (n_x_pngReader_inflater_literals_meanings : Nat) (n_x_pngReader_inflater_distances_meanings : Nat) (n_x_pngReader_inflater_lengthCodes_meanings : Nat) (tn_p0 : Nat) (w_m_tableSize : Int32) (w_x_pngReader_packed_gatheredFrom : Int32) (w_x_pngReader_packed_gatheredTo : Int32) (x_tapeLength : Int32) (x_result_filled : Int32) (x_result_bitStore : Int32) (x_result_bitsHeld : Int32) (x_slots_3_width : Int32) (x_slots_3_height : Int32) (x_slots_2_width : Int32) (x_slots_2_height : Int32) (x_slots_1_width : Int32) (x_slots_1_height : Int32) (x_slots_0_width : Int32) (x_slots_0_height : Int32) (a_o : Nat → Int64) (m_failed : Int32) (m_taped : Int32) (m_size : Int32) (m_at : Int32) (m_width : Int32) (m_height : Int32) (m_depth : Int32) (m_kind : Int32) (m_interlace : Int32) (m_colours : Int32) (m_clear : Int32) (m_dataSize : Int32) (m_bitAt : Int32) (m_rowBytes : Int32) (m_expected : Int32) (m_outSize : Int32) (m_bitBuffer : Int32) (m_bitCount : Int32) (m_keyCount : Int32) (m_codeWidth : Int32) (m_codeNext : Int32) (m_codeFirst : Int32) (a_m_widths : Nat → Int32) (a_x_result_bytes : Nat → Int32) (a_m_result : Nat → Int32) (a_m_heights : Nat → Int32) (a_x_slots_3_points : Nat → Int32) (a_x_slots_2_points : Nat → Int32) (a_x_slots_1_points : Nat → Int32) (a_x_slots_0_points : Nat → Int32) (a_m_images_3 : Nat → Int32) (a_m_images_2 : Nat → Int32) (a_m_images_1 : Nat → Int32) (a_m_images_0 : Nat → Int32) (x_draft_filled : Int32) (x_draft_bitStore : Int32) (x_draft_bitsHeld : Int32) (a_x_draft_bytes : Nat → Int32) (x_pngWriter_total : Int32) (x_pngWriter_copyLength : Int32) (x_pngWriter_copyDistance : Int32) (a_x_pngReader_rows : Nat → Int32) (a_x_pngWriter_lastPlaces : Nat → Int32) (a_x_pngWriter_placesBefore : Nat → Int32) (x_gifWriter_m : Int32) (x_gifWriter_nextRow : Int32) (x_gifWriter_bits : Int32) (x_gifWriter_readersNextRow : Int32) (x_gifWriter_isFirstCode : Int32) (x_gifWriter_table_used : Int32) (x_gifWriter_table_transparentIndex : Int32) (a_x_gifWriter_table_cells : Nat → Int32) (a_x_gifWriter_table_colours : Nat → Int32) (a_x_gifWriter_table_indices : Nat → Int32) (a_x_gifWriter_order : Nat → Int32) (a_x_gifWriter_indices : Nat → Int32) (x_gifWriter_codes_filled : Int32) (x_gifWriter_codes_bitStore : Int32) (x_gifWriter_codes_bitsHeld : Int32) (a_x_gifWriter_codes_bytes : Nat → Int32) (a_x_gifWriter_newestLonger : Nat → Int32) (a_x_gifWriter_lastIndex : Nat → Int32) (a_x_gifWriter_olderSibling : Nat → Int32) (x_bmpFiles_colours : Int32) (x_bmpFiles_depth : Int32) (x_bmpFiles_isFromTop : Int32) (x_bmpFiles_hasRuns : Int32) (x_bmpFiles_start : Int32) (x_bmpFiles_column : Int32) (x_bmpFiles_line : Int32) (a_m_out : Nat → Int32) (a_m_rows : Nat → Int32) (a_m_heads : Nat → Int32) (a_m_chain : Nat → Int32) (a_m_keys : Nat → Int32) (a_m_indices : Nat → Int32) (a_m_kids : Nat → Int32) (a_m_data : Nat → Int32) (x_source_at : Int32) (x_source_stop : Int32) (x_source_bitStore : Int32) (x_source_bitsHeld : Int32) (x_source_gatheredFrom : Int32) (x_source_gatheredTo : Int32) (a_x_tape : Nat → Int32) (x_pngReader_colours : Int32) (x_pngReader_hasTransparency : Int32) (x_pngReader_depth : Int32) (x_pngReader_kind : Int32) (x_pngReader_isInterlaced : Int32) (x_pngReader_stage : Int32) (x_pngReader_partLength : Int32) (x_pngReader_partCrc : Int32) (x_spare_width : Int32) (x_spare_height : Int32) (a_x_pngReader_palette : Nat → Int32) (a_x_pngReader_key : Nat → Int32) (x_pngReader_packed_at : Int32) (x_pngReader_packed_stop : Int32) (x_pngReader_packed_bitStore : Int32) (x_pngReader_packed_bitsHeld : Int32) (x_pngReader_inflater_made : Int32) (x_pngReader_inflater_due : Int32) (a_x_pngReader_inflater_lengths : Nat → Int32) (x_pngReader_inflater_literals_used : Int32) (x_pngReader_inflater_literals_unusedWords : Int32) (a_x_pngReader_inflater_literals_counts : Nat → Int32) (a_x_pngReader_inflater_literals_places : Nat → Int32) (a_x_pngReader_inflater_literals_meanings : Nat → Int32) (x_pngReader_inflater_distances_used : Int32) (x_pngReader_inflater_distances_unusedWords : Int32) (a_x_pngReader_inflater_distances_counts : Nat → Int32) (a_x_pngReader_inflater_distances_places : Nat → Int32) (a_x_pngReader_inflater_distances_meanings : Nat → Int32) (x_pngReader_inflater_lengthCodes_used : Int32) (x_pngReader_inflater_lengthCodes_unusedWords : Int32) (a_x_pngReader_inflater_lengthCodes_counts : Nat → Int32) (a_x_pngReader_inflater_lengthCodes_places : Nat → Int32) (a_x_pngReader_inflater_lengthCodes_meanings : Nat → Int32) (a_x_spare_points : Nat → Int32) (x_gifReader_colours : Int32) (x_gifReader_transparent : Int32) (x_gifReader_made : Int32) (a_x_gifReader_table : Nat → Int32) (a_x_gifReader_rowStarts : Nat → Int32) (a_x_gifReader_rowLengths : Nat → Int32) (a_x_gifReader_indices : Nat → Int32) (a_x_gifReader_order : Nat → Int32) (a_x_bmpFiles_palette : Nat → Int32) (a_m_points : Nat → Int32) (a_m_tape : Nat → Int32) (a_m_palette : Nat → Int32) (a_m_lengths : Nat → Int32) (m_literals_all : Int32) (a_m_literals_counts : Nat → Int32) (a_m_literals_meanings : Nat → Int32) (m_distances_all : Int32) (a_m_distances_counts : Nat → Int32) (a_m_distances_meanings : Nat → Int32) (m_lengthCodes_all : Int32) (a_m_lengthCodes_counts : Nat → Int32) (a_m_lengthCodes_meanings : Nat → Int32) (a_m_clearKey : Nat → Int32) (a_m_own : Nat → Int32) (a_m_before : Nat → Int32) (a_m_lastIndex : Nat → Int32) (a_m_deep : Nat → Int32) (tb_p0 : Nat → Int32) (h_x_slots_0 : Nat) (h_x_slots_0_points : Nat) (h_x_slots_1 : Nat) (h_x_slots_1_points : Nat) (h_x_slots_2 : Nat) (h_x_slots_2_points : Nat) (h_x_slots_3 : Nat) (h_x_slots_3_points : Nat) (h_x_spare : Nat) (h_x_spare_points : Nat) (h_x_result : Nat) (h_x_result_bytes : Nat) (h_x_draft : Nat) (h_x_draft_bytes : Nat) : va_W := [(h_x, .inr (0, [.ref h_x_tape, .int x_tapeLength, .ref h_x_result, .ref h_x_draft, .ref h_x_slots, .ref h_x_spare, .ref h_x_source, .ref h_x_pngReader, .ref h_x_pngWriter, .ref h_x_gifReader, .ref h_x_gifWriter, .ref h_x_bmpFiles])), (h_x_result, .inr (11, [.ref h_x_result_bytes, .int x_result_filled, .int x_result_bitStore, .int x_result_bitsHeld])), (h_x_slots, .inl (k_x_slots, 4, .inr (.inr (.inr (.inr (rf4 h_x_slots_0 h_x_slots_1 h_x_slots_2 h_x_slots_3)))))), (h_x_slots_3, .inr (8, [.ref h_x_slots_3_points, .int x_slots_3_width, .int x_slots_3_height])), (h_x_slots_2, .inr (8, [.ref h_x_slots_2_points, .int x_slots_2_width, .int x_slots_2_height])), (h_x_slots_1, .inr (8, [.ref h_x_slots_1_points, .int x_slots_1_width, .int x_slots_1_height])), (h_x_slots_0, .inr (8, [.ref h_x_slots_0_points, .int x_slots_0_width, .int x_slots_0_height])), (h_o, .inl (k_J, 1, .inr (.inl a_o))), (h_m, .inr (1, [.int m_failed, .ref h_m_tape, .int m_taped, .ref h_m_result, .int m_size, .ref h_m_images, .ref h_m_widths, .ref h_m_heights, .int m_at, .int m_width, .int m_height, .ref h_m_points, .int m_depth, .int m_kind, .int m_interlace, .ref h_m_palette, .int m_colours, .int m_clear, .ref h_m_clearKey, .ref h_m_data, .int m_dataSize, .int m_bitAt, .ref h_m_rows, .int m_rowBytes, .int m_expected, .ref h_m_literals, .ref h_m_distances, .ref h_m_lengthCodes, .ref h_m_lengths, .int w_m_tableSize, .ref h_m_own, .ref h_m_before, .ref h_m_lastIndex, .ref h_m_deep, .ref h_m_out, .int m_outSize, .int m_bitBuffer, .int m_bitCount, .ref h_m_heads, .ref h_m_chain, .ref h_m_keys, .ref h_m_indices, .int m_keyCount, .int m_codeWidth, .int m_codeNext, .int m_codeFirst, .ref h_m_kids])), (h_m_widths, .inl (k_I, 4, .inl a_m_widths)), (h_x_result_bytes, .inl (k_B, 65536, .inl a_x_result_bytes)), (h_m_result, .inl (k_B, 65536, .inl a_m_result)), (h_m_heights, .inl (k_I, 4, .inl a_m_heights)), (h_x_slots_3_points, .inl (k_I, 16384, .inl a_x_slots_3_points)), (h_x_slots_2_points, .inl (k_I, 16384, .inl a_x_slots_2_points)), (h_x_slots_1_points, .inl (k_I, 16384, .inl a_x_slots_1_points)), (h_x_slots_0_points, .inl (k_I, 16384, .inl a_x_slots_0_points)), (h_m_images, .inl (k_m_images, 4, .inr (.inr (.inr (.inr (rf4 h_m_images_0 h_m_images_1 h_m_images_2 h_m_images_3)))))), (h_m_images_3, .inl (k_I, 16384, .inl a_m_images_3)), (h_m_images_2, .inl (k_I, 16384, .inl a_m_images_2)), (h_m_images_1, .inl (k_I, 16384, .inl a_m_images_1)), (h_m_images_0, .inl (k_I, 16384, .inl a_m_images_0)), (h_x_draft, .inr (11, [.ref h_x_draft_bytes, .int x_draft_filled, .int x_draft_bitStore, .int x_draft_bitsHeld])), (h_x_draft_bytes, .inl (k_B, 65536, .inl a_x_draft_bytes)), (h_x_pngWriter, .inr (10, [.ref h_x_pngReader_rows, .ref h_x_pngWriter_lastPlaces, .ref h_x_pngWriter_placesBefore, .int x_pngWriter_total, .int x_pngWriter_copyLength, .int x_pngWriter_copyDistance])), (h_x_pngReader_rows, .inl (k_B, 147456, .inl a_x_pngReader_rows)), (h_x_pngWriter_lastPlaces, .inl (k_I, 4096, .inl a_x_pngWriter_lastPlaces)), (h_x_pngWriter_placesBefore, .inl (k_I, 4096, .inl a_x_pngWriter_placesBefore)), (h_x_gifWriter, .inr (6, [.ref h_x_gifWriter_table, .ref h_x_gifWriter_codes, .ref h_x_gifWriter_order, .ref h_x_gifWriter_indices, .ref h_x_gifWriter_newestLonger, .ref h_x_gifWriter_olderSibling, .ref h_x_gifWriter_lastIndex, .int x_gifWriter_m, .int x_gifWriter_nextRow, .int x_gifWriter_bits, .int x_gifWriter_readersNextRow, .int x_gifWriter_isFirstCode])), (h_x_gifWriter_table, .inr (4, [.ref h_x_gifWriter_table_colours, .ref h_x_gifWriter_table_indices, .ref h_x_gifWriter_table_cells, .int x_gifWriter_table_used, .int x_gifWriter_table_transparentIndex])), (h_x_gifWriter_table_cells, .inl (k_I, 1024, .inl a_x_gifWriter_table_cells)), (h_x_gifWriter_table_colours, .inl (k_I, 256, .inl a_x_gifWriter_table_colours)), (h_x_gifWriter_table_indices, .inl (k_I, 16384, .inl a_x_gifWriter_table_indices)), (h_x_gifWriter_order, .inl (k_I, 16384, .inl a_x_gifWriter_order)), (h_x_gifWriter_indices, .inl (k_I, 16384, .inl a_x_gifWriter_indices)), (h_x_gifWriter_codes, .inr (11, [.ref h_x_gifWriter_codes_bytes, .int x_gifWriter_codes_filled, .int x_gifWriter_codes_bitStore, .int x_gifWriter_codes_bitsHeld])), (h_x_gifWriter_codes_bytes, .inl (k_B, n_x_gifWriter_codes_bytes, .inl a_x_gifWriter_codes_bytes)), (h_x_gifWriter_newestLonger, .inl (k_I, 4096, .inl a_x_gifWriter_newestLonger)), (h_x_gifWriter_lastIndex, .inl (k_I, 4096, .inl a_x_gifWriter_lastIndex)), (h_x_gifWriter_olderSibling, .inl (k_I, 4096, .inl a_x_gifWriter_olderSibling)), (h_x_bmpFiles, .inr (2, [.ref h_x_source, .ref h_x_gifWriter_table, .ref h_x_bmpFiles_palette, .int x_bmpFiles_colours, .int x_bmpFiles_depth, .int x_bmpFiles_isFromTop, .int x_bmpFiles_hasRuns, .int x_bmpFiles_start, .int x_bmpFiles_column, .int x_bmpFiles_line])), (h_m_out, .inl (k_B, 262144, .inl a_m_out)), (h_m_rows, .inl (k_B, 200000, .inl a_m_rows)), (h_m_heads, .inl (k_I, 65536, .inl a_m_heads)), (h_m_chain, .inl (k_I, 200000, .inl a_m_chain)), (h_m_keys, .inl (k_I, 256, .inl a_m_keys)), (h_m_indices, .inl (k_I, 16384, .inl a_m_indices)), (h_m_kids, .inl (k_I, 1048576, .inl a_m_kids)), (h_m_data, .inl (k_B, 65536, .inl a_m_data)), (h_x_source, .inr (12, [.ref h_x_tape, .int x_source_at, .int x_source_stop, .int x_source_bitStore, .int x_source_bitsHeld, .int x_source_gatheredFrom, .int x_source_gatheredTo])), (h_x_tape, .inl (k_B, 65536, .inl a_x_tape)), (h_x_pngReader, .inr (9, [.ref h_x_source, .ref h_x_pngReader_packed, .ref h_x_pngReader_rows, .ref h_x_pngReader_inflater, .ref h_x_pngReader_palette, .ref h_x_pngReader_key, .int x_pngReader_colours, .int x_pngReader_hasTransparency, .int x_pngReader_depth, .int x_pngReader_kind, .int x_pngReader_isInterlaced, .int x_pngReader_stage, .int x_pngReader_partLength, .int x_pngReader_partCrc])), (h_x_spare, .inr (8, [.ref h_x_spare_points, .int x_spare_width, .int x_spare_height])), (h_x_pngReader_palette, .inl (k_I, 256, .inl a_x_pngReader_palette)), (h_x_pngReader_key, .inl (k_I, 3, .inl a_x_pngReader_key)), (h_x_pngReader_packed, .inr (12, [.ref h_x_tape, .int x_pngReader_packed_at, .int x_pngReader_packed_stop, .int x_pngReader_packed_bitStore, .int x_pngReader_packed_bitsHeld, .int w_x_pngReader_packed_gatheredFrom, .int w_x_pngReader_packed_gatheredTo])), (h_x_pngReader_inflater, .inr (7, [.ref h_x_pngReader_packed, .ref h_x_pngReader_rows, .ref h_x_pngReader_inflater_literals, .ref h_x_pngReader_inflater_distances, .ref h_x_pngReader_inflater_lengthCodes, .ref h_x_pngReader_inflater_lengths, .int x_pngReader_inflater_made, .int x_pngReader_inflater_due])), (h_x_pngReader_inflater_lengths, .inl (k_I, 316, .inl a_x_pngReader_inflater_lengths)), (h_x_pngReader_inflater_literals, .inr (3, [.ref h_x_pngReader_inflater_literals_counts, .ref h_x_pngReader_inflater_literals_places, .ref h_x_pngReader_inflater_literals_meanings, .int x_pngReader_inflater_literals_used, .int x_pngReader_inflater_literals_unusedWords])), (h_x_pngReader_inflater_literals_counts, .inl (k_I, 16, .inl a_x_pngReader_inflater_literals_counts)), (h_x_pngReader_inflater_literals_places, .inl (k_I, 16, .inl a_x_pngReader_inflater_literals_places)), (h_x_pngReader_inflater_literals_meanings, .inl (k_I, n_x_pngReader_inflater_literals_meanings, .inl a_x_pngReader_inflater_literals_meanings)), (h_x_pngReader_inflater_distances, .inr (3, [.ref h_x_pngReader_inflater_distances_counts, .ref h_x_pngReader_inflater_distances_places, .ref h_x_pngReader_inflater_distances_meanings, .int x_pngReader_inflater_distances_used, .int x_pngReader_inflater_distances_unusedWords])), (h_x_pngReader_inflater_distances_counts, .inl (k_I, 16, .inl a_x_pngReader_inflater_distances_counts)), (h_x_pngReader_inflater_distances_places, .inl (k_I, 16, .inl a_x_pngReader_inflater_distances_places)), (h_x_pngReader_inflater_distances_meanings, .inl (k_I, n_x_pngReader_inflater_distances_meanings, .inl a_x_pngReader_inflater_distances_meanings)), (h_x_pngReader_inflater_lengthCodes, .inr (3, [.ref h_x_pngReader_inflater_lengthCodes_counts, .ref h_x_pngReader_inflater_lengthCodes_places, .ref h_x_pngReader_inflater_lengthCodes_meanings, .int x_pngReader_inflater_lengthCodes_used, .int x_pngReader_inflater_lengthCodes_unusedWords])), (h_x_pngReader_inflater_lengthCodes_counts, .inl (k_I, 16, .inl a_x_pngReader_inflater_lengthCodes_counts)), (h_x_pngReader_inflater_lengthCodes_places, .inl (k_I, 16, .inl a_x_pngReader_inflater_lengthCodes_places)), (h_x_pngReader_inflater_lengthCodes_meanings, .inl (k_I, n_x_pngReader_inflater_lengthCodes_meanings, .inl a_x_pngReader_inflater_lengthCodes_meanings)), (h_x_spare_points, .inl (k_I, 16384, .inl a_x_spare_points)), (h_x_gifReader, .inr (5, [.ref h_x_source, .ref h_x_pngReader_packed, .ref h_x_gifReader_table, .ref h_x_gifReader_rowStarts, .ref h_x_gifReader_rowLengths, .ref h_x_gifReader_indices, .ref h_x_gifReader_order, .int x_gifReader_colours, .int x_gifReader_transparent, .int x_gifReader_made])), (h_x_gifReader_table, .inl (k_I, 256, .inl a_x_gifReader_table)), (h_x_gifReader_rowStarts, .inl (k_I, 4096, .inl a_x_gifReader_rowStarts)), (h_x_gifReader_rowLengths, .inl (k_I, 4096, .inl a_x_gifReader_rowLengths)), (h_x_gifReader_indices, .inl (k_I, 16384, .inl a_x_gifReader_indices)), (h_x_gifReader_order, .inl (k_I, 16384, .inl a_x_gifReader_order)), (h_x_bmpFiles_palette, .inl (k_I, 256, .inl a_x_bmpFiles_palette)), (h_m_points, .inl (k_I, 16384, .inl a_m_points)), (h_m_tape, .inl (k_B, 65536, .inl a_m_tape)), (h_m_palette, .inl (k_I, 256, .inl a_m_palette)), (h_m_lengths, .inl (k_I, 640, .inl a_m_lengths)), (h_m_literals, .inr (13, [.ref h_m_literals_counts, .ref h_m_literals_meanings, .int m_literals_all])), (h_m_literals_counts, .inl (k_I, 16, .inl a_m_literals_counts)), (h_m_literals_meanings, .inl (k_I, 320, .inl a_m_literals_meanings)), (h_m_distances, .inr (13, [.ref h_m_distances_counts, .ref h_m_distances_meanings, .int m_distances_all])), (h_m_distances_counts, .inl (k_I, 16, .inl a_m_distances_counts)), (h_m_distances_meanings, .inl (k_I, 320, .inl a_m_distances_meanings)), (h_m_lengthCodes, .inr (13, [.ref h_m_lengthCodes_counts, .ref h_m_lengthCodes_meanings, .int m_lengthCodes_all])), (h_m_lengthCodes_counts, .inl (k_I, 16, .inl a_m_lengthCodes_counts)), (h_m_lengthCodes_meanings, .inl (k_I, 320, .inl a_m_lengthCodes_meanings)), (h_m_clearKey, .inl (k_I, 3, .inl a_m_clearKey)), (h_m_own, .inl (k_I, 256, .inl a_m_own)), (h_m_before, .inl (k_I, 4096, .inl a_m_before)), (h_m_lastIndex, .inl (k_I, 4096, .inl a_m_lastIndex)), (h_m_deep, .inl (k_I, 4096, .inl a_m_deep))]
theorem d_law_law_23 : decode b_law_law 23 = .ok (.iload 4, 2) := by decide +kernel
theorem d_law_law_25 : decode b_law_law 25 = .ok (.aload_n 0, 1) := by decide +kernel
theorem d_law_law_26 : decode b_law_law 26 = .ok (.arraylength, 1) := by decide +kernel
theorem d_law_law_27 : decode b_law_law 27 = .ok (.bipush 6, 2) := by decide +kernel
theorem d_law_law_29 : decode b_law_law 29 = .ok (.isub, 1) := by decide +kernel
theorem d_law_law_30 : decode b_law_law 30 = .ok (.if_icmp .gt 1008, 3) := by decide +kernel
theorem d_law_law_33 : decode b_law_law 33 = .ok (.aload_n 0, 1) := by decide +kernel
theorem d_law_law_34 : decode b_law_law 34 = .ok (.iload 4, 2) := by decide +kernel
theorem d_law_law_36 : decode b_law_law 36 = .ok (.iaload, 1) := by decide +kernel
theorem d_law_law_37 : decode b_law_law 37 = .ok (.bipush 15, 2) := by decide +kernel
theorem d_law_law_39 : decode b_law_law 39 = .ok (.iand, 1) := by decide +kernel
theorem d_law_law_40 : decode b_law_law 40 = .ok (.tableswitch 992 0 13 #[72, 176, 232, 245, 305, 361, 441, 513, 605, 685, 757, 813, 881, 936], 72) := by decide +kernel
theorem d_law_law_112 : decode b_law_law 112 = .ok (.aload_n 1, 1) := by decide +kernel
theorem d_law_law_113 : decode b_law_law 113 = .ok (.aload_n 0, 1) := by decide +kernel
theorem d_law_law_114 : decode b_law_law 114 = .ok (.iload 4, 2) := by decide +kernel
theorem d_law_law_116 : decode b_law_law 116 = .ok (.iconst 1, 1) := by decide +kernel
theorem d_law_law_117 : decode b_law_law 117 = .ok (.iadd, 1) := by decide +kernel
theorem d_law_law_118 : decode b_law_law 118 = .ok (.iaload, 1) := by decide +kernel
theorem d_law_law_119 : decode b_law_law 119 = .ok (.aload_n 0, 1) := by decide +kernel
theorem d_law_law_120 : decode b_law_law 120 = .ok (.iload 4, 2) := by decide +kernel
theorem d_law_law_122 : decode b_law_law 122 = .ok (.iconst 2, 1) := by decide +kernel
theorem d_law_law_123 : decode b_law_law 123 = .ok (.iadd, 1) := by decide +kernel
theorem d_law_law_124 : decode b_law_law 124 = .ok (.iaload, 1) := by decide +kernel
theorem d_law_law_125 : decode b_law_law 125 = .ok (.aload_n 0, 1) := by decide +kernel
theorem d_law_law_126 : decode b_law_law 126 = .ok (.iload 4, 2) := by decide +kernel
theorem d_law_law_128 : decode b_law_law 128 = .ok (.iconst 3, 1) := by decide +kernel
theorem d_law_law_129 : decode b_law_law 129 = .ok (.iadd, 1) := by decide +kernel
theorem d_law_law_130 : decode b_law_law 130 = .ok (.iaload, 1) := by decide +kernel
theorem d_law_law_131 : decode b_law_law 131 = .ok (.aload_n 0, 1) := by decide +kernel
theorem d_law_law_132 : decode b_law_law 132 = .ok (.iload 4, 2) := by decide +kernel
theorem d_law_law_134 : decode b_law_law 134 = .ok (.iconst 4, 1) := by decide +kernel
theorem d_law_law_135 : decode b_law_law 135 = .ok (.iadd, 1) := by decide +kernel
theorem d_law_law_136 : decode b_law_law 136 = .ok (.iaload, 1) := by decide +kernel
theorem d_law_law_137 : decode b_law_law 137 = .ok (.aload_n 0, 1) := by decide +kernel
theorem d_law_law_138 : decode b_law_law 138 = .ok (.iload 4, 2) := by decide +kernel
theorem d_law_law_140 : decode b_law_law 140 = .ok (.iconst 5, 1) := by decide +kernel
theorem d_law_law_141 : decode b_law_law 141 = .ok (.iadd, 1) := by decide +kernel
theorem d_law_law_142 : decode b_law_law 142 = .ok (.iaload, 1) := by decide +kernel
theorem d_law_law_143 : decode b_law_law 143 = .ok (.aload_n 3, 1) := by decide +kernel
theorem d_law_law_144 : decode b_law_law 144 = .ok (.invokestatic 68, 3) := by decide +kernel
theorem d_law_law_147 : decode b_law_law 147 = .ok (.istore 5, 2) := by decide +kernel
theorem d_law_law_149 : decode b_law_law 149 = .ok (.aload_n 2, 1) := by decide +kernel
theorem d_law_law_150 : decode b_law_law 150 = .ok (.aload_n 0, 1) := by decide +kernel
theorem d_law_law_151 : decode b_law_law 151 = .ok (.iload 4, 2) := by decide +kernel
theorem d_law_law_153 : decode b_law_law 153 = .ok (.iconst 1, 1) := by decide +kernel
theorem d_law_law_154 : decode b_law_law 154 = .ok (.iadd, 1) := by decide +kernel
theorem d_law_law_155 : decode b_law_law 155 = .ok (.iaload, 1) := by decide +kernel
theorem d_law_law_156 : decode b_law_law 156 = .ok (.aload_n 0, 1) := by decide +kernel
theorem d_law_law_157 : decode b_law_law 157 = .ok (.iload 4, 2) := by decide +kernel
theorem d_law_law_159 : decode b_law_law 159 = .ok (.iconst 2, 1) := by decide +kernel
theorem d_law_law_160 : decode b_law_law 160 = .ok (.iadd, 1) := by decide +kernel
theorem d_law_law_161 : decode b_law_law 161 = .ok (.iaload, 1) := by decide +kernel
theorem d_law_law_162 : decode b_law_law 162 = .ok (.aload_n 0, 1) := by decide +kernel
theorem d_law_law_163 : decode b_law_law 163 = .ok (.iload 4, 2) := by decide +kernel
theorem d_law_law_165 : decode b_law_law 165 = .ok (.iconst 3, 1) := by decide +kernel
theorem d_law_law_166 : decode b_law_law 166 = .ok (.iadd, 1) := by decide +kernel
theorem d_law_law_167 : decode b_law_law 167 = .ok (.iaload, 1) := by decide +kernel
theorem d_law_law_168 : decode b_law_law 168 = .ok (.aload_n 0, 1) := by decide +kernel
theorem d_law_law_169 : decode b_law_law 169 = .ok (.iload 4, 2) := by decide +kernel
theorem d_law_law_171 : decode b_law_law 171 = .ok (.iconst 4, 1) := by decide +kernel
theorem d_law_law_172 : decode b_law_law 172 = .ok (.iadd, 1) := by decide +kernel
theorem d_law_law_173 : decode b_law_law 173 = .ok (.iaload, 1) := by decide +kernel
theorem d_law_law_174 : decode b_law_law 174 = .ok (.aload_n 0, 1) := by decide +kernel
theorem d_law_law_175 : decode b_law_law 175 = .ok (.iload 4, 2) := by decide +kernel
theorem d_law_law_177 : decode b_law_law 177 = .ok (.iconst 5, 1) := by decide +kernel
theorem d_law_law_178 : decode b_law_law 178 = .ok (.iadd, 1) := by decide +kernel
theorem d_law_law_179 : decode b_law_law 179 = .ok (.iaload, 1) := by decide +kernel
theorem d_law_law_180 : decode b_law_law 180 = .ok (.invokevirtual 73, 3) := by decide +kernel
theorem d_law_law_183 : decode b_law_law 183 = .ok (.istore 6, 2) := by decide +kernel
theorem d_law_law_185 : decode b_law_law 185 = .ok (.aload_n 2, 1) := by decide +kernel
theorem d_law_law_186 : decode b_law_law 186 = .ok (.invokevirtual 74, 3) := by decide +kernel
theorem d_law_law_189 : decode b_law_law 189 = .ok (.iload 5, 2) := by decide +kernel
theorem d_law_law_191 : decode b_law_law 191 = .ok (.if_icmp .eq 5, 3) := by decide +kernel
theorem d_law_law_194 : decode b_law_law 194 = .ok (.iconst 0, 1) := by decide +kernel
theorem d_law_law_195 : decode b_law_law 195 = .ok (.ireturn, 1) := by decide +kernel
theorem d_law_law_196 : decode b_law_law 196 = .ok (.iload 5, 2) := by decide +kernel
theorem d_law_law_198 : decode b_law_law 198 = .ok (.ifCond .ne 15, 3) := by decide +kernel
theorem d_law_law_201 : decode b_law_law 201 = .ok (.aload_n 3, 1) := by decide +kernel
theorem d_law_law_202 : decode b_law_law 202 = .ok (.iconst 0, 1) := by decide +kernel
theorem d_law_law_203 : decode b_law_law 203 = .ok (.laload, 1) := by decide +kernel
theorem d_law_law_204 : decode b_law_law 204 = .ok (.iload 6, 2) := by decide +kernel
theorem d_law_law_206 : decode b_law_law 206 = .ok (.i2l, 1) := by decide +kernel
theorem d_law_law_207 : decode b_law_law 207 = .ok (.lcmp, 1) := by decide +kernel
theorem d_law_law_208 : decode b_law_law 208 = .ok (.ifCond .eq 5, 3) := by decide +kernel
theorem d_law_law_211 : decode b_law_law 211 = .ok (.iconst 0, 1) := by decide +kernel
theorem d_law_law_212 : decode b_law_law 212 = .ok (.ireturn, 1) := by decide +kernel
theorem d_law_law_213 : decode b_law_law 213 = .ok (.goto 819, 3) := by decide +kernel
theorem d_law_law_216 : decode b_law_law 216 = .ok (.aload_n 1, 1) := by decide +kernel
theorem d_law_law_217 : decode b_law_law 217 = .ok (.aload_n 0, 1) := by decide +kernel
theorem d_law_law_218 : decode b_law_law 218 = .ok (.iload 4, 2) := by decide +kernel
theorem d_law_law_220 : decode b_law_law 220 = .ok (.iconst 1, 1) := by decide +kernel
theorem d_law_law_221 : decode b_law_law 221 = .ok (.iadd, 1) := by decide +kernel
theorem d_law_law_222 : decode b_law_law 222 = .ok (.iaload, 1) := by decide +kernel
theorem d_law_law_223 : decode b_law_law 223 = .ok (.aload_n 3, 1) := by decide +kernel
theorem d_law_law_224 : decode b_law_law 224 = .ok (.invokestatic 78, 3) := by decide +kernel
theorem d_law_law_227 : decode b_law_law 227 = .ok (.istore 5, 2) := by decide +kernel
theorem d_law_law_229 : decode b_law_law 229 = .ok (.aload_n 2, 1) := by decide +kernel
theorem d_law_law_230 : decode b_law_law 230 = .ok (.aload_n 0, 1) := by decide +kernel
theorem d_law_law_231 : decode b_law_law 231 = .ok (.iload 4, 2) := by decide +kernel
theorem d_law_law_233 : decode b_law_law 233 = .ok (.iconst 1, 1) := by decide +kernel
theorem d_law_law_234 : decode b_law_law 234 = .ok (.iadd, 1) := by decide +kernel
theorem d_law_law_235 : decode b_law_law 235 = .ok (.iaload, 1) := by decide +kernel
theorem d_law_law_236 : decode b_law_law 236 = .ok (.invokevirtual 81, 3) := by decide +kernel
theorem d_law_law_239 : decode b_law_law 239 = .ok (.istore 6, 2) := by decide +kernel
theorem d_law_law_241 : decode b_law_law 241 = .ok (.aload_n 2, 1) := by decide +kernel
theorem d_law_law_242 : decode b_law_law 242 = .ok (.invokevirtual 74, 3) := by decide +kernel
theorem d_law_law_245 : decode b_law_law 245 = .ok (.iload 5, 2) := by decide +kernel
theorem d_law_law_247 : decode b_law_law 247 = .ok (.if_icmp .eq 5, 3) := by decide +kernel
theorem d_law_law_250 : decode b_law_law 250 = .ok (.iconst 0, 1) := by decide +kernel
theorem d_law_law_251 : decode b_law_law 251 = .ok (.ireturn, 1) := by decide +kernel
theorem d_law_law_252 : decode b_law_law 252 = .ok (.iload 5, 2) := by decide +kernel
theorem d_law_law_254 : decode b_law_law 254 = .ok (.ifCond .ne 15, 3) := by decide +kernel
theorem d_law_law_257 : decode b_law_law 257 = .ok (.aload_n 3, 1) := by decide +kernel
theorem d_law_law_258 : decode b_law_law 258 = .ok (.iconst 0, 1) := by decide +kernel
theorem d_law_law_259 : decode b_law_law 259 = .ok (.laload, 1) := by decide +kernel
theorem d_law_law_260 : decode b_law_law 260 = .ok (.iload 6, 2) := by decide +kernel
theorem d_law_law_262 : decode b_law_law 262 = .ok (.i2l, 1) := by decide +kernel
theorem d_law_law_263 : decode b_law_law 263 = .ok (.lcmp, 1) := by decide +kernel
theorem d_law_law_264 : decode b_law_law 264 = .ok (.ifCond .eq 5, 3) := by decide +kernel
theorem d_law_law_267 : decode b_law_law 267 = .ok (.iconst 0, 1) := by decide +kernel
theorem d_law_law_268 : decode b_law_law 268 = .ok (.ireturn, 1) := by decide +kernel
theorem d_law_law_269 : decode b_law_law 269 = .ok (.goto 763, 3) := by decide +kernel
theorem d_law_law_272 : decode b_law_law 272 = .ok (.aload_n 1, 1) := by decide +kernel
theorem d_law_law_273 : decode b_law_law 273 = .ok (.invokevirtual 82, 3) := by decide +kernel
theorem d_law_law_276 : decode b_law_law 276 = .ok (.aload_n 2, 1) := by decide +kernel
theorem d_law_law_277 : decode b_law_law 277 = .ok (.invokevirtual 85, 3) := by decide +kernel
theorem d_law_law_280 : decode b_law_law 280 = .ok (.if_icmp .eq 752, 3) := by decide +kernel
theorem d_law_law_283 : decode b_law_law 283 = .ok (.iconst 0, 1) := by decide +kernel
theorem d_law_law_284 : decode b_law_law 284 = .ok (.ireturn, 1) := by decide +kernel
theorem d_law_law_285 : decode b_law_law 285 = .ok (.aload_n 1, 1) := by decide +kernel
theorem d_law_law_286 : decode b_law_law 286 = .ok (.aload_n 0, 1) := by decide +kernel
theorem d_law_law_287 : decode b_law_law 287 = .ok (.iload 4, 2) := by decide +kernel
theorem d_law_law_289 : decode b_law_law 289 = .ok (.iconst 1, 1) := by decide +kernel
theorem d_law_law_290 : decode b_law_law 290 = .ok (.iadd, 1) := by decide +kernel
theorem d_law_law_291 : decode b_law_law 291 = .ok (.iaload, 1) := by decide +kernel
theorem d_law_law_292 : decode b_law_law 292 = .ok (.aload_n 0, 1) := by decide +kernel
theorem d_law_law_293 : decode b_law_law 293 = .ok (.iload 4, 2) := by decide +kernel
theorem d_law_law_295 : decode b_law_law 295 = .ok (.iconst 2, 1) := by decide +kernel
theorem d_law_law_296 : decode b_law_law 296 = .ok (.iadd, 1) := by decide +kernel
theorem d_law_law_297 : decode b_law_law 297 = .ok (.iaload, 1) := by decide +kernel
theorem d_law_law_298 : decode b_law_law 298 = .ok (.aload_n 0, 1) := by decide +kernel
theorem d_law_law_299 : decode b_law_law 299 = .ok (.iload 4, 2) := by decide +kernel
theorem d_law_law_301 : decode b_law_law 301 = .ok (.iconst 3, 1) := by decide +kernel
theorem d_law_law_302 : decode b_law_law 302 = .ok (.iadd, 1) := by decide +kernel
theorem d_law_law_303 : decode b_law_law 303 = .ok (.iaload, 1) := by decide +kernel
theorem d_law_law_304 : decode b_law_law 304 = .ok (.invokestatic 86, 3) := by decide +kernel
theorem d_law_law_307 : decode b_law_law 307 = .ok (.istore 5, 2) := by decide +kernel
theorem d_law_law_309 : decode b_law_law 309 = .ok (.aload_n 2, 1) := by decide +kernel
theorem d_law_law_310 : decode b_law_law 310 = .ok (.aload_n 0, 1) := by decide +kernel
theorem d_law_law_311 : decode b_law_law 311 = .ok (.iload 4, 2) := by decide +kernel
theorem d_law_law_313 : decode b_law_law 313 = .ok (.iconst 1, 1) := by decide +kernel
theorem d_law_law_314 : decode b_law_law 314 = .ok (.iadd, 1) := by decide +kernel
theorem d_law_law_315 : decode b_law_law 315 = .ok (.iaload, 1) := by decide +kernel
theorem d_law_law_316 : decode b_law_law 316 = .ok (.aload_n 0, 1) := by decide +kernel
theorem d_law_law_317 : decode b_law_law 317 = .ok (.iload 4, 2) := by decide +kernel
theorem d_law_law_319 : decode b_law_law 319 = .ok (.iconst 2, 1) := by decide +kernel
theorem d_law_law_320 : decode b_law_law 320 = .ok (.iadd, 1) := by decide +kernel
theorem d_law_law_321 : decode b_law_law 321 = .ok (.iaload, 1) := by decide +kernel
theorem d_law_law_322 : decode b_law_law 322 = .ok (.aload_n 0, 1) := by decide +kernel
theorem d_law_law_323 : decode b_law_law 323 = .ok (.iload 4, 2) := by decide +kernel
theorem d_law_law_325 : decode b_law_law 325 = .ok (.iconst 3, 1) := by decide +kernel
theorem d_law_law_326 : decode b_law_law 326 = .ok (.iadd, 1) := by decide +kernel
theorem d_law_law_327 : decode b_law_law 327 = .ok (.iaload, 1) := by decide +kernel
theorem d_law_law_328 : decode b_law_law 328 = .ok (.invokevirtual 89, 3) := by decide +kernel
theorem d_law_law_331 : decode b_law_law 331 = .ok (.aload_n 2, 1) := by decide +kernel
theorem d_law_law_332 : decode b_law_law 332 = .ok (.invokevirtual 74, 3) := by decide +kernel
theorem d_law_law_335 : decode b_law_law 335 = .ok (.iload 5, 2) := by decide +kernel
theorem d_law_law_337 : decode b_law_law 337 = .ok (.if_icmp .eq 5, 3) := by decide +kernel
theorem d_law_law_340 : decode b_law_law 340 = .ok (.iconst 0, 1) := by decide +kernel
theorem d_law_law_341 : decode b_law_law 341 = .ok (.ireturn, 1) := by decide +kernel
theorem d_law_law_342 : decode b_law_law 342 = .ok (.goto 690, 3) := by decide +kernel
theorem d_law_law_345 : decode b_law_law 345 = .ok (.aload_n 1, 1) := by decide +kernel
theorem d_law_law_346 : decode b_law_law 346 = .ok (.aload_n 0, 1) := by decide +kernel
theorem d_law_law_347 : decode b_law_law 347 = .ok (.iload 4, 2) := by decide +kernel
theorem d_law_law_349 : decode b_law_law 349 = .ok (.iconst 1, 1) := by decide +kernel
theorem d_law_law_350 : decode b_law_law 350 = .ok (.iadd, 1) := by decide +kernel
theorem d_law_law_351 : decode b_law_law 351 = .ok (.iaload, 1) := by decide +kernel
theorem d_law_law_352 : decode b_law_law 352 = .ok (.aload_n 3, 1) := by decide +kernel
theorem d_law_law_353 : decode b_law_law 353 = .ok (.invokestatic 90, 3) := by decide +kernel
theorem d_law_law_356 : decode b_law_law 356 = .ok (.istore 5, 2) := by decide +kernel
theorem d_law_law_358 : decode b_law_law 358 = .ok (.aload_n 2, 1) := by decide +kernel
theorem d_law_law_359 : decode b_law_law 359 = .ok (.aload_n 0, 1) := by decide +kernel
theorem d_law_law_360 : decode b_law_law 360 = .ok (.iload 4, 2) := by decide +kernel
theorem d_law_law_362 : decode b_law_law 362 = .ok (.iconst 1, 1) := by decide +kernel
theorem d_law_law_363 : decode b_law_law 363 = .ok (.iadd, 1) := by decide +kernel
theorem d_law_law_364 : decode b_law_law 364 = .ok (.iaload, 1) := by decide +kernel
theorem d_law_law_365 : decode b_law_law 365 = .ok (.invokevirtual 92, 3) := by decide +kernel
theorem d_law_law_368 : decode b_law_law 368 = .ok (.istore 6, 2) := by decide +kernel
theorem d_law_law_370 : decode b_law_law 370 = .ok (.aload_n 2, 1) := by decide +kernel
theorem d_law_law_371 : decode b_law_law 371 = .ok (.invokevirtual 74, 3) := by decide +kernel
theorem d_law_law_374 : decode b_law_law 374 = .ok (.iload 5, 2) := by decide +kernel
theorem d_law_law_376 : decode b_law_law 376 = .ok (.if_icmp .eq 5, 3) := by decide +kernel
theorem d_law_law_379 : decode b_law_law 379 = .ok (.iconst 0, 1) := by decide +kernel
theorem d_law_law_380 : decode b_law_law 380 = .ok (.ireturn, 1) := by decide +kernel
theorem d_law_law_381 : decode b_law_law 381 = .ok (.iload 5, 2) := by decide +kernel
theorem d_law_law_383 : decode b_law_law 383 = .ok (.ifCond .ne 15, 3) := by decide +kernel
theorem d_law_law_386 : decode b_law_law 386 = .ok (.aload_n 3, 1) := by decide +kernel
theorem d_law_law_387 : decode b_law_law 387 = .ok (.iconst 0, 1) := by decide +kernel
theorem d_law_law_388 : decode b_law_law 388 = .ok (.laload, 1) := by decide +kernel
theorem d_law_law_389 : decode b_law_law 389 = .ok (.iload 6, 2) := by decide +kernel
theorem d_law_law_391 : decode b_law_law 391 = .ok (.i2l, 1) := by decide +kernel
theorem d_law_law_392 : decode b_law_law 392 = .ok (.lcmp, 1) := by decide +kernel
theorem d_law_law_393 : decode b_law_law 393 = .ok (.ifCond .eq 5, 3) := by decide +kernel
theorem d_law_law_396 : decode b_law_law 396 = .ok (.iconst 0, 1) := by decide +kernel
theorem d_law_law_397 : decode b_law_law 397 = .ok (.ireturn, 1) := by decide +kernel
theorem d_law_law_398 : decode b_law_law 398 = .ok (.goto 634, 3) := by decide +kernel
theorem d_law_law_401 : decode b_law_law 401 = .ok (.aload_n 1, 1) := by decide +kernel
theorem d_law_law_402 : decode b_law_law 402 = .ok (.aload_n 0, 1) := by decide +kernel
theorem d_law_law_403 : decode b_law_law 403 = .ok (.iload 4, 2) := by decide +kernel
theorem d_law_law_405 : decode b_law_law 405 = .ok (.iconst 1, 1) := by decide +kernel
theorem d_law_law_406 : decode b_law_law 406 = .ok (.iadd, 1) := by decide +kernel
theorem d_law_law_407 : decode b_law_law 407 = .ok (.iaload, 1) := by decide +kernel
theorem d_law_law_408 : decode b_law_law 408 = .ok (.aload_n 0, 1) := by decide +kernel
theorem d_law_law_409 : decode b_law_law 409 = .ok (.iload 4, 2) := by decide +kernel
theorem d_law_law_411 : decode b_law_law 411 = .ok (.iconst 2, 1) := by decide +kernel
theorem d_law_law_412 : decode b_law_law 412 = .ok (.iadd, 1) := by decide +kernel
theorem d_law_law_413 : decode b_law_law 413 = .ok (.iaload, 1) := by decide +kernel
theorem d_law_law_414 : decode b_law_law 414 = .ok (.aload_n 0, 1) := by decide +kernel
theorem d_law_law_415 : decode b_law_law 415 = .ok (.iload 4, 2) := by decide +kernel
theorem d_law_law_417 : decode b_law_law 417 = .ok (.iconst 3, 1) := by decide +kernel
theorem d_law_law_418 : decode b_law_law 418 = .ok (.iadd, 1) := by decide +kernel
theorem d_law_law_419 : decode b_law_law 419 = .ok (.iaload, 1) := by decide +kernel
theorem d_law_law_420 : decode b_law_law 420 = .ok (.aload_n 3, 1) := by decide +kernel
theorem d_law_law_421 : decode b_law_law 421 = .ok (.invokestatic 93, 3) := by decide +kernel
theorem d_law_law_424 : decode b_law_law 424 = .ok (.istore 5, 2) := by decide +kernel
theorem d_law_law_426 : decode b_law_law 426 = .ok (.aload_n 2, 1) := by decide +kernel
theorem d_law_law_427 : decode b_law_law 427 = .ok (.aload_n 0, 1) := by decide +kernel
theorem d_law_law_428 : decode b_law_law 428 = .ok (.iload 4, 2) := by decide +kernel
theorem d_law_law_430 : decode b_law_law 430 = .ok (.iconst 1, 1) := by decide +kernel
theorem d_law_law_431 : decode b_law_law 431 = .ok (.iadd, 1) := by decide +kernel
theorem d_law_law_432 : decode b_law_law 432 = .ok (.iaload, 1) := by decide +kernel
theorem d_law_law_433 : decode b_law_law 433 = .ok (.aload_n 0, 1) := by decide +kernel
theorem d_law_law_434 : decode b_law_law 434 = .ok (.iload 4, 2) := by decide +kernel
theorem d_law_law_436 : decode b_law_law 436 = .ok (.iconst 2, 1) := by decide +kernel
theorem d_law_law_437 : decode b_law_law 437 = .ok (.iadd, 1) := by decide +kernel
theorem d_law_law_438 : decode b_law_law 438 = .ok (.iaload, 1) := by decide +kernel
theorem d_law_law_439 : decode b_law_law 439 = .ok (.aload_n 0, 1) := by decide +kernel
theorem d_law_law_440 : decode b_law_law 440 = .ok (.iload 4, 2) := by decide +kernel
theorem d_law_law_442 : decode b_law_law 442 = .ok (.iconst 3, 1) := by decide +kernel
theorem d_law_law_443 : decode b_law_law 443 = .ok (.iadd, 1) := by decide +kernel
theorem d_law_law_444 : decode b_law_law 444 = .ok (.iaload, 1) := by decide +kernel
theorem d_law_law_445 : decode b_law_law 445 = .ok (.invokevirtual 96, 3) := by decide +kernel
theorem d_law_law_448 : decode b_law_law 448 = .ok (.istore 6, 2) := by decide +kernel
theorem d_law_law_450 : decode b_law_law 450 = .ok (.aload_n 2, 1) := by decide +kernel
theorem d_law_law_451 : decode b_law_law 451 = .ok (.invokevirtual 74, 3) := by decide +kernel
theorem d_law_law_454 : decode b_law_law 454 = .ok (.iload 5, 2) := by decide +kernel
theorem d_law_law_456 : decode b_law_law 456 = .ok (.if_icmp .eq 5, 3) := by decide +kernel
theorem d_law_law_459 : decode b_law_law 459 = .ok (.iconst 0, 1) := by decide +kernel
theorem d_law_law_460 : decode b_law_law 460 = .ok (.ireturn, 1) := by decide +kernel
theorem d_law_law_461 : decode b_law_law 461 = .ok (.iload 5, 2) := by decide +kernel
theorem d_law_law_463 : decode b_law_law 463 = .ok (.ifCond .ne 15, 3) := by decide +kernel
theorem d_law_law_466 : decode b_law_law 466 = .ok (.aload_n 3, 1) := by decide +kernel
theorem d_law_law_467 : decode b_law_law 467 = .ok (.iconst 0, 1) := by decide +kernel
theorem d_law_law_468 : decode b_law_law 468 = .ok (.laload, 1) := by decide +kernel
theorem d_law_law_469 : decode b_law_law 469 = .ok (.iload 6, 2) := by decide +kernel
theorem d_law_law_471 : decode b_law_law 471 = .ok (.i2l, 1) := by decide +kernel
theorem d_law_law_472 : decode b_law_law 472 = .ok (.lcmp, 1) := by decide +kernel
theorem d_law_law_473 : decode b_law_law 473 = .ok (.ifCond .eq 5, 3) := by decide +kernel
theorem d_law_law_476 : decode b_law_law 476 = .ok (.iconst 0, 1) := by decide +kernel
theorem d_law_law_477 : decode b_law_law 477 = .ok (.ireturn, 1) := by decide +kernel
theorem d_law_law_478 : decode b_law_law 478 = .ok (.goto 554, 3) := by decide +kernel
theorem d_law_law_481 : decode b_law_law 481 = .ok (.aload_n 1, 1) := by decide +kernel
theorem d_law_law_482 : decode b_law_law 482 = .ok (.aload_n 0, 1) := by decide +kernel
theorem d_law_law_483 : decode b_law_law 483 = .ok (.iload 4, 2) := by decide +kernel
theorem d_law_law_485 : decode b_law_law 485 = .ok (.iconst 1, 1) := by decide +kernel
theorem d_law_law_486 : decode b_law_law 486 = .ok (.iadd, 1) := by decide +kernel
theorem d_law_law_487 : decode b_law_law 487 = .ok (.iaload, 1) := by decide +kernel
theorem d_law_law_488 : decode b_law_law 488 = .ok (.aload_n 0, 1) := by decide +kernel
theorem d_law_law_489 : decode b_law_law 489 = .ok (.iload 4, 2) := by decide +kernel
theorem d_law_law_491 : decode b_law_law 491 = .ok (.iconst 2, 1) := by decide +kernel
theorem d_law_law_492 : decode b_law_law 492 = .ok (.iadd, 1) := by decide +kernel
theorem d_law_law_493 : decode b_law_law 493 = .ok (.iaload, 1) := by decide +kernel
theorem d_law_law_494 : decode b_law_law 494 = .ok (.aload_n 0, 1) := by decide +kernel
theorem d_law_law_495 : decode b_law_law 495 = .ok (.iload 4, 2) := by decide +kernel
theorem d_law_law_497 : decode b_law_law 497 = .ok (.iconst 3, 1) := by decide +kernel
theorem d_law_law_498 : decode b_law_law 498 = .ok (.iadd, 1) := by decide +kernel
theorem d_law_law_499 : decode b_law_law 499 = .ok (.iaload, 1) := by decide +kernel
theorem d_law_law_500 : decode b_law_law 500 = .ok (.aload_n 0, 1) := by decide +kernel
theorem d_law_law_501 : decode b_law_law 501 = .ok (.iload 4, 2) := by decide +kernel
theorem d_law_law_503 : decode b_law_law 503 = .ok (.iconst 4, 1) := by decide +kernel
theorem d_law_law_504 : decode b_law_law 504 = .ok (.iadd, 1) := by decide +kernel
theorem d_law_law_505 : decode b_law_law 505 = .ok (.iaload, 1) := by decide +kernel
theorem d_law_law_506 : decode b_law_law 506 = .ok (.invokestatic 97, 3) := by decide +kernel
theorem d_law_law_509 : decode b_law_law 509 = .ok (.istore 5, 2) := by decide +kernel
theorem d_law_law_511 : decode b_law_law 511 = .ok (.aload_n 2, 1) := by decide +kernel
theorem d_law_law_512 : decode b_law_law 512 = .ok (.aload_n 0, 1) := by decide +kernel
theorem d_law_law_513 : decode b_law_law 513 = .ok (.iload 4, 2) := by decide +kernel
theorem d_law_law_515 : decode b_law_law 515 = .ok (.iconst 1, 1) := by decide +kernel
theorem d_law_law_516 : decode b_law_law 516 = .ok (.iadd, 1) := by decide +kernel
theorem d_law_law_517 : decode b_law_law 517 = .ok (.iaload, 1) := by decide +kernel
theorem d_law_law_518 : decode b_law_law 518 = .ok (.aload_n 0, 1) := by decide +kernel
theorem d_law_law_519 : decode b_law_law 519 = .ok (.iload 4, 2) := by decide +kernel
theorem d_law_law_521 : decode b_law_law 521 = .ok (.iconst 2, 1) := by decide +kernel
theorem d_law_law_522 : decode b_law_law 522 = .ok (.iadd, 1) := by decide +kernel
theorem d_law_law_523 : decode b_law_law 523 = .ok (.iaload, 1) := by decide +kernel
theorem d_law_law_524 : decode b_law_law 524 = .ok (.aload_n 0, 1) := by decide +kernel
theorem d_law_law_525 : decode b_law_law 525 = .ok (.iload 4, 2) := by decide +kernel
theorem d_law_law_527 : decode b_law_law 527 = .ok (.iconst 3, 1) := by decide +kernel
theorem d_law_law_528 : decode b_law_law 528 = .ok (.iadd, 1) := by decide +kernel
theorem d_law_law_529 : decode b_law_law 529 = .ok (.iaload, 1) := by decide +kernel
theorem d_law_law_530 : decode b_law_law 530 = .ok (.aload_n 0, 1) := by decide +kernel
theorem d_law_law_531 : decode b_law_law 531 = .ok (.iload 4, 2) := by decide +kernel
theorem d_law_law_533 : decode b_law_law 533 = .ok (.iconst 4, 1) := by decide +kernel
theorem d_law_law_534 : decode b_law_law 534 = .ok (.iadd, 1) := by decide +kernel
theorem d_law_law_535 : decode b_law_law 535 = .ok (.iaload, 1) := by decide +kernel
theorem d_law_law_536 : decode b_law_law 536 = .ok (.invokevirtual 100, 3) := by decide +kernel
theorem d_law_law_539 : decode b_law_law 539 = .ok (.aload_n 2, 1) := by decide +kernel
theorem d_law_law_540 : decode b_law_law 540 = .ok (.invokevirtual 74, 3) := by decide +kernel
theorem d_law_law_543 : decode b_law_law 543 = .ok (.iload 5, 2) := by decide +kernel
theorem d_law_law_545 : decode b_law_law 545 = .ok (.if_icmp .eq 5, 3) := by decide +kernel
theorem d_law_law_548 : decode b_law_law 548 = .ok (.iconst 0, 1) := by decide +kernel
theorem d_law_law_549 : decode b_law_law 549 = .ok (.ireturn, 1) := by decide +kernel
theorem d_law_law_550 : decode b_law_law 550 = .ok (.goto 482, 3) := by decide +kernel
theorem d_law_law_553 : decode b_law_law 553 = .ok (.aload_n 1, 1) := by decide +kernel
theorem d_law_law_554 : decode b_law_law 554 = .ok (.aload_n 0, 1) := by decide +kernel
theorem d_law_law_555 : decode b_law_law 555 = .ok (.iload 4, 2) := by decide +kernel
theorem d_law_law_557 : decode b_law_law 557 = .ok (.iconst 1, 1) := by decide +kernel
theorem d_law_law_558 : decode b_law_law 558 = .ok (.iadd, 1) := by decide +kernel
theorem d_law_law_559 : decode b_law_law 559 = .ok (.iaload, 1) := by decide +kernel
theorem d_law_law_560 : decode b_law_law 560 = .ok (.aload_n 0, 1) := by decide +kernel
theorem d_law_law_561 : decode b_law_law 561 = .ok (.iload 4, 2) := by decide +kernel
theorem d_law_law_563 : decode b_law_law 563 = .ok (.iconst 2, 1) := by decide +kernel
theorem d_law_law_564 : decode b_law_law 564 = .ok (.iadd, 1) := by decide +kernel
theorem d_law_law_565 : decode b_law_law 565 = .ok (.iaload, 1) := by decide +kernel
theorem d_law_law_566 : decode b_law_law 566 = .ok (.aload_n 0, 1) := by decide +kernel
theorem d_law_law_567 : decode b_law_law 567 = .ok (.iload 4, 2) := by decide +kernel
theorem d_law_law_569 : decode b_law_law 569 = .ok (.iconst 3, 1) := by decide +kernel
theorem d_law_law_570 : decode b_law_law 570 = .ok (.iadd, 1) := by decide +kernel
theorem d_law_law_571 : decode b_law_law 571 = .ok (.iaload, 1) := by decide +kernel
theorem d_law_law_572 : decode b_law_law 572 = .ok (.aload_n 0, 1) := by decide +kernel
theorem d_law_law_573 : decode b_law_law 573 = .ok (.iload 4, 2) := by decide +kernel
theorem d_law_law_575 : decode b_law_law 575 = .ok (.iconst 4, 1) := by decide +kernel
theorem d_law_law_576 : decode b_law_law 576 = .ok (.iadd, 1) := by decide +kernel
theorem d_law_law_577 : decode b_law_law 577 = .ok (.iaload, 1) := by decide +kernel
theorem d_law_law_578 : decode b_law_law 578 = .ok (.aload_n 3, 1) := by decide +kernel
theorem d_law_law_579 : decode b_law_law 579 = .ok (.invokestatic 101, 3) := by decide +kernel
theorem d_law_law_582 : decode b_law_law 582 = .ok (.istore 5, 2) := by decide +kernel
theorem d_law_law_584 : decode b_law_law 584 = .ok (.aload_n 2, 1) := by decide +kernel
theorem d_law_law_585 : decode b_law_law 585 = .ok (.aload_n 0, 1) := by decide +kernel
theorem d_law_law_586 : decode b_law_law 586 = .ok (.iload 4, 2) := by decide +kernel
theorem d_law_law_588 : decode b_law_law 588 = .ok (.iconst 1, 1) := by decide +kernel
theorem d_law_law_589 : decode b_law_law 589 = .ok (.iadd, 1) := by decide +kernel
theorem d_law_law_590 : decode b_law_law 590 = .ok (.iaload, 1) := by decide +kernel
theorem d_law_law_591 : decode b_law_law 591 = .ok (.aload_n 0, 1) := by decide +kernel
theorem d_law_law_592 : decode b_law_law 592 = .ok (.iload 4, 2) := by decide +kernel
theorem d_law_law_594 : decode b_law_law 594 = .ok (.iconst 2, 1) := by decide +kernel
theorem d_law_law_595 : decode b_law_law 595 = .ok (.iadd, 1) := by decide +kernel
theorem d_law_law_596 : decode b_law_law 596 = .ok (.iaload, 1) := by decide +kernel
theorem d_law_law_597 : decode b_law_law 597 = .ok (.aload_n 0, 1) := by decide +kernel
theorem d_law_law_598 : decode b_law_law 598 = .ok (.iload 4, 2) := by decide +kernel
theorem d_law_law_600 : decode b_law_law 600 = .ok (.iconst 3, 1) := by decide +kernel
theorem d_law_law_601 : decode b_law_law 601 = .ok (.iadd, 1) := by decide +kernel
theorem d_law_law_602 : decode b_law_law 602 = .ok (.iaload, 1) := by decide +kernel
theorem d_law_law_603 : decode b_law_law 603 = .ok (.aload_n 0, 1) := by decide +kernel
theorem d_law_law_604 : decode b_law_law 604 = .ok (.iload 4, 2) := by decide +kernel
theorem d_law_law_606 : decode b_law_law 606 = .ok (.iconst 4, 1) := by decide +kernel
theorem d_law_law_607 : decode b_law_law 607 = .ok (.iadd, 1) := by decide +kernel
theorem d_law_law_608 : decode b_law_law 608 = .ok (.iaload, 1) := by decide +kernel
theorem d_law_law_609 : decode b_law_law 609 = .ok (.invokevirtual 104, 3) := by decide +kernel
theorem d_law_law_612 : decode b_law_law 612 = .ok (.istore 6, 2) := by decide +kernel
theorem d_law_law_614 : decode b_law_law 614 = .ok (.aload_n 2, 1) := by decide +kernel
theorem d_law_law_615 : decode b_law_law 615 = .ok (.invokevirtual 74, 3) := by decide +kernel
theorem d_law_law_618 : decode b_law_law 618 = .ok (.iload 5, 2) := by decide +kernel
theorem d_law_law_620 : decode b_law_law 620 = .ok (.if_icmp .eq 5, 3) := by decide +kernel
theorem d_law_law_623 : decode b_law_law 623 = .ok (.iconst 0, 1) := by decide +kernel
theorem d_law_law_624 : decode b_law_law 624 = .ok (.ireturn, 1) := by decide +kernel
theorem d_law_law_625 : decode b_law_law 625 = .ok (.iload 5, 2) := by decide +kernel
theorem d_law_law_627 : decode b_law_law 627 = .ok (.ifCond .ne 15, 3) := by decide +kernel
theorem d_law_law_630 : decode b_law_law 630 = .ok (.aload_n 3, 1) := by decide +kernel
theorem d_law_law_631 : decode b_law_law 631 = .ok (.iconst 0, 1) := by decide +kernel
theorem d_law_law_632 : decode b_law_law 632 = .ok (.laload, 1) := by decide +kernel
theorem d_law_law_633 : decode b_law_law 633 = .ok (.iload 6, 2) := by decide +kernel
theorem d_law_law_635 : decode b_law_law 635 = .ok (.i2l, 1) := by decide +kernel
theorem d_law_law_636 : decode b_law_law 636 = .ok (.lcmp, 1) := by decide +kernel
theorem d_law_law_637 : decode b_law_law 637 = .ok (.ifCond .eq 5, 3) := by decide +kernel
theorem d_law_law_640 : decode b_law_law 640 = .ok (.iconst 0, 1) := by decide +kernel
theorem d_law_law_641 : decode b_law_law 641 = .ok (.ireturn, 1) := by decide +kernel
theorem d_law_law_642 : decode b_law_law 642 = .ok (.goto 390, 3) := by decide +kernel
theorem d_law_law_645 : decode b_law_law 645 = .ok (.aload_n 1, 1) := by decide +kernel
theorem d_law_law_646 : decode b_law_law 646 = .ok (.aload_n 0, 1) := by decide +kernel
theorem d_law_law_647 : decode b_law_law 647 = .ok (.iload 4, 2) := by decide +kernel
theorem d_law_law_649 : decode b_law_law 649 = .ok (.iconst 1, 1) := by decide +kernel
theorem d_law_law_650 : decode b_law_law 650 = .ok (.iadd, 1) := by decide +kernel
theorem d_law_law_651 : decode b_law_law 651 = .ok (.iaload, 1) := by decide +kernel
theorem d_law_law_652 : decode b_law_law 652 = .ok (.aload_n 0, 1) := by decide +kernel
theorem d_law_law_653 : decode b_law_law 653 = .ok (.iload 4, 2) := by decide +kernel
theorem d_law_law_655 : decode b_law_law 655 = .ok (.iconst 2, 1) := by decide +kernel
theorem d_law_law_656 : decode b_law_law 656 = .ok (.iadd, 1) := by decide +kernel
theorem d_law_law_657 : decode b_law_law 657 = .ok (.iaload, 1) := by decide +kernel
theorem d_law_law_658 : decode b_law_law 658 = .ok (.aload_n 0, 1) := by decide +kernel
theorem d_law_law_659 : decode b_law_law 659 = .ok (.iload 4, 2) := by decide +kernel
theorem d_law_law_661 : decode b_law_law 661 = .ok (.iconst 3, 1) := by decide +kernel
theorem d_law_law_662 : decode b_law_law 662 = .ok (.iadd, 1) := by decide +kernel
theorem d_law_law_663 : decode b_law_law 663 = .ok (.iaload, 1) := by decide +kernel
theorem d_law_law_664 : decode b_law_law 664 = .ok (.aload_n 3, 1) := by decide +kernel
theorem d_law_law_665 : decode b_law_law 665 = .ok (.invokestatic 105, 3) := by decide +kernel
theorem d_law_law_668 : decode b_law_law 668 = .ok (.istore 5, 2) := by decide +kernel
theorem d_law_law_670 : decode b_law_law 670 = .ok (.aload_n 2, 1) := by decide +kernel
theorem d_law_law_671 : decode b_law_law 671 = .ok (.aload_n 0, 1) := by decide +kernel
theorem d_law_law_672 : decode b_law_law 672 = .ok (.iload 4, 2) := by decide +kernel
theorem d_law_law_674 : decode b_law_law 674 = .ok (.iconst 1, 1) := by decide +kernel
theorem d_law_law_675 : decode b_law_law 675 = .ok (.iadd, 1) := by decide +kernel
theorem d_law_law_676 : decode b_law_law 676 = .ok (.iaload, 1) := by decide +kernel
theorem d_law_law_677 : decode b_law_law 677 = .ok (.aload_n 0, 1) := by decide +kernel
theorem d_law_law_678 : decode b_law_law 678 = .ok (.iload 4, 2) := by decide +kernel
theorem d_law_law_680 : decode b_law_law 680 = .ok (.iconst 2, 1) := by decide +kernel
theorem d_law_law_681 : decode b_law_law 681 = .ok (.iadd, 1) := by decide +kernel
theorem d_law_law_682 : decode b_law_law 682 = .ok (.iaload, 1) := by decide +kernel
theorem d_law_law_683 : decode b_law_law 683 = .ok (.aload_n 0, 1) := by decide +kernel
theorem d_law_law_684 : decode b_law_law 684 = .ok (.iload 4, 2) := by decide +kernel
theorem d_law_law_686 : decode b_law_law 686 = .ok (.iconst 3, 1) := by decide +kernel
theorem d_law_law_687 : decode b_law_law 687 = .ok (.iadd, 1) := by decide +kernel
theorem d_law_law_688 : decode b_law_law 688 = .ok (.iaload, 1) := by decide +kernel
theorem d_law_law_689 : decode b_law_law 689 = .ok (.invokevirtual 107, 3) := by decide +kernel
theorem d_law_law_692 : decode b_law_law 692 = .ok (.istore 6, 2) := by decide +kernel
theorem d_law_law_694 : decode b_law_law 694 = .ok (.aload_n 2, 1) := by decide +kernel
theorem d_law_law_695 : decode b_law_law 695 = .ok (.invokevirtual 74, 3) := by decide +kernel
theorem d_law_law_698 : decode b_law_law 698 = .ok (.iload 5, 2) := by decide +kernel
theorem d_law_law_700 : decode b_law_law 700 = .ok (.if_icmp .eq 5, 3) := by decide +kernel
theorem d_law_law_703 : decode b_law_law 703 = .ok (.iconst 0, 1) := by decide +kernel
theorem d_law_law_704 : decode b_law_law 704 = .ok (.ireturn, 1) := by decide +kernel
theorem d_law_law_705 : decode b_law_law 705 = .ok (.iload 5, 2) := by decide +kernel
theorem d_law_law_707 : decode b_law_law 707 = .ok (.ifCond .ne 15, 3) := by decide +kernel
theorem d_law_law_710 : decode b_law_law 710 = .ok (.aload_n 3, 1) := by decide +kernel
theorem d_law_law_711 : decode b_law_law 711 = .ok (.iconst 0, 1) := by decide +kernel
theorem d_law_law_712 : decode b_law_law 712 = .ok (.laload, 1) := by decide +kernel
theorem d_law_law_713 : decode b_law_law 713 = .ok (.iload 6, 2) := by decide +kernel
theorem d_law_law_715 : decode b_law_law 715 = .ok (.i2l, 1) := by decide +kernel
theorem d_law_law_716 : decode b_law_law 716 = .ok (.lcmp, 1) := by decide +kernel
theorem d_law_law_717 : decode b_law_law 717 = .ok (.ifCond .eq 5, 3) := by decide +kernel
theorem d_law_law_720 : decode b_law_law 720 = .ok (.iconst 0, 1) := by decide +kernel
theorem d_law_law_721 : decode b_law_law 721 = .ok (.ireturn, 1) := by decide +kernel
theorem d_law_law_722 : decode b_law_law 722 = .ok (.goto 310, 3) := by decide +kernel
theorem d_law_law_725 : decode b_law_law 725 = .ok (.aload_n 1, 1) := by decide +kernel
theorem d_law_law_726 : decode b_law_law 726 = .ok (.aload_n 0, 1) := by decide +kernel
theorem d_law_law_727 : decode b_law_law 727 = .ok (.iload 4, 2) := by decide +kernel
theorem d_law_law_729 : decode b_law_law 729 = .ok (.iconst 1, 1) := by decide +kernel
theorem d_law_law_730 : decode b_law_law 730 = .ok (.iadd, 1) := by decide +kernel
theorem d_law_law_731 : decode b_law_law 731 = .ok (.iaload, 1) := by decide +kernel
theorem d_law_law_732 : decode b_law_law 732 = .ok (.aload_n 0, 1) := by decide +kernel
theorem d_law_law_733 : decode b_law_law 733 = .ok (.iload 4, 2) := by decide +kernel
theorem d_law_law_735 : decode b_law_law 735 = .ok (.iconst 2, 1) := by decide +kernel
theorem d_law_law_736 : decode b_law_law 736 = .ok (.iadd, 1) := by decide +kernel
theorem d_law_law_737 : decode b_law_law 737 = .ok (.iaload, 1) := by decide +kernel
theorem d_law_law_738 : decode b_law_law 738 = .ok (.aload_n 0, 1) := by decide +kernel
theorem d_law_law_739 : decode b_law_law 739 = .ok (.iload 4, 2) := by decide +kernel
theorem d_law_law_741 : decode b_law_law 741 = .ok (.iconst 3, 1) := by decide +kernel
theorem d_law_law_742 : decode b_law_law 742 = .ok (.iadd, 1) := by decide +kernel
theorem d_law_law_743 : decode b_law_law 743 = .ok (.iaload, 1) := by decide +kernel
theorem d_law_law_744 : decode b_law_law 744 = .ok (.aload_n 0, 1) := by decide +kernel
theorem d_law_law_745 : decode b_law_law 745 = .ok (.iload 4, 2) := by decide +kernel
theorem d_law_law_747 : decode b_law_law 747 = .ok (.iconst 4, 1) := by decide +kernel
theorem d_law_law_748 : decode b_law_law 748 = .ok (.iadd, 1) := by decide +kernel
theorem d_law_law_749 : decode b_law_law 749 = .ok (.iaload, 1) := by decide +kernel
theorem d_law_law_750 : decode b_law_law 750 = .ok (.invokestatic 108, 3) := by decide +kernel
theorem d_law_law_753 : decode b_law_law 753 = .ok (.istore 5, 2) := by decide +kernel
theorem d_law_law_755 : decode b_law_law 755 = .ok (.aload_n 2, 1) := by decide +kernel
theorem d_law_law_756 : decode b_law_law 756 = .ok (.aload_n 0, 1) := by decide +kernel
theorem d_law_law_757 : decode b_law_law 757 = .ok (.iload 4, 2) := by decide +kernel
theorem d_law_law_759 : decode b_law_law 759 = .ok (.iconst 1, 1) := by decide +kernel
theorem d_law_law_760 : decode b_law_law 760 = .ok (.iadd, 1) := by decide +kernel
theorem d_law_law_761 : decode b_law_law 761 = .ok (.iaload, 1) := by decide +kernel
theorem d_law_law_762 : decode b_law_law 762 = .ok (.aload_n 0, 1) := by decide +kernel
theorem d_law_law_763 : decode b_law_law 763 = .ok (.iload 4, 2) := by decide +kernel
theorem d_law_law_765 : decode b_law_law 765 = .ok (.iconst 2, 1) := by decide +kernel
theorem d_law_law_766 : decode b_law_law 766 = .ok (.iadd, 1) := by decide +kernel
theorem d_law_law_767 : decode b_law_law 767 = .ok (.iaload, 1) := by decide +kernel
theorem d_law_law_768 : decode b_law_law 768 = .ok (.aload_n 0, 1) := by decide +kernel
theorem d_law_law_769 : decode b_law_law 769 = .ok (.iload 4, 2) := by decide +kernel
theorem d_law_law_771 : decode b_law_law 771 = .ok (.iconst 3, 1) := by decide +kernel
theorem d_law_law_772 : decode b_law_law 772 = .ok (.iadd, 1) := by decide +kernel
theorem d_law_law_773 : decode b_law_law 773 = .ok (.iaload, 1) := by decide +kernel
theorem d_law_law_774 : decode b_law_law 774 = .ok (.aload_n 0, 1) := by decide +kernel
theorem d_law_law_775 : decode b_law_law 775 = .ok (.iload 4, 2) := by decide +kernel
theorem d_law_law_777 : decode b_law_law 777 = .ok (.iconst 4, 1) := by decide +kernel
theorem d_law_law_778 : decode b_law_law 778 = .ok (.iadd, 1) := by decide +kernel
theorem d_law_law_779 : decode b_law_law 779 = .ok (.iaload, 1) := by decide +kernel
theorem d_law_law_780 : decode b_law_law 780 = .ok (.invokevirtual 110, 3) := by decide +kernel
theorem d_law_law_783 : decode b_law_law 783 = .ok (.aload_n 2, 1) := by decide +kernel
theorem d_law_law_784 : decode b_law_law 784 = .ok (.invokevirtual 74, 3) := by decide +kernel
theorem d_law_law_787 : decode b_law_law 787 = .ok (.iload 5, 2) := by decide +kernel
theorem d_law_law_789 : decode b_law_law 789 = .ok (.if_icmp .eq 5, 3) := by decide +kernel
theorem d_law_law_792 : decode b_law_law 792 = .ok (.iconst 0, 1) := by decide +kernel
theorem d_law_law_793 : decode b_law_law 793 = .ok (.ireturn, 1) := by decide +kernel
theorem d_law_law_794 : decode b_law_law 794 = .ok (.goto 238, 3) := by decide +kernel
theorem d_law_law_797 : decode b_law_law 797 = .ok (.aload_n 1, 1) := by decide +kernel
theorem d_law_law_798 : decode b_law_law 798 = .ok (.aload_n 0, 1) := by decide +kernel
theorem d_law_law_799 : decode b_law_law 799 = .ok (.iload 4, 2) := by decide +kernel
theorem d_law_law_801 : decode b_law_law 801 = .ok (.iconst 1, 1) := by decide +kernel
theorem d_law_law_802 : decode b_law_law 802 = .ok (.iadd, 1) := by decide +kernel
theorem d_law_law_803 : decode b_law_law 803 = .ok (.iaload, 1) := by decide +kernel
theorem d_law_law_804 : decode b_law_law 804 = .ok (.aload_n 3, 1) := by decide +kernel
theorem d_law_law_805 : decode b_law_law 805 = .ok (.invokestatic 111, 3) := by decide +kernel
theorem d_law_law_808 : decode b_law_law 808 = .ok (.istore 5, 2) := by decide +kernel
theorem d_law_law_810 : decode b_law_law 810 = .ok (.aload_n 2, 1) := by decide +kernel
theorem d_law_law_811 : decode b_law_law 811 = .ok (.aload_n 0, 1) := by decide +kernel
theorem d_law_law_812 : decode b_law_law 812 = .ok (.iload 4, 2) := by decide +kernel
theorem d_law_law_814 : decode b_law_law 814 = .ok (.iconst 1, 1) := by decide +kernel
theorem d_law_law_815 : decode b_law_law 815 = .ok (.iadd, 1) := by decide +kernel
theorem d_law_law_816 : decode b_law_law 816 = .ok (.iaload, 1) := by decide +kernel
theorem d_law_law_817 : decode b_law_law 817 = .ok (.invokevirtual 113, 3) := by decide +kernel
theorem d_law_law_820 : decode b_law_law 820 = .ok (.istore 6, 2) := by decide +kernel
theorem d_law_law_822 : decode b_law_law 822 = .ok (.aload_n 2, 1) := by decide +kernel
theorem d_law_law_823 : decode b_law_law 823 = .ok (.invokevirtual 74, 3) := by decide +kernel
theorem d_law_law_826 : decode b_law_law 826 = .ok (.iload 5, 2) := by decide +kernel
theorem d_law_law_828 : decode b_law_law 828 = .ok (.if_icmp .eq 5, 3) := by decide +kernel
theorem d_law_law_831 : decode b_law_law 831 = .ok (.iconst 0, 1) := by decide +kernel
theorem d_law_law_832 : decode b_law_law 832 = .ok (.ireturn, 1) := by decide +kernel
theorem d_law_law_833 : decode b_law_law 833 = .ok (.iload 5, 2) := by decide +kernel
theorem d_law_law_835 : decode b_law_law 835 = .ok (.ifCond .ne 15, 3) := by decide +kernel
theorem d_law_law_838 : decode b_law_law 838 = .ok (.aload_n 3, 1) := by decide +kernel
theorem d_law_law_839 : decode b_law_law 839 = .ok (.iconst 0, 1) := by decide +kernel
theorem d_law_law_840 : decode b_law_law 840 = .ok (.laload, 1) := by decide +kernel
theorem d_law_law_841 : decode b_law_law 841 = .ok (.iload 6, 2) := by decide +kernel
theorem d_law_law_843 : decode b_law_law 843 = .ok (.i2l, 1) := by decide +kernel
theorem d_law_law_844 : decode b_law_law 844 = .ok (.lcmp, 1) := by decide +kernel
theorem d_law_law_845 : decode b_law_law 845 = .ok (.ifCond .eq 5, 3) := by decide +kernel
theorem d_law_law_848 : decode b_law_law 848 = .ok (.iconst 0, 1) := by decide +kernel
theorem d_law_law_849 : decode b_law_law 849 = .ok (.ireturn, 1) := by decide +kernel
theorem d_law_law_850 : decode b_law_law 850 = .ok (.goto 182, 3) := by decide +kernel
theorem d_law_law_853 : decode b_law_law 853 = .ok (.aload_n 1, 1) := by decide +kernel
theorem d_law_law_854 : decode b_law_law 854 = .ok (.aload_n 0, 1) := by decide +kernel
theorem d_law_law_855 : decode b_law_law 855 = .ok (.iload 4, 2) := by decide +kernel
theorem d_law_law_857 : decode b_law_law 857 = .ok (.iconst 1, 1) := by decide +kernel
theorem d_law_law_858 : decode b_law_law 858 = .ok (.iadd, 1) := by decide +kernel
theorem d_law_law_859 : decode b_law_law 859 = .ok (.iaload, 1) := by decide +kernel
theorem d_law_law_860 : decode b_law_law 860 = .ok (.aload_n 0, 1) := by decide +kernel
theorem d_law_law_861 : decode b_law_law 861 = .ok (.iload 4, 2) := by decide +kernel
theorem d_law_law_863 : decode b_law_law 863 = .ok (.iconst 2, 1) := by decide +kernel
theorem d_law_law_864 : decode b_law_law 864 = .ok (.iadd, 1) := by decide +kernel
theorem d_law_law_865 : decode b_law_law 865 = .ok (.iaload, 1) := by decide +kernel
theorem d_law_law_866 : decode b_law_law 866 = .ok (.aload_n 3, 1) := by decide +kernel
theorem d_law_law_867 : decode b_law_law 867 = .ok (.invokestatic 114, 3) := by decide +kernel
theorem d_law_law_870 : decode b_law_law 870 = .ok (.istore 5, 2) := by decide +kernel
theorem d_law_law_872 : decode b_law_law 872 = .ok (.aload_n 2, 1) := by decide +kernel
theorem d_law_law_873 : decode b_law_law 873 = .ok (.aload_n 0, 1) := by decide +kernel
theorem d_law_law_874 : decode b_law_law 874 = .ok (.iload 4, 2) := by decide +kernel
theorem d_law_law_876 : decode b_law_law 876 = .ok (.iconst 1, 1) := by decide +kernel
theorem d_law_law_877 : decode b_law_law 877 = .ok (.iadd, 1) := by decide +kernel
theorem d_law_law_878 : decode b_law_law 878 = .ok (.iaload, 1) := by decide +kernel
theorem d_law_law_879 : decode b_law_law 879 = .ok (.aload_n 0, 1) := by decide +kernel
theorem d_law_law_880 : decode b_law_law 880 = .ok (.iload 4, 2) := by decide +kernel
theorem d_law_law_882 : decode b_law_law 882 = .ok (.iconst 2, 1) := by decide +kernel
theorem d_law_law_883 : decode b_law_law 883 = .ok (.iadd, 1) := by decide +kernel
theorem d_law_law_884 : decode b_law_law 884 = .ok (.iaload, 1) := by decide +kernel
theorem d_law_law_885 : decode b_law_law 885 = .ok (.invokevirtual 117, 3) := by decide +kernel
theorem d_law_law_888 : decode b_law_law 888 = .ok (.istore 6, 2) := by decide +kernel
theorem d_law_law_890 : decode b_law_law 890 = .ok (.aload_n 2, 1) := by decide +kernel
theorem d_law_law_891 : decode b_law_law 891 = .ok (.invokevirtual 74, 3) := by decide +kernel
theorem d_law_law_894 : decode b_law_law 894 = .ok (.iload 5, 2) := by decide +kernel
theorem d_law_law_896 : decode b_law_law 896 = .ok (.if_icmp .eq 5, 3) := by decide +kernel
theorem d_law_law_899 : decode b_law_law 899 = .ok (.iconst 0, 1) := by decide +kernel
theorem d_law_law_900 : decode b_law_law 900 = .ok (.ireturn, 1) := by decide +kernel
theorem d_law_law_901 : decode b_law_law 901 = .ok (.iload 5, 2) := by decide +kernel
theorem d_law_law_903 : decode b_law_law 903 = .ok (.ifCond .ne 15, 3) := by decide +kernel
theorem d_law_law_906 : decode b_law_law 906 = .ok (.aload_n 3, 1) := by decide +kernel
theorem d_law_law_907 : decode b_law_law 907 = .ok (.iconst 0, 1) := by decide +kernel
theorem d_law_law_908 : decode b_law_law 908 = .ok (.laload, 1) := by decide +kernel
theorem d_law_law_909 : decode b_law_law 909 = .ok (.iload 6, 2) := by decide +kernel
theorem d_law_law_911 : decode b_law_law 911 = .ok (.i2l, 1) := by decide +kernel
theorem d_law_law_912 : decode b_law_law 912 = .ok (.lcmp, 1) := by decide +kernel
theorem d_law_law_913 : decode b_law_law 913 = .ok (.ifCond .eq 5, 3) := by decide +kernel
theorem d_law_law_916 : decode b_law_law 916 = .ok (.iconst 0, 1) := by decide +kernel
theorem d_law_law_917 : decode b_law_law 917 = .ok (.ireturn, 1) := by decide +kernel
theorem d_law_law_918 : decode b_law_law 918 = .ok (.goto 114, 3) := by decide +kernel
theorem d_law_law_921 : decode b_law_law 921 = .ok (.aload_n 1, 1) := by decide +kernel
theorem d_law_law_922 : decode b_law_law 922 = .ok (.aload_n 0, 1) := by decide +kernel
theorem d_law_law_923 : decode b_law_law 923 = .ok (.iload 4, 2) := by decide +kernel
theorem d_law_law_925 : decode b_law_law 925 = .ok (.iconst 1, 1) := by decide +kernel
theorem d_law_law_926 : decode b_law_law 926 = .ok (.iadd, 1) := by decide +kernel
theorem d_law_law_927 : decode b_law_law 927 = .ok (.iaload, 1) := by decide +kernel
theorem d_law_law_928 : decode b_law_law 928 = .ok (.aload_n 3, 1) := by decide +kernel
theorem d_law_law_929 : decode b_law_law 929 = .ok (.invokestatic 118, 3) := by decide +kernel
theorem d_law_law_932 : decode b_law_law 932 = .ok (.istore 5, 2) := by decide +kernel
theorem d_law_law_934 : decode b_law_law 934 = .ok (.aload_n 2, 1) := by decide +kernel
theorem d_law_law_935 : decode b_law_law 935 = .ok (.aload_n 0, 1) := by decide +kernel
theorem d_law_law_936 : decode b_law_law 936 = .ok (.iload 4, 2) := by decide +kernel
theorem d_law_law_938 : decode b_law_law 938 = .ok (.iconst 1, 1) := by decide +kernel
theorem d_law_law_939 : decode b_law_law 939 = .ok (.iadd, 1) := by decide +kernel
theorem d_law_law_940 : decode b_law_law 940 = .ok (.iaload, 1) := by decide +kernel
theorem d_law_law_941 : decode b_law_law 941 = .ok (.invokevirtual 120, 3) := by decide +kernel
theorem d_law_law_944 : decode b_law_law 944 = .ok (.lstore 6, 2) := by decide +kernel
theorem d_law_law_946 : decode b_law_law 946 = .ok (.aload_n 2, 1) := by decide +kernel
theorem d_law_law_947 : decode b_law_law 947 = .ok (.invokevirtual 74, 3) := by decide +kernel
theorem d_law_law_950 : decode b_law_law 950 = .ok (.iload 5, 2) := by decide +kernel
theorem d_law_law_952 : decode b_law_law 952 = .ok (.if_icmp .eq 5, 3) := by decide +kernel
theorem d_law_law_955 : decode b_law_law 955 = .ok (.iconst 0, 1) := by decide +kernel
theorem d_law_law_956 : decode b_law_law 956 = .ok (.ireturn, 1) := by decide +kernel
theorem d_law_law_957 : decode b_law_law 957 = .ok (.iload 5, 2) := by decide +kernel
theorem d_law_law_959 : decode b_law_law 959 = .ok (.ifCond .ne 14, 3) := by decide +kernel
theorem d_law_law_962 : decode b_law_law 962 = .ok (.aload_n 3, 1) := by decide +kernel
theorem d_law_law_963 : decode b_law_law 963 = .ok (.iconst 0, 1) := by decide +kernel
theorem d_law_law_964 : decode b_law_law 964 = .ok (.laload, 1) := by decide +kernel
theorem d_law_law_965 : decode b_law_law 965 = .ok (.lload 6, 2) := by decide +kernel
theorem d_law_law_967 : decode b_law_law 967 = .ok (.lcmp, 1) := by decide +kernel
theorem d_law_law_968 : decode b_law_law 968 = .ok (.ifCond .eq 5, 3) := by decide +kernel
theorem d_law_law_971 : decode b_law_law 971 = .ok (.iconst 0, 1) := by decide +kernel
theorem d_law_law_972 : decode b_law_law 972 = .ok (.ireturn, 1) := by decide +kernel
theorem d_law_law_973 : decode b_law_law 973 = .ok (.goto 59, 3) := by decide +kernel
theorem d_law_law_976 : decode b_law_law 976 = .ok (.aload_n 1, 1) := by decide +kernel
theorem d_law_law_977 : decode b_law_law 977 = .ok (.aload_n 0, 1) := by decide +kernel
theorem d_law_law_978 : decode b_law_law 978 = .ok (.iload 4, 2) := by decide +kernel
theorem d_law_law_980 : decode b_law_law 980 = .ok (.iconst 1, 1) := by decide +kernel
theorem d_law_law_981 : decode b_law_law 981 = .ok (.iadd, 1) := by decide +kernel
theorem d_law_law_982 : decode b_law_law 982 = .ok (.iaload, 1) := by decide +kernel
theorem d_law_law_983 : decode b_law_law 983 = .ok (.aload_n 3, 1) := by decide +kernel
theorem d_law_law_984 : decode b_law_law 984 = .ok (.invokestatic 121, 3) := by decide +kernel
theorem d_law_law_987 : decode b_law_law 987 = .ok (.istore 5, 2) := by decide +kernel
theorem d_law_law_989 : decode b_law_law 989 = .ok (.aload_n 2, 1) := by decide +kernel
theorem d_law_law_990 : decode b_law_law 990 = .ok (.aload_n 0, 1) := by decide +kernel
theorem d_law_law_991 : decode b_law_law 991 = .ok (.iload 4, 2) := by decide +kernel
theorem d_law_law_993 : decode b_law_law 993 = .ok (.iconst 1, 1) := by decide +kernel
theorem d_law_law_994 : decode b_law_law 994 = .ok (.iadd, 1) := by decide +kernel
theorem d_law_law_995 : decode b_law_law 995 = .ok (.iaload, 1) := by decide +kernel
theorem d_law_law_996 : decode b_law_law 996 = .ok (.invokevirtual 123, 3) := by decide +kernel
theorem d_law_law_999 : decode b_law_law 999 = .ok (.istore 6, 2) := by decide +kernel
theorem d_law_law_1001 : decode b_law_law 1001 = .ok (.aload_n 2, 1) := by decide +kernel
theorem d_law_law_1002 : decode b_law_law 1002 = .ok (.invokevirtual 74, 3) := by decide +kernel
theorem d_law_law_1005 : decode b_law_law 1005 = .ok (.iload 5, 2) := by decide +kernel
theorem d_law_law_1007 : decode b_law_law 1007 = .ok (.if_icmp .eq 5, 3) := by decide +kernel
theorem d_law_law_1010 : decode b_law_law 1010 = .ok (.iconst 0, 1) := by decide +kernel
theorem d_law_law_1011 : decode b_law_law 1011 = .ok (.ireturn, 1) := by decide +kernel
theorem d_law_law_1012 : decode b_law_law 1012 = .ok (.iload 5, 2) := by decide +kernel
theorem d_law_law_1014 : decode b_law_law 1014 = .ok (.ifCond .ne 15, 3) := by decide +kernel
theorem d_law_law_1017 : decode b_law_law 1017 = .ok (.aload_n 3, 1) := by decide +kernel
theorem d_law_law_1018 : decode b_law_law 1018 = .ok (.iconst 0, 1) := by decide +kernel
theorem d_law_law_1019 : decode b_law_law 1019 = .ok (.laload, 1) := by decide +kernel
theorem d_law_law_1020 : decode b_law_law 1020 = .ok (.iload 6, 2) := by decide +kernel
theorem d_law_law_1022 : decode b_law_law 1022 = .ok (.i2l, 1) := by decide +kernel
theorem d_law_law_1023 : decode b_law_law 1023 = .ok (.lcmp, 1) := by decide +kernel
theorem d_law_law_1024 : decode b_law_law 1024 = .ok (.ifCond .eq 5, 3) := by decide +kernel
theorem d_law_law_1027 : decode b_law_law 1027 = .ok (.iconst 0, 1) := by decide +kernel
theorem d_law_law_1028 : decode b_law_law 1028 = .ok (.ireturn, 1) := by decide +kernel
theorem d_law_law_1029 : decode b_law_law 1029 = .ok (.goto 3, 3) := by decide +kernel
theorem d_law_law_1032 : decode b_law_law 1032 = .ok (.iinc 4 6, 3) := by decide +kernel
theorem d_law_law_1035 : decode b_law_law 1035 = .ok (.goto (-1012), 3) := by decide +kernel
theorem d_law_law_1038 : decode b_law_law 1038 = .ok (.iconst 1, 1) := by decide +kernel
theorem d_law_law_1039 : decode b_law_law 1039 = .ok (.ireturn, 1) := by decide +kernel
