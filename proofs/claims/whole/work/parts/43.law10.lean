set_option maxHeartbeats 40000000 in
set_option maxRecDepth 100000 in
theorem w_Law_b18 {p : Program} {l : Launch} {e : Env} {s : State} {m : MethodId} {args : Array Value} {below : List Frame} {meth : Method} {c : Code} {Q : State → Prop} {A : Nat → Prop} {D : va_G} {cI cL cZ : ClassId} {b : Nat} {a_x : Nat} {a_x_in : Nat} {a_x_in_words : Nat} {a_x_out : Nat} {a_x_out_words : Nat} {a_x_counts : Nat} {a_x_codes : Nat} {a_x_codes_lengths : Nat} {a_x_codes_values : Nat} {a_x_codes_cells : Nat} {a_x_tree : Nat} {a_x_tree_lengths : Nat} {a_x_tree_halves : Nat} {a_x_tree_leaves : Nat} {a_x_tree_sorted : Nat} {a_x_tree_starts : Nat} {a_x_tree_sums : Nat} {a_x_tree_above : Nat} {a_x_tree_depths : Nat} {a_x_writer : Nat} {a_x_writer_five : Nat} {a_x_writer_five_row : Nat} {a_x_writer_five_row_words : Nat} {a_x_writer_five_share : Nat} {a_x_writer_five_share_points : Nat} {a_x_writer_five_share_cuts : Nat} {a_x_writer_five_share_queue : Nat} {a_x_writer_five_share_owners : Nat} {a_x_writer_five_share_takes : Nat} {a_x_writer_five_share_bases : Nat} {a_x_writer_five_share_ranked : Nat} {a_x_writer_five_share_starts : Nat} {a_x_writer_five_share_numbers : Nat} {a_x_writer_five_share_walk : Nat} {a_x_writer_six : Nat} {a_x_writer_six_row : Nat} {a_x_writer_six_row_words : Nat} {a_x_writer_six_share : Nat} {a_x_writer_six_share_points : Nat} {a_x_writer_six_share_cuts : Nat} {a_x_writer_six_share_queue : Nat} {a_x_writer_six_share_owners : Nat} {a_x_writer_six_share_takes : Nat} {a_x_writer_six_share_bases : Nat} {a_x_writer_six_share_ranked : Nat} {a_x_writer_six_share_starts : Nat} {a_x_writer_six_share_numbers : Nat} {a_x_writer_six_share_walk : Nat} {a_x_writer_weights : Nat} {a_x_writer_counts : Nat} {a_x_reader : Nat} {a_x_reader_tail : Nat} {a_x_reader_share : Nat} {a_x_reader_share_points : Nat} {a_x_reader_share_owners : Nat} {a_x_reader_share_takes : Nat} {a_x_reader_share_bases : Nat} {a_x_reader_share_ranked : Nat} {a_x_reader_share_starts : Nat} {a_x_reader_share_numbers : Nat} {a_x_reader_share_walk : Nat} {a_x_reader_weights : Nat} {a_x_reader_lengths : Nat} {a_x_streams : Nat} {a_x_streams_symbols : Nat} {a_x_streams_symbols_words : Nat} {a_x_streams_tail : Nat} {a_y : Nat} {a_y_in : Nat} {a_y_out : Nat} {a_y_counts : Nat} {a_y_length : Nat} {a_y_symbolOf : Nat} {a_y_draft : Nat} {a_y_knot : Nat} {a_y_inSum : Nat} {a_y_halved : Nat} {a_y_made : Nat} {a_y_weight : Nat} {a_y_points : Nat} {a_y_cutOff : Nat} {a_y_had : Nat} {a_y_placeOf : Nat} {o_x_reader_share_cuts : Nat} {o_x_reader_share_queue : Nat} {N L : Nat} {xs : Nat → Int32}  (C : Cx p s m args c code 4 "PrefixMillLaw" D [(cI, .int), (cL, .long), (cZ, .boolean)] A) (hX : va_X b L xs s s.heap) (hbl : b < s.heap.size) (hbA : ¬ A b) (hret : E_Law p l e s m args below meth c Q A D cI cL cZ)  : ∀ z : Nat, I_Law_b18 p l e s m args below meth c Q A D cI cL cZ b a_x a_x_in a_x_in_words a_x_out a_x_out_words a_x_counts a_x_codes a_x_codes_lengths a_x_codes_values a_x_codes_cells a_x_tree a_x_tree_lengths a_x_tree_halves a_x_tree_leaves a_x_tree_sorted a_x_tree_starts a_x_tree_sums a_x_tree_above a_x_tree_depths a_x_writer a_x_writer_five a_x_writer_five_row a_x_writer_five_row_words a_x_writer_five_share a_x_writer_five_share_points a_x_writer_five_share_cuts a_x_writer_five_share_queue a_x_writer_five_share_owners a_x_writer_five_share_takes a_x_writer_five_share_bases a_x_writer_five_share_ranked a_x_writer_five_share_starts a_x_writer_five_share_numbers a_x_writer_five_share_walk a_x_writer_six a_x_writer_six_row a_x_writer_six_row_words a_x_writer_six_share a_x_writer_six_share_points a_x_writer_six_share_cuts a_x_writer_six_share_queue a_x_writer_six_share_owners a_x_writer_six_share_takes a_x_writer_six_share_bases a_x_writer_six_share_ranked a_x_writer_six_share_starts a_x_writer_six_share_numbers a_x_writer_six_share_walk a_x_writer_weights a_x_writer_counts a_x_reader a_x_reader_tail a_x_reader_share a_x_reader_share_points a_x_reader_share_owners a_x_reader_share_takes a_x_reader_share_bases a_x_reader_share_ranked a_x_reader_share_starts a_x_reader_share_numbers a_x_reader_share_walk a_x_reader_weights a_x_reader_lengths a_x_streams a_x_streams_symbols a_x_streams_symbols_words a_x_streams_tail a_y a_y_in a_y_out a_y_counts a_y_length a_y_symbolOf a_y_draft a_y_knot a_y_inSum a_y_halved a_y_made a_y_weight a_y_points a_y_cutOff a_y_had a_y_placeOf o_x_reader_share_cuts o_x_reader_share_queue (f_Law_b18 N L xs  z) := by
  obtain ⟨hx, hb, hml, hown, hts, hK, hA⟩ := C
  intro z
  induction z with
  | zero => intro l3 i_x_place i_x_in_used v_x_in_words i_x_out_used i_x_out_held i_x_out_many v_x_out_words v_x_counts i_x_codes_greatest i_x_codes_known i_x_codes_highest v_x_codes_lengths v_x_codes_values v_x_codes_cells i_x_tree_known i_x_tree_nextLeaf i_x_tree_nextSum v_x_tree_lengths v_x_tree_halves v_x_tree_leaves v_x_tree_sorted v_x_tree_starts v_x_tree_sums v_x_tree_above v_x_tree_depths i_x_writer_five_row_used i_x_writer_five_row_held i_x_writer_five_row_many v_x_writer_five_row_words i_x_writer_five_share_order v_x_writer_five_share_points v_x_writer_five_share_cuts v_x_writer_five_share_queue v_x_writer_five_share_owners v_x_writer_five_share_takes v_x_writer_five_share_bases v_x_writer_five_share_ranked v_x_writer_five_share_starts v_x_writer_five_share_numbers v_x_writer_five_share_walk i_x_writer_six_row_used i_x_writer_six_row_held i_x_writer_six_row_many v_x_writer_six_row_words i_x_writer_six_share_order v_x_writer_six_share_points v_x_writer_six_share_cuts v_x_writer_six_share_queue v_x_writer_six_share_owners v_x_writer_six_share_takes v_x_writer_six_share_bases v_x_writer_six_share_ranked v_x_writer_six_share_starts v_x_writer_six_share_numbers v_x_writer_six_share_walk v_x_writer_weights v_x_writer_counts i_x_reader_known i_x_reader_end i_x_reader_tail_first i_x_reader_tail_left i_x_reader_share_order i_x_reader_share_next v_x_reader_share_points v_x_reader_share_owners v_x_reader_share_takes v_x_reader_share_bases v_x_reader_share_ranked v_x_reader_share_starts v_x_reader_share_numbers v_x_reader_share_walk v_x_reader_weights v_x_reader_lengths i_x_streams_symbols_used v_x_streams_symbols_words i_x_streams_tail_first i_x_streams_tail_left i_y_inLong i_y_goesOn i_y_outLong i_y_greatest i_y_knots i_y_bitsMade i_y_weights i_y_order i_y_bit i_y_bitEnd v_y_in v_y_out v_y_counts v_y_length v_y_symbolOf v_y_draft v_y_knot v_y_inSum v_y_halved v_y_made v_y_weight v_y_points v_y_cutOff v_y_had v_y_placeOf h; cases h
  | succ z ih =>
    intro l3 i_x_place i_x_in_used v_x_in_words i_x_out_used i_x_out_held i_x_out_many v_x_out_words v_x_counts i_x_codes_greatest i_x_codes_known i_x_codes_highest v_x_codes_lengths v_x_codes_values v_x_codes_cells i_x_tree_known i_x_tree_nextLeaf i_x_tree_nextSum v_x_tree_lengths v_x_tree_halves v_x_tree_leaves v_x_tree_sorted v_x_tree_starts v_x_tree_sums v_x_tree_above v_x_tree_depths i_x_writer_five_row_used i_x_writer_five_row_held i_x_writer_five_row_many v_x_writer_five_row_words i_x_writer_five_share_order v_x_writer_five_share_points v_x_writer_five_share_cuts v_x_writer_five_share_queue v_x_writer_five_share_owners v_x_writer_five_share_takes v_x_writer_five_share_bases v_x_writer_five_share_ranked v_x_writer_five_share_starts v_x_writer_five_share_numbers v_x_writer_five_share_walk i_x_writer_six_row_used i_x_writer_six_row_held i_x_writer_six_row_many v_x_writer_six_row_words i_x_writer_six_share_order v_x_writer_six_share_points v_x_writer_six_share_cuts v_x_writer_six_share_queue v_x_writer_six_share_owners v_x_writer_six_share_takes v_x_writer_six_share_bases v_x_writer_six_share_ranked v_x_writer_six_share_starts v_x_writer_six_share_numbers v_x_writer_six_share_walk v_x_writer_weights v_x_writer_counts i_x_reader_known i_x_reader_end i_x_reader_tail_first i_x_reader_tail_left i_x_reader_share_order i_x_reader_share_next v_x_reader_share_points v_x_reader_share_owners v_x_reader_share_takes v_x_reader_share_bases v_x_reader_share_ranked v_x_reader_share_starts v_x_reader_share_numbers v_x_reader_share_walk v_x_reader_weights v_x_reader_lengths i_x_streams_symbols_used v_x_streams_symbols_words i_x_streams_tail_first i_x_streams_tail_left i_y_inLong i_y_goesOn i_y_outLong i_y_greatest i_y_knots i_y_bitsMade i_y_weights i_y_order i_y_bit i_y_bitEnd v_y_in v_y_out v_y_counts v_y_length v_y_symbolOf v_y_draft v_y_knot v_y_inSum v_y_halved v_y_made v_y_weight v_y_points v_y_cutOff v_y_had v_y_placeOf h H locs ls hl hP hD hS
    refine lv_iload_n hx hb d_Law_18 rfl (lv_at hl 3 rfl) ?_
    refine lv_aload_n hx hb d_Law_19 rfl (lv_at hl 0 rfl) ?_
    refine va_slen hx hb hX hbl hbA hS d_Law_20 ?_
    refine lv_iconst (v := 4) hx hb d_Law_21 (by decide) ?_
    refine lv_isub hx hb d_Law_22 ?_
    refine lv_icmp_gt (tgt := 568) hx hb d_Law_23 (by decide) (fun c_1 => ?_) (fun c_1 => ?_)
    · replace h := if_t h c_1
      refine lv_iconst (v := 1) hx hb d_Law_568 (by decide) ?_
      exact hret _ _ _ _ d_Law_569 hS
    · replace h := if_f h c_1
      refine lv_aload_n hx hb d_Law_26 rfl (lv_at hl 0 rfl) ?_
      refine lv_iload_n hx hb d_Law_27 rfl (lv_at hl 3 rfl) ?_
      obtain ⟨g_2, h⟩ := ck_s h
      refine va_sld hx hb hX hbl hbA hS (inb_s g_2) d_Law_28 ?_
      refine lv_bipush (v := 31) hx hb d_Law_29 (by decide) ?_
      refine lv_iand hx hb d_Law_31 ?_
      refine lv_topi (fun sw_3 esw_3 => ?_)
      replace h := nm_s h esw_3
      by_cases c_4 : sw_3 = 0
      · replace h := if_t h c_4
        refine lv_tableIn (off := 88) (tgt := 120) hx hb d_Law_32 (by rw [c_4]; decide) (by rw [c_4]; decide) (by rw [c_4]; rfl) (by decide) ?_
        exact w_Law_b120 ⟨hx, hb, hml, hown, hts, hK, hA⟩ hX hbl hbA hret ih _ _ _ _ _ _ _ _ _ _ _ _ _ _ _ _ _ _ _ _ _ _ _ _ _ _ _ _ _ _ _ _ _ _ _ _ _ _ _ _ _ _ _ _ _ _ _ _ _ _ _ _ _ _ _ _ _ _ _ _ _ _ _ _ _ _ _ _ _ _ _ _ _ _ _ _ _ _ _ _ _ _ _ _ _ _ _ _ _ _ _ _ _ _ _ _ _ _ _ _ _ _ _ h H locs ls (lv_sub hl [0, 1, 2, 3] rfl) hP hD hS
      · replace h := if_f h c_4
        by_cases c_5 : sw_3 = 1
        · replace h := if_t h c_5
          refine lv_tableIn (off := 151) (tgt := 183) hx hb d_Law_32 (by rw [c_5]; decide) (by rw [c_5]; decide) (by rw [c_5]; rfl) (by decide) ?_
          exact w_Law_b183 ⟨hx, hb, hml, hown, hts, hK, hA⟩ hX hbl hbA hret ih _ _ _ _ _ _ _ _ _ _ _ _ _ _ _ _ _ _ _ _ _ _ _ _ _ _ _ _ _ _ _ _ _ _ _ _ _ _ _ _ _ _ _ _ _ _ _ _ _ _ _ _ _ _ _ _ _ _ _ _ _ _ _ _ _ _ _ _ _ _ _ _ _ _ _ _ _ _ _ _ _ _ _ _ _ _ _ _ _ _ _ _ _ _ _ _ _ _ _ _ _ _ _ h H locs ls (lv_sub hl [0, 1, 2, 3] rfl) hP hD hS
        · replace h := if_f h c_5
          by_cases c_6 : sw_3 = 2
          · replace h := if_t h c_6
            refine lv_tableIn (off := 184) (tgt := 216) hx hb d_Law_32 (by rw [c_6]; decide) (by rw [c_6]; decide) (by rw [c_6]; rfl) (by decide) ?_
            exact w_Law_b216 ⟨hx, hb, hml, hown, hts, hK, hA⟩ hX hbl hbA hret ih _ _ _ _ _ _ _ _ _ _ _ _ _ _ _ _ _ _ _ _ _ _ _ _ _ _ _ _ _ _ _ _ _ _ _ _ _ _ _ _ _ _ _ _ _ _ _ _ _ _ _ _ _ _ _ _ _ _ _ _ _ _ _ _ _ _ _ _ _ _ _ _ _ _ _ _ _ _ _ _ _ _ _ _ _ _ _ _ _ _ _ _ _ _ _ _ _ _ _ _ _ _ _ h H locs ls (lv_sub hl [0, 1, 2, 3] rfl) hP hD hS
          · replace h := if_f h c_6
            by_cases c_7 : sw_3 = 3
            · replace h := if_t h c_7
              refine lv_tableIn (off := 195) (tgt := 227) hx hb d_Law_32 (by rw [c_7]; decide) (by rw [c_7]; decide) (by rw [c_7]; rfl) (by decide) ?_
              exact w_Law_b227 ⟨hx, hb, hml, hown, hts, hK, hA⟩ hX hbl hbA hret ih _ _ _ _ _ _ _ _ _ _ _ _ _ _ _ _ _ _ _ _ _ _ _ _ _ _ _ _ _ _ _ _ _ _ _ _ _ _ _ _ _ _ _ _ _ _ _ _ _ _ _ _ _ _ _ _ _ _ _ _ _ _ _ _ _ _ _ _ _ _ _ _ _ _ _ _ _ _ _ _ _ _ _ _ _ _ _ _ _ _ _ _ _ _ _ _ _ _ _ _ _ _ _ h H locs ls (lv_sub hl [0, 1, 2, 3] rfl) hP hD hS
            · replace h := if_f h c_7
              by_cases c_8 : sw_3 = 4
              · replace h := if_t h c_8
                refine lv_tableIn (off := 206) (tgt := 238) hx hb d_Law_32 (by rw [c_8]; decide) (by rw [c_8]; decide) (by rw [c_8]; rfl) (by decide) ?_
                exact w_Law_b238 ⟨hx, hb, hml, hown, hts, hK, hA⟩ hX hbl hbA hret ih _ _ _ _ _ _ _ _ _ _ _ _ _ _ _ _ _ _ _ _ _ _ _ _ _ _ _ _ _ _ _ _ _ _ _ _ _ _ _ _ _ _ _ _ _ _ _ _ _ _ _ _ _ _ _ _ _ _ _ _ _ _ _ _ _ _ _ _ _ _ _ _ _ _ _ _ _ _ _ _ _ _ _ _ _ _ _ _ _ _ _ _ _ _ _ _ _ _ _ _ _ _ _ h H locs ls (lv_sub hl [0, 1, 2, 3] rfl) hP hD hS
              · replace h := if_f h c_8
                by_cases c_9 : sw_3 = 5
                · replace h := if_t h c_9
                  refine lv_tableIn (off := 229) (tgt := 261) hx hb d_Law_32 (by rw [c_9]; decide) (by rw [c_9]; decide) (by rw [c_9]; rfl) (by decide) ?_
                  exact w_Law_b261 ⟨hx, hb, hml, hown, hts, hK, hA⟩ hX hbl hbA hret ih _ _ _ _ _ _ _ _ _ _ _ _ _ _ _ _ _ _ _ _ _ _ _ _ _ _ _ _ _ _ _ _ _ _ _ _ _ _ _ _ _ _ _ _ _ _ _ _ _ _ _ _ _ _ _ _ _ _ _ _ _ _ _ _ _ _ _ _ _ _ _ _ _ _ _ _ _ _ _ _ _ _ _ _ _ _ _ _ _ _ _ _ _ _ _ _ _ _ _ _ _ _ _ h H locs ls (lv_sub hl [0, 1, 2, 3] rfl) hP hD hS
                · replace h := if_f h c_9
                  by_cases c_10 : sw_3 = 6
                  · replace h := if_t h c_10
                    refine lv_tableIn (off := 242) (tgt := 274) hx hb d_Law_32 (by rw [c_10]; decide) (by rw [c_10]; decide) (by rw [c_10]; rfl) (by decide) ?_
                    exact w_Law_b274 ⟨hx, hb, hml, hown, hts, hK, hA⟩ hX hbl hbA hret ih _ _ _ _ _ _ _ _ _ _ _ _ _ _ _ _ _ _ _ _ _ _ _ _ _ _ _ _ _ _ _ _ _ _ _ _ _ _ _ _ _ _ _ _ _ _ _ _ _ _ _ _ _ _ _ _ _ _ _ _ _ _ _ _ _ _ _ _ _ _ _ _ _ _ _ _ _ _ _ _ _ _ _ _ _ _ _ _ _ _ _ _ _ _ _ _ _ _ _ _ _ _ _ h H locs ls (lv_sub hl [0, 1, 2, 3] rfl) hP hD hS
                  · replace h := if_f h c_10
                    by_cases c_11 : sw_3 = 7
                    · replace h := if_t h c_11
                      refine lv_tableIn (off := 275) (tgt := 307) hx hb d_Law_32 (by rw [c_11]; decide) (by rw [c_11]; decide) (by rw [c_11]; rfl) (by decide) ?_
                      exact w_Law_b307 ⟨hx, hb, hml, hown, hts, hK, hA⟩ hX hbl hbA hret ih _ _ _ _ _ _ _ _ _ _ _ _ _ _ _ _ _ _ _ _ _ _ _ _ _ _ _ _ _ _ _ _ _ _ _ _ _ _ _ _ _ _ _ _ _ _ _ _ _ _ _ _ _ _ _ _ _ _ _ _ _ _ _ _ _ _ _ _ _ _ _ _ _ _ _ _ _ _ _ _ _ _ _ _ _ _ _ _ _ _ _ _ _ _ _ _ _ _ _ _ _ _ _ h H locs ls (lv_sub hl [0, 1, 2, 3] rfl) hP hD hS
                    · replace h := if_f h c_11
                      by_cases c_12 : sw_3 = 8
                      · replace h := if_t h c_12
                        refine lv_tableIn (off := 288) (tgt := 320) hx hb d_Law_32 (by rw [c_12]; decide) (by rw [c_12]; decide) (by rw [c_12]; rfl) (by decide) ?_
                        exact w_Law_b320 ⟨hx, hb, hml, hown, hts, hK, hA⟩ hX hbl hbA hret ih _ _ _ _ _ _ _ _ _ _ _ _ _ _ _ _ _ _ _ _ _ _ _ _ _ _ _ _ _ _ _ _ _ _ _ _ _ _ _ _ _ _ _ _ _ _ _ _ _ _ _ _ _ _ _ _ _ _ _ _ _ _ _ _ _ _ _ _ _ _ _ _ _ _ _ _ _ _ _ _ _ _ _ _ _ _ _ _ _ _ _ _ _ _ _ _ _ _ _ _ _ _ _ h H locs ls (lv_sub hl [0, 1, 2, 3] rfl) hP hD hS
                      · replace h := if_f h c_12
                        by_cases c_13 : sw_3 = 9
                        · replace h := if_t h c_13
                          refine lv_tableIn (off := 311) (tgt := 343) hx hb d_Law_32 (by rw [c_13]; decide) (by rw [c_13]; decide) (by rw [c_13]; rfl) (by decide) ?_
                          exact w_Law_b343 ⟨hx, hb, hml, hown, hts, hK, hA⟩ hX hbl hbA hret ih _ _ _ _ _ _ _ _ _ _ _ _ _ _ _ _ _ _ _ _ _ _ _ _ _ _ _ _ _ _ _ _ _ _ _ _ _ _ _ _ _ _ _ _ _ _ _ _ _ _ _ _ _ _ _ _ _ _ _ _ _ _ _ _ _ _ _ _ _ _ _ _ _ _ _ _ _ _ _ _ _ _ _ _ _ _ _ _ _ _ _ _ _ _ _ _ _ _ _ _ _ _ _ h H locs ls (lv_sub hl [0, 1, 2, 3] rfl) hP hD hS
                        · replace h := if_f h c_13
                          by_cases c_14 : sw_3 = 10
                          · replace h := if_t h c_14
                            refine lv_tableIn (off := 324) (tgt := 356) hx hb d_Law_32 (by rw [c_14]; decide) (by rw [c_14]; decide) (by rw [c_14]; rfl) (by decide) ?_
                            exact w_Law_b356 ⟨hx, hb, hml, hown, hts, hK, hA⟩ hX hbl hbA hret ih _ _ _ _ _ _ _ _ _ _ _ _ _ _ _ _ _ _ _ _ _ _ _ _ _ _ _ _ _ _ _ _ _ _ _ _ _ _ _ _ _ _ _ _ _ _ _ _ _ _ _ _ _ _ _ _ _ _ _ _ _ _ _ _ _ _ _ _ _ _ _ _ _ _ _ _ _ _ _ _ _ _ _ _ _ _ _ _ _ _ _ _ _ _ _ _ _ _ _ _ _ _ _ h H locs ls (lv_sub hl [0, 1, 2, 3] rfl) hP hD hS
                          · replace h := if_f h c_14
                            by_cases c_15 : sw_3 = 11
                            · replace h := if_t h c_15
                              refine lv_tableIn (off := 337) (tgt := 369) hx hb d_Law_32 (by rw [c_15]; decide) (by rw [c_15]; decide) (by rw [c_15]; rfl) (by decide) ?_
                              exact w_Law_b369 ⟨hx, hb, hml, hown, hts, hK, hA⟩ hX hbl hbA hret ih _ _ _ _ _ _ _ _ _ _ _ _ _ _ _ _ _ _ _ _ _ _ _ _ _ _ _ _ _ _ _ _ _ _ _ _ _ _ _ _ _ _ _ _ _ _ _ _ _ _ _ _ _ _ _ _ _ _ _ _ _ _ _ _ _ _ _ _ _ _ _ _ _ _ _ _ _ _ _ _ _ _ _ _ _ _ _ _ _ _ _ _ _ _ _ _ _ _ _ _ _ _ _ h H locs ls (lv_sub hl [0, 1, 2, 3] rfl) hP hD hS
                            · replace h := if_f h c_15
                              by_cases c_16 : sw_3 = 12
                              · replace h := if_t h c_16
                                refine lv_tableIn (off := 350) (tgt := 382) hx hb d_Law_32 (by rw [c_16]; decide) (by rw [c_16]; decide) (by rw [c_16]; rfl) (by decide) ?_
                                exact w_Law_b382 ⟨hx, hb, hml, hown, hts, hK, hA⟩ hX hbl hbA hret ih _ _ _ _ _ _ _ _ _ _ _ _ _ _ _ _ _ _ _ _ _ _ _ _ _ _ _ _ _ _ _ _ _ _ _ _ _ _ _ _ _ _ _ _ _ _ _ _ _ _ _ _ _ _ _ _ _ _ _ _ _ _ _ _ _ _ _ _ _ _ _ _ _ _ _ _ _ _ _ _ _ _ _ _ _ _ _ _ _ _ _ _ _ _ _ _ _ _ _ _ _ _ _ h H locs ls (lv_sub hl [0, 1, 2, 3] rfl) hP hD hS
                              · replace h := if_f h c_16
                                by_cases c_17 : sw_3 = 13
                                · replace h := if_t h c_17
                                  refine lv_tableIn (off := 389) (tgt := 421) hx hb d_Law_32 (by rw [c_17]; decide) (by rw [c_17]; decide) (by rw [c_17]; rfl) (by decide) ?_
                                  exact w_Law_b421 ⟨hx, hb, hml, hown, hts, hK, hA⟩ hX hbl hbA hret ih _ _ _ _ _ _ _ _ _ _ _ _ _ _ _ _ _ _ _ _ _ _ _ _ _ _ _ _ _ _ _ _ _ _ _ _ _ _ _ _ _ _ _ _ _ _ _ _ _ _ _ _ _ _ _ _ _ _ _ _ _ _ _ _ _ _ _ _ _ _ _ _ _ _ _ _ _ _ _ _ _ _ _ _ _ _ _ _ _ _ _ _ _ _ _ _ _ _ _ _ _ _ _ h H locs ls (lv_sub hl [0, 1, 2, 3] rfl) hP hD hS
                                · replace h := if_f h c_17
                                  by_cases c_18 : sw_3 = 14
                                  · replace h := if_t h c_18
                                    refine lv_tableIn (off := 438) (tgt := 470) hx hb d_Law_32 (by rw [c_18]; decide) (by rw [c_18]; decide) (by rw [c_18]; rfl) (by decide) ?_
                                    exact w_Law_b470 ⟨hx, hb, hml, hown, hts, hK, hA⟩ hX hbl hbA hret ih _ _ _ _ _ _ _ _ _ _ _ _ _ _ _ _ _ _ _ _ _ _ _ _ _ _ _ _ _ _ _ _ _ _ _ _ _ _ _ _ _ _ _ _ _ _ _ _ _ _ _ _ _ _ _ _ _ _ _ _ _ _ _ _ _ _ _ _ _ _ _ _ _ _ _ _ _ _ _ _ _ _ _ _ _ _ _ _ _ _ _ _ _ _ _ _ _ _ _ _ _ _ _ h H locs ls (lv_sub hl [0, 1, 2, 3] rfl) hP hD hS
                                  · replace h := if_f h c_18
                                    by_cases c_19 : sw_3 = 15
                                    · replace h := if_t h c_19
                                      refine lv_tableIn (off := 461) (tgt := 493) hx hb d_Law_32 (by rw [c_19]; decide) (by rw [c_19]; decide) (by rw [c_19]; rfl) (by decide) ?_
                                      exact w_Law_b493 ⟨hx, hb, hml, hown, hts, hK, hA⟩ hX hbl hbA hret ih _ _ _ _ _ _ _ _ _ _ _ _ _ _ _ _ _ _ _ _ _ _ _ _ _ _ _ _ _ _ _ _ _ _ _ _ _ _ _ _ _ _ _ _ _ _ _ _ _ _ _ _ _ _ _ _ _ _ _ _ _ _ _ _ _ _ _ _ _ _ _ _ _ _ _ _ _ _ _ _ _ _ _ _ _ _ _ _ _ _ _ _ _ _ _ _ _ _ _ _ _ _ _ h H locs ls (lv_sub hl [0, 1, 2, 3] rfl) hP hD hS
                                    · replace h := if_f h c_19
                                      by_cases c_20 : sw_3 = 16
                                      · replace h := if_t h c_20
                                        refine lv_tableIn (off := 494) (tgt := 526) hx hb d_Law_32 (by rw [c_20]; decide) (by rw [c_20]; decide) (by rw [c_20]; rfl) (by decide) ?_
                                        exact w_Law_b526 ⟨hx, hb, hml, hown, hts, hK, hA⟩ hX hbl hbA hret ih _ _ _ _ _ _ _ _ _ _ _ _ _ _ _ _ _ _ _ _ _ _ _ _ _ _ _ _ _ _ _ _ _ _ _ _ _ _ _ _ _ _ _ _ _ _ _ _ _ _ _ _ _ _ _ _ _ _ _ _ _ _ _ _ _ _ _ _ _ _ _ _ _ _ _ _ _ _ _ _ _ _ _ _ _ _ _ _ _ _ _ _ _ _ _ _ _ _ _ _ _ _ _ h H locs ls (lv_sub hl [0, 1, 2, 3] rfl) hP hD hS
                                      · replace h := if_f h c_20
                                        by_cases c_21 : sw_3 = 17
                                        · replace h := if_t h c_21
                                          refine lv_tableIn (off := 507) (tgt := 539) hx hb d_Law_32 (by rw [c_21]; decide) (by rw [c_21]; decide) (by rw [c_21]; rfl) (by decide) ?_
                                          exact w_Law_b539 ⟨hx, hb, hml, hown, hts, hK, hA⟩ hX hbl hbA hret ih _ _ _ _ _ _ _ _ _ _ _ _ _ _ _ _ _ _ _ _ _ _ _ _ _ _ _ _ _ _ _ _ _ _ _ _ _ _ _ _ _ _ _ _ _ _ _ _ _ _ _ _ _ _ _ _ _ _ _ _ _ _ _ _ _ _ _ _ _ _ _ _ _ _ _ _ _ _ _ _ _ _ _ _ _ _ _ _ _ _ _ _ _ _ _ _ _ _ _ _ _ _ _ h H locs ls (lv_sub hl [0, 1, 2, 3] rfl) hP hD hS
                                        · replace h := if_f h c_21
                                          refine lv_tableOut (tgt := 562) hx hb d_Law_32 (by have zc_4 : Int32.toInt sw_3 ≠ 0 := fun q => c_4 (Int32.toInt_inj.mp q); have zc_5 : Int32.toInt sw_3 ≠ 1 := fun q => c_5 (Int32.toInt_inj.mp q); have zc_6 : Int32.toInt sw_3 ≠ 2 := fun q => c_6 (Int32.toInt_inj.mp q); have zc_7 : Int32.toInt sw_3 ≠ 3 := fun q => c_7 (Int32.toInt_inj.mp q); have zc_8 : Int32.toInt sw_3 ≠ 4 := fun q => c_8 (Int32.toInt_inj.mp q); have zc_9 : Int32.toInt sw_3 ≠ 5 := fun q => c_9 (Int32.toInt_inj.mp q); have zc_10 : Int32.toInt sw_3 ≠ 6 := fun q => c_10 (Int32.toInt_inj.mp q); have zc_11 : Int32.toInt sw_3 ≠ 7 := fun q => c_11 (Int32.toInt_inj.mp q); have zc_12 : Int32.toInt sw_3 ≠ 8 := fun q => c_12 (Int32.toInt_inj.mp q); have zc_13 : Int32.toInt sw_3 ≠ 9 := fun q => c_13 (Int32.toInt_inj.mp q); have zc_14 : Int32.toInt sw_3 ≠ 10 := fun q => c_14 (Int32.toInt_inj.mp q); have zc_15 : Int32.toInt sw_3 ≠ 11 := fun q => c_15 (Int32.toInt_inj.mp q); have zc_16 : Int32.toInt sw_3 ≠ 12 := fun q => c_16 (Int32.toInt_inj.mp q); have zc_17 : Int32.toInt sw_3 ≠ 13 := fun q => c_17 (Int32.toInt_inj.mp q); have zc_18 : Int32.toInt sw_3 ≠ 14 := fun q => c_18 (Int32.toInt_inj.mp q); have zc_19 : Int32.toInt sw_3 ≠ 15 := fun q => c_19 (Int32.toInt_inj.mp q); have zc_20 : Int32.toInt sw_3 ≠ 16 := fun q => c_20 (Int32.toInt_inj.mp q); have zc_21 : Int32.toInt sw_3 ≠ 17 := fun q => c_21 (Int32.toInt_inj.mp q); omega) (by decide) ?_
                                          exact w_Law_b562 ⟨hx, hb, hml, hown, hts, hK, hA⟩ hX hbl hbA hret ih _ _ _ _ _ _ _ _ _ _ _ _ _ _ _ _ _ _ _ _ _ _ _ _ _ _ _ _ _ _ _ _ _ _ _ _ _ _ _ _ _ _ _ _ _ _ _ _ _ _ _ _ _ _ _ _ _ _ _ _ _ _ _ _ _ _ _ _ _ _ _ _ _ _ _ _ _ _ _ _ _ _ _ _ _ _ _ _ _ _ _ _ _ _ _ _ _ _ _ _ _ _ _ h H locs ls (lv_sub hl [0, 1, 2, 3] rfl) hP hD hS
