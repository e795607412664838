theorem mmX4_read_1 : Cond.fieldLink RX4 43 "SlackArms" "sheets" "[LSlackArms$Sheet;" ∈ wsX4_read := List.mem_of_getElem? (i := 1) rfl
theorem miX4_read_X4 : ∀ w ∈ u_ws RX4 TX4 9, w ∈ wsX4_read := fun w h => List.mem_cons_of_mem _ (List.mem_append_left _ (List.mem_append_left _ (List.mem_append_right _ h)))
theorem mmX4_read_2 : Cond.fieldLink RX4 10 "SlackArms" "now" "LSlackArms$Gear;" ∈ wsX4_read := List.mem_of_getElem? (i := 2) rfl
theorem mmX4_read_3 : Cond.fieldLink RX4 87 "SlackArms$Gear" "strokes" "I" ∈ wsX4_read := List.mem_of_getElem? (i := 3) rfl
theorem miX4_read_X0 : ∀ w ∈ u_ws RX0 TX0 12, w ∈ wsX4_read := fun w h => List.mem_cons_of_mem _ (List.mem_append_left _ (List.mem_append_right _ h))
theorem mmX4_read_5 : Cond.fieldLink RX4 51 "SlackArms" "tornFault" "I" ∈ wsX4_read := List.mem_of_getElem? (i := 5) rfl
theorem mmX4_read_4 : Cond.fieldLink RX4 257 "SlackArms$Sheet" "cells" "[I" ∈ wsX4_read := List.mem_of_getElem? (i := 4) rfl
theorem miX4_read_X1 : ∀ w ∈ u_ws RX1 TX1 3, w ∈ wsX4_read := fun w h => List.mem_cons_of_mem _ (List.mem_append_right _ h)
set_option maxHeartbeats 4000000 in
set_option maxRecDepth 100000 in
theorem kX4_read (ad : xAd) (l : Launch) (D : va_G) (cI cB cZ cG cS : ClassId) (h0 h_now h_trial h_images h_kept h_tape h_sights h_sheets h_looks h_now_kindRow h_now_slackRow h_now_placeRow h_now_turnRow h_now_wayRow h_now_strokeRow h_sh0 h_sh0_cells h_sh1 h_sh1_cells h_sh2 h_sh2_cells h_sh3 h_sh3_cells : Nat) (tornFault : Int32) (now_arms : Int32) (now_strokes : Int32) (now_hand : Int32) (now_step : Int32) (now_travel : Int32) (now_reversals : Int32) (now_kindRow : (Nat → Int32)) (now_slackRow : (Nat → Int32)) (now_placeRow : (Nat → Int32)) (now_turnRow : (Nat → Int32)) (now_wayRow : (Nat → Int32)) (now_strokeRow : (Nat → Int32)) (sh0_lane : Int32) (sh0_size : Int32) (sh0_cells : (Nat → Int32)) (sh1_lane : Int32) (sh1_size : Int32) (sh1_cells : (Nat → Int32)) (sh2_lane : Int32) (sh2_size : Int32) (sh2_cells : (Nat → Int32)) (sh3_lane : Int32) (sh3_size : Int32) (sh3_cells : (Nat → Int32)) (r0 : Int32) (o_tornFault' : Int32) (o_now_strokes' : Int32) (o_now_strokeRow' : (Nat → Int32)) (p1 : Int32) (p2 : Int32) (p3 : Int32) (p4 : Int32) (hf : fX4_read p1 p2 p3 p4 tornFault now_strokes now_strokeRow sh0_lane sh0_size sh0_cells sh1_lane sh1_size sh1_cells sh2_lane sh2_size sh2_cells sh3_lane sh3_size sh3_cells = some (r0, o_tornFault', o_now_strokes', o_now_strokeRow')) : xMi ad l yX4_read wsX4_read ({ frames := 3, cells := 0, slots := 0, locals := 65 } : Room) D (xTY cI cB cZ cG cS) [.ref h0, .int p1, .int p2, .int p3, .int p4] [(h0, .inr (4, [.ref h_now, .ref h_trial, .ref h_images, .ref h_kept, .ref h_tape, .ref h_sights, .ref h_sheets, .ref h_looks, .int tornFault])), (h_sheets, .inl (cS, 4, .inr (.inr (.inr (.inr (xr4 h_sh0 h_sh1 h_sh2 h_sh3)))))), (h_now, .inr (0, [.ref h_now_kindRow, .ref h_now_slackRow, .ref h_now_placeRow, .ref h_now_turnRow, .ref h_now_wayRow, .ref h_now_strokeRow, .int now_arms, .int now_strokes, .int now_hand, .int now_step, .int now_travel, .int now_reversals])), (h_now_kindRow, .inl (cI, 4, .inl now_kindRow)), (h_now_slackRow, .inl (cI, 4, .inl now_slackRow)), (h_now_placeRow, .inl (cI, 4, .inl now_placeRow)), (h_now_turnRow, .inl (cI, 4, .inl now_turnRow)), (h_now_wayRow, .inl (cI, 4, .inl now_wayRow)), (h_now_strokeRow, .inl (cI, 16, .inl now_strokeRow)), (h_sh0, .inr (1, [.ref h_sh0_cells, .int sh0_lane, .int sh0_size])), (h_sh0_cells, .inl (cI, 40, .inl sh0_cells)), (h_sh1, .inr (1, [.ref h_sh1_cells, .int sh1_lane, .int sh1_size])), (h_sh1_cells, .inl (cI, 40, .inl sh1_cells)), (h_sh2, .inr (1, [.ref h_sh2_cells, .int sh2_lane, .int sh2_size])), (h_sh2_cells, .inl (cI, 40, .inl sh2_cells)), (h_sh3, .inr (1, [.ref h_sh3_cells, .int sh3_lane, .int sh3_size])), (h_sh3_cells, .inl (cI, 40, .inl sh3_cells))] [(h0, .inr (4, [.ref h_now, .ref h_trial, .ref h_images, .ref h_kept, .ref h_tape, .ref h_sights, .ref h_sheets, .ref h_looks, .int o_tornFault'])), (h_sheets, .inl (cS, 4, .inr (.inr (.inr (.inr (xr4 h_sh0 h_sh1 h_sh2 h_sh3)))))), (h_now, .inr (0, [.ref h_now_kindRow, .ref h_now_slackRow, .ref h_now_placeRow, .ref h_now_turnRow, .ref h_now_wayRow, .ref h_now_strokeRow, .int now_arms, .int o_now_strokes', .int now_hand, .int now_step, .int now_travel, .int now_reversals])), (h_now_kindRow, .inl (cI, 4, .inl now_kindRow)), (h_now_slackRow, .inl (cI, 4, .inl now_slackRow)), (h_now_placeRow, .inl (cI, 4, .inl now_placeRow)), (h_now_turnRow, .inl (cI, 4, .inl now_turnRow)), (h_now_wayRow, .inl (cI, 4, .inl now_wayRow)), (h_now_strokeRow, .inl (cI, 16, .inl o_now_strokeRow')), (h_sh0, .inr (1, [.ref h_sh0_cells, .int sh0_lane, .int sh0_size])), (h_sh0_cells, .inl (cI, 40, .inl sh0_cells)), (h_sh1, .inr (1, [.ref h_sh1_cells, .int sh1_lane, .int sh1_size])), (h_sh1_cells, .inl (cI, 40, .inl sh1_cells)), (h_sh2, .inr (1, [.ref h_sh2_cells, .int sh2_lane, .int sh2_size])), (h_sh2_cells, .inl (cI, 40, .inl sh2_cells)), (h_sh3, .inr (1, [.ref h_sh3_cells, .int sh3_lane, .int sh3_size])), (h_sh3_cells, .inl (cI, 40, .inl sh3_cells))] r0 := by
  refine xMi_of (cc := cX4_read) (maxL := 10) (ty := .int) (by decide) rfl (Nat.le_of_ble_eq_true rfl) ?_
  intro p e s m args below meth c A Q ls C hX hl hret
  have hx := C.1.1
  have hb := C.1.2.1
  have hl : lv_has ls 10 [(0, .ref h0), (1, .int p1), (2, .int p2), (3, .int p3), (4, .int p4)] := hl
  have L116 : ∀ (x6 : Int32) (x8 : Int32) (tornFault : Int32) (now_strokes : Int32) (now_strokeRow : (Nat → Int32)) (H : Heap) (locs : List Loc) (ls : Array Slot), fX4_read_L116 sh0_lane sh0_size sh0_cells sh1_lane sh1_size sh1_cells sh2_lane sh2_size sh2_cells sh3_lane sh3_size sh3_cells x6 x8 tornFault now_strokes now_strokeRow = some (r0, o_tornFault', o_now_strokes', o_now_strokeRow') → xSt A s D [(h0, .inr (4, [.ref h_now, .ref h_trial, .ref h_images, .ref h_kept, .ref h_tape, .ref h_sights, .ref h_sheets, .ref h_looks, .int tornFault])), (h_sheets, .inl (cS, 4, .inr (.inr (.inr (.inr (xr4 h_sh0 h_sh1 h_sh2 h_sh3)))))), (h_now, .inr (0, [.ref h_now_kindRow, .ref h_now_slackRow, .ref h_now_placeRow, .ref h_now_turnRow, .ref h_now_wayRow, .ref h_now_strokeRow, .int now_arms, .int now_strokes, .int now_hand, .int now_step, .int now_travel, .int now_reversals])), (h_now_kindRow, .inl (cI, 4, .inl now_kindRow)), (h_now_slackRow, .inl (cI, 4, .inl now_slackRow)), (h_now_placeRow, .inl (cI, 4, .inl now_placeRow)), (h_now_turnRow, .inl (cI, 4, .inl now_turnRow)), (h_now_wayRow, .inl (cI, 4, .inl now_wayRow)), (h_now_strokeRow, .inl (cI, 16, .inl now_strokeRow)), (h_sh0, .inr (1, [.ref h_sh0_cells, .int sh0_lane, .int sh0_size])), (h_sh0_cells, .inl (cI, 40, .inl sh0_cells)), (h_sh1, .inr (1, [.ref h_sh1_cells, .int sh1_lane, .int sh1_size])), (h_sh1_cells, .inl (cI, 40, .inl sh1_cells)), (h_sh2, .inr (1, [.ref h_sh2_cells, .int sh2_lane, .int sh2_size])), (h_sh2_cells, .inl (cI, 40, .inl sh2_cells)), (h_sh3, .inr (1, [.ref h_sh3_cells, .int sh3_lane, .int sh3_size])), (h_sh3_cells, .inl (cI, 40, .inl sh3_cells))] H locs → lv_has ls 10 [(0, .ref h0), (6, .int x6), (8, .int x8)] → W p l e ({ frames := 3, cells := 0, slots := 0, locals := 65 } : Room) s m args below meth c H locs 0 0 Q (F0 m 116 ls []) := by
    intro  x6 x8 tornFault now_strokes now_strokeRow H locs ls hf hX hl
    unfold fX4_read_L116 at hf
    refine lv_aload_n (pc := 116) hx hb dX4_read_116 rfl (lv_at hl 0 rfl) ?_
    refine x_getf (pc := 117) (Cn := RX4) (T := TX4) (N := 9) C hX 0 rfl rfl miX4_read_X4 0 (by decide) mmX4_read_2 rfl dX4_read_117 ?_
    refine lv_iload (pc := 120) hx hb dX4_read_120 (lv_at hl 1 rfl) ?_
    refine x_putf (pc := 122) (Cn := RX0) (T := TX0) (N := 12) C hX tyX0 tyX0_ok nmX0 2 rfl rfl miX4_read_X0 7 (by decide) mmX4_read_3 rfl rfl (Nat.le_of_ble_eq_true rfl) [(h0, .inr (4, [.ref h_now, .ref h_trial, .ref h_images, .ref h_kept, .ref h_tape, .ref h_sights, .ref h_sheets, .ref h_looks, .int tornFault])), (h_sheets, .inl (cS, 4, .inr (.inr (.inr (.inr (xr4 h_sh0 h_sh1 h_sh2 h_sh3)))))), (h_now, .inr (0, [.ref h_now_kindRow, .ref h_now_slackRow, .ref h_now_placeRow, .ref h_now_turnRow, .ref h_now_wayRow, .ref h_now_strokeRow, .int now_arms, .int x6, .int now_hand, .int now_step, .int now_travel, .int now_reversals])), (h_now_kindRow, .inl (cI, 4, .inl now_kindRow)), (h_now_slackRow, .inl (cI, 4, .inl now_slackRow)), (h_now_placeRow, .inl (cI, 4, .inl now_placeRow)), (h_now_turnRow, .inl (cI, 4, .inl now_turnRow)), (h_now_wayRow, .inl (cI, 4, .inl now_wayRow)), (h_now_strokeRow, .inl (cI, 16, .inl now_strokeRow)), (h_sh0, .inr (1, [.ref h_sh0_cells, .int sh0_lane, .int sh0_size])), (h_sh0_cells, .inl (cI, 40, .inl sh0_cells)), (h_sh1, .inr (1, [.ref h_sh1_cells, .int sh1_lane, .int sh1_size])), (h_sh1_cells, .inl (cI, 40, .inl sh1_cells)), (h_sh2, .inr (1, [.ref h_sh2_cells, .int sh2_lane, .int sh2_size])), (h_sh2_cells, .inl (cI, 40, .inl sh2_cells)), (h_sh3, .inr (1, [.ref h_sh3_cells, .int sh3_lane, .int sh3_size])), (h_sh3_cells, .inl (cI, 40, .inl sh3_cells))] rfl dX4_read_122 (fun H locs hX => ?_)
    refine lv_bipush (pc := 125) (v := -20) hx hb dX4_read_125 (by decide) ?_
    refine lv_iload (pc := 127) hx hb dX4_read_127 (lv_at hl 2 rfl) ?_
    refine lv_isub (pc := 129) hx hb dX4_read_129 ?_
    obtain ⟨rfl, rfl, rfl, rfl⟩ := re4 hf
    exact hret _ _ _ _ _ rfl rfl hX dX4_read_130
  have L52 : ∀ (n : Nat), ∀ (x2 : Int32) (x3 : Int32) (x4 : Int32) (x6 : Int32) (x7 : Int32) (x8 : Int32) (tornFault : Int32) (now_strokes : Int32) (now_strokeRow : (Nat → Int32)) (H : Heap) (locs : List Loc) (ls : Array Slot), fX4_read_L52 sh0_lane sh0_size sh0_cells sh1_lane sh1_size sh1_cells sh2_lane sh2_size sh2_cells sh3_lane sh3_size sh3_cells n x2 x3 x4 x6 x7 x8 tornFault now_strokes now_strokeRow = some (r0, o_tornFault', o_now_strokes', o_now_strokeRow') → xSt A s D [(h0, .inr (4, [.ref h_now, .ref h_trial, .ref h_images, .ref h_kept, .ref h_tape, .ref h_sights, .ref h_sheets, .ref h_looks, .int tornFault])), (h_sheets, .inl (cS, 4, .inr (.inr (.inr (.inr (xr4 h_sh0 h_sh1 h_sh2 h_sh3)))))), (h_now, .inr (0, [.ref h_now_kindRow, .ref h_now_slackRow, .ref h_now_placeRow, .ref h_now_turnRow, .ref h_now_wayRow, .ref h_now_strokeRow, .int now_arms, .int now_strokes, .int now_hand, .int now_step, .int now_travel, .int now_reversals])), (h_now_kindRow, .inl (cI, 4, .inl now_kindRow)), (h_now_slackRow, .inl (cI, 4, .inl now_slackRow)), (h_now_placeRow, .inl (cI, 4, .inl now_placeRow)), (h_now_turnRow, .inl (cI, 4, .inl now_turnRow)), (h_now_wayRow, .inl (cI, 4, .inl now_wayRow)), (h_now_strokeRow, .inl (cI, 16, .inl now_strokeRow)), (h_sh0, .inr (1, [.ref h_sh0_cells, .int sh0_lane, .int sh0_size])), (h_sh0_cells, .inl (cI, 40, .inl sh0_cells)), (h_sh1, .inr (1, [.ref h_sh1_cells, .int sh1_lane, .int sh1_size])), (h_sh1_cells, .inl (cI, 40, .inl sh1_cells)), (h_sh2, .inr (1, [.ref h_sh2_cells, .int sh2_lane, .int sh2_size])), (h_sh2_cells, .inl (cI, 40, .inl sh2_cells)), (h_sh3, .inr (1, [.ref h_sh3_cells, .int sh3_lane, .int sh3_size])), (h_sh3_cells, .inl (cI, 40, .inl sh3_cells))] H locs → lv_has ls 10 [(0, .ref h0), (2, .int x2), (3, .int x3), (4, .int x4), (5, .ref h_sh0), (6, .int x6), (7, .int x7), (8, .int x8)] → W p l e ({ frames := 3, cells := 0, slots := 0, locals := 65 } : Room) s m args below meth c H locs 0 0 Q (F0 m 52 ls []) := by
    intro n
    induction n with
    | zero =>
      intro x2 x3 x4 x6 x7 x8 tornFault now_strokes now_strokeRow H locs ls hf
      rw [fX4_read_L52] at hf
      cases hf
    | succ n ih =>
      intro x2 x3 x4 x6 x7 x8 tornFault now_strokes now_strokeRow H locs ls hf hX hl
      rw [fX4_read_L52] at hf
      refine lv_iload (pc := 52) hx hb dX4_read_52 (lv_at hl 7 rfl) ?_
      refine lv_iload (pc := 54) hx hb dX4_read_54 (lv_at hl 3 rfl) ?_
      refine lv_icmp_ge (pc := 56) (tgt := 137) hx hb dX4_read_56 (by decide) (fun c12 => ?_) (fun c12 => ?_)
      · replace hf := ite_t c12 hf
        refine lv_aload_n (pc := 137) hx hb dX4_read_137 rfl (lv_at hl 0 rfl) ?_
        refine lv_iload (pc := 138) hx hb dX4_read_138 (lv_at hl 6 rfl) ?_
        refine x_putf (pc := 140) (Cn := RX4) (T := TX4) (N := 9) C hX tyX4 tyX4_ok nmX4 0 rfl rfl miX4_read_X4 8 (by decide) mmX4_read_5 rfl rfl (Nat.le_of_ble_eq_true rfl) [(h0, .inr (4, [.ref h_now, .ref h_trial, .ref h_images, .ref h_kept, .ref h_tape, .ref h_sights, .ref h_sheets, .ref h_looks, .int x7])), (h_sheets, .inl (cS, 4, .inr (.inr (.inr (.inr (xr4 h_sh0 h_sh1 h_sh2 h_sh3)))))), (h_now, .inr (0, [.ref h_now_kindRow, .ref h_now_slackRow, .ref h_now_placeRow, .ref h_now_turnRow, .ref h_now_wayRow, .ref h_now_strokeRow, .int now_arms, .int now_strokes, .int now_hand, .int now_step, .int now_travel, .int now_reversals])), (h_now_kindRow, .inl (cI, 4, .inl now_kindRow)), (h_now_slackRow, .inl (cI, 4, .inl now_slackRow)), (h_now_placeRow, .inl (cI, 4, .inl now_placeRow)), (h_now_turnRow, .inl (cI, 4, .inl now_turnRow)), (h_now_wayRow, .inl (cI, 4, .inl now_wayRow)), (h_now_strokeRow, .inl (cI, 16, .inl now_strokeRow)), (h_sh0, .inr (1, [.ref h_sh0_cells, .int sh0_lane, .int sh0_size])), (h_sh0_cells, .inl (cI, 40, .inl sh0_cells)), (h_sh1, .inr (1, [.ref h_sh1_cells, .int sh1_lane, .int sh1_size])), (h_sh1_cells, .inl (cI, 40, .inl sh1_cells)), (h_sh2, .inr (1, [.ref h_sh2_cells, .int sh2_lane, .int sh2_size])), (h_sh2_cells, .inl (cI, 40, .inl sh2_cells)), (h_sh3, .inr (1, [.ref h_sh3_cells, .int sh3_lane, .int sh3_size])), (h_sh3_cells, .inl (cI, 40, .inl sh3_cells))] rfl dX4_read_140 (fun H locs hX => ?_)
        refine lv_iload (pc := 143) hx hb dX4_read_143 (lv_at hl 7 rfl) ?_
        obtain ⟨rfl, rfl, rfl, rfl⟩ := re4 hf
        exact hret _ _ _ _ _ rfl rfl hX dX4_read_145
      · replace hf := ite_f c12 hf
        refine lv_iload (pc := 59) hx hb dX4_read_59 (lv_at hl 6 rfl) ?_
        refine lv_if_ne (pc := 61) (tgt := 137) hx hb dX4_read_61 (by decide) (fun c13 => ?_) (fun c13 => ?_)
        · replace hf := ite_f c13 hf
          refine lv_aload_n (pc := 137) hx hb dX4_read_137 rfl (lv_at hl 0 rfl) ?_
          refine lv_iload (pc := 138) hx hb dX4_read_138 (lv_at hl 6 rfl) ?_
          refine x_putf (pc := 140) (Cn := RX4) (T := TX4) (N := 9) C hX tyX4 tyX4_ok nmX4 0 rfl rfl miX4_read_X4 8 (by decide) mmX4_read_5 rfl rfl (Nat.le_of_ble_eq_true rfl) [(h0, .inr (4, [.ref h_now, .ref h_trial, .ref h_images, .ref h_kept, .ref h_tape, .ref h_sights, .ref h_sheets, .ref h_looks, .int x7])), (h_sheets, .inl (cS, 4, .inr (.inr (.inr (.inr (xr4 h_sh0 h_sh1 h_sh2 h_sh3)))))), (h_now, .inr (0, [.ref h_now_kindRow, .ref h_now_slackRow, .ref h_now_placeRow, .ref h_now_turnRow, .ref h_now_wayRow, .ref h_now_strokeRow, .int now_arms, .int now_strokes, .int now_hand, .int now_step, .int now_travel, .int now_reversals])), (h_now_kindRow, .inl (cI, 4, .inl now_kindRow)), (h_now_slackRow, .inl (cI, 4, .inl now_slackRow)), (h_now_placeRow, .inl (cI, 4, .inl now_placeRow)), (h_now_turnRow, .inl (cI, 4, .inl now_turnRow)), (h_now_wayRow, .inl (cI, 4, .inl now_wayRow)), (h_now_strokeRow, .inl (cI, 16, .inl now_strokeRow)), (h_sh0, .inr (1, [.ref h_sh0_cells, .int sh0_lane, .int sh0_size])), (h_sh0_cells, .inl (cI, 40, .inl sh0_cells)), (h_sh1, .inr (1, [.ref h_sh1_cells, .int sh1_lane, .int sh1_size])), (h_sh1_cells, .inl (cI, 40, .inl sh1_cells)), (h_sh2, .inr (1, [.ref h_sh2_cells, .int sh2_lane, .int sh2_size])), (h_sh2_cells, .inl (cI, 40, .inl sh2_cells)), (h_sh3, .inr (1, [.ref h_sh3_cells, .int sh3_lane, .int sh3_size])), (h_sh3_cells, .inl (cI, 40, .inl sh3_cells))] rfl dX4_read_140 (fun H locs hX => ?_)
          refine lv_iload (pc := 143) hx hb dX4_read_143 (lv_at hl 7 rfl) ?_
          obtain ⟨rfl, rfl, rfl, rfl⟩ := re4 hf
          exact hret _ _ _ _ _ rfl rfl hX dX4_read_145
        · replace hf := ite_t c13 hf
          refine lv_aload (pc := 64) hx hb dX4_read_64 (lv_at hl 4 rfl) ?_
          refine lv_iload_n (pc := 66) hx hb dX4_read_66 rfl (lv_at hl 1 rfl) ?_
          refine lv_iload_n (pc := 67) hx hb dX4_read_67 rfl (lv_at hl 2 rfl) ?_
          refine lv_iload (pc := 68) hx hb dX4_read_68 (lv_at hl 7 rfl) ?_
          refine lv_iadd (pc := 70) hx hb dX4_read_70 ?_
          obtain ⟨r14, g15, hf⟩ := cl1_adv hf
          refine x_callVi (pc := 71) (rest := []) (w2 := [(h0, .inr (4, [.ref h_now, .ref h_trial, .ref h_images, .ref h_kept, .ref h_tape, .ref h_sights, .ref h_sheets, .ref h_looks, .int tornFault])), (h_sheets, .inl (cS, 4, .inr (.inr (.inr (.inr (xr4 h_sh0 h_sh1 h_sh2 h_sh3)))))), (h_now, .inr (0, [.ref h_now_kindRow, .ref h_now_slackRow, .ref h_now_placeRow, .ref h_now_turnRow, .ref h_now_wayRow, .ref h_now_strokeRow, .int now_arms, .int now_strokes, .int now_hand, .int now_step, .int now_travel, .int now_reversals])), (h_now_kindRow, .inl (cI, 4, .inl now_kindRow)), (h_now_slackRow, .inl (cI, 4, .inl now_slackRow)), (h_now_placeRow, .inl (cI, 4, .inl now_placeRow)), (h_now_turnRow, .inl (cI, 4, .inl now_turnRow)), (h_now_wayRow, .inl (cI, 4, .inl now_wayRow)), (h_now_strokeRow, .inl (cI, 16, .inl now_strokeRow)), (h_sh0, .inr (1, [.ref h_sh0_cells, .int sh0_lane, .int sh0_size])), (h_sh0_cells, .inl (cI, 40, .inl sh0_cells)), (h_sh1, .inr (1, [.ref h_sh1_cells, .int sh1_lane, .int sh1_size])), (h_sh1_cells, .inl (cI, 40, .inl sh1_cells)), (h_sh2, .inr (1, [.ref h_sh2_cells, .int sh2_lane, .int sh2_size])), (h_sh2_cells, .inl (cI, 40, .inl sh2_cells)), (h_sh3, .inr (1, [.ref h_sh3_cells, .int sh3_lane, .int sh3_size])), (h_sh3_cells, .inl (cI, 40, .inl sh3_cells))]) C hX (kX1_faultTakenAs ad l D cI cB cZ cG cS h_sh0 h_sh0_cells sh0_lane sh0_size sh0_cells r14 x2 (x3 + x8) g15) (cwV 2 C.1.2.2.2.2 gX4_read_X1_faultTakenAs rfl rfl rfl (by decide +kernel) ⟨Nat.le_of_ble_eq_true rfl, Nat.le_of_ble_eq_true rfl⟩) [9, 10] [0, 1, 2, 3, 4, 5, 6, 7, 8, 11, 12, 13, 14, 15, 16] [0, 1, 2, 3, 4, 5, 6, 7, 8, 15, 16, 9, 10, 11, 12, 13, 14] rfl rfl rfl rfl (by decide) rfl rfl 0 rfl rfl rfl hl.1 rfl rfl (Nat.le_of_ble_eq_true rfl) dX4_read_71 (fun H locs hX => ?_)
          refine lv_istore (pc := 74) (lv' := [(7, .int r14), (0, .ref h0), (2, .int x2), (3, .int x3), (4, .int x4), (5, .ref h_sh0), (6, .int x6), (8, .int x8)]) hx hb dX4_read_74 hl (by decide) rfl (fun ls hl => ?_)
          refine lv_iload (pc := 76) hx hb dX4_read_76 (lv_at hl 0 rfl) ?_
          refine lv_if_ne (pc := 78) (tgt := 52) hx hb dX4_read_78 (by decide) (fun c16 => ?_) (fun c16 => ?_)
          · replace hf := ite_f c16 hf
            exact ih x2 x3 x4 x6 r14 x8 tornFault now_strokes now_strokeRow _ _ _ hf hX (lv_sub hl [1, 2, 3, 4, 5, 6, 0, 7] rfl)
          · replace hf := ite_t c16 hf
            refine lv_aload (pc := 81) hx hb dX4_read_81 (lv_at hl 5 rfl) ?_
            refine x_getf (pc := 83) (Cn := RX1) (T := TX1) (N := 3) C hX 9 rfl rfl miX4_read_X1 0 (by decide) mmX4_read_4 rfl dX4_read_83 ?_
            refine lv_iload_n (pc := 86) hx hb dX4_read_86 rfl (lv_at hl 3 rfl) ?_
            refine lv_iload (pc := 87) hx hb dX4_read_87 (lv_at hl 7 rfl) ?_
            refine lv_iadd (pc := 89) hx hb dX4_read_89 ?_
            replace hf := chk_adv hf
            have i17 := hf.1
            replace hf := hf.2
            refine x_iald (pc := 90) C hX 10 0 rfl rfl i17 dX4_read_90 ?_
            refine lv_topi (fun v18 ev18 => ?_)
            replace hf := bnd_use ev18 hf
            refine lv_istore (pc := 91) (lv' := [(9, .int v18), (7, .int r14), (0, .ref h0), (2, .int x2), (3, .int x3), (4, .int x4), (5, .ref h_sh0), (6, .int x6), (8, .int x8)]) hx hb dX4_read_91 hl (by decide) rfl (fun ls hl => ?_)
            refine lv_iload (pc := 93) hx hb dX4_read_93 (lv_at hl 0 rfl) ?_
            obtain ⟨r19, g20, hf⟩ := cl1_adv hf
            refine x_callSi (pc := 95) (rest := []) C hX (kX4_isShiftedStroke ad l D cI cB cZ cG cS r19 v18 g20) (va_cwS 1 C.1.2.2.2.2 gX4_read_X4_isShiftedStroke rfl rfl rfl (by decide +kernel) ⟨Nat.le_of_ble_eq_true rfl, Nat.le_of_ble_eq_true rfl⟩) hl.1 rfl rfl (Nat.le_of_ble_eq_true rfl) dX4_read_95 (fun H locs hX => ?_)
            refine lv_if_eq (pc := 98) (tgt := 116) hx hb dX4_read_98 (by decide) (fun c21 => ?_) (fun c21 => ?_)
            · replace hf := ite_t c21 hf
              exact L116  x6 x8 tornFault now_strokes now_strokeRow _ _ _ hf hX (lv_sub hl [2, 7, 8] rfl)
            · replace hf := ite_f c21 hf
              refine lv_aload_n (pc := 101) hx hb dX4_read_101 rfl (lv_at hl 2 rfl) ?_
              refine x_getf (pc := 102) (Cn := RX4) (T := TX4) (N := 9) C hX 0 rfl rfl miX4_read_X4 0 (by decide) mmX4_read_2 rfl dX4_read_102 ?_
              refine lv_iload (pc := 105) hx hb dX4_read_105 (lv_at hl 0 rfl) ?_
              refine lv_bipush (pc := 107) (v := 9) hx hb dX4_read_107 (by decide) ?_
              refine lv_isub (pc := 109) hx hb dX4_read_109 ?_
              obtain ⟨r22, u23, u24, g25, hf⟩ := cl3_adv hf
              refine x_callVi (pc := 110) (rest := []) (w2 := [(h0, .inr (4, [.ref h_now, .ref h_trial, .ref h_images, .ref h_kept, .ref h_tape, .ref h_sights, .ref h_sheets, .ref h_looks, .int tornFault])), (h_sheets, .inl (cS, 4, .inr (.inr (.inr (.inr (xr4 h_sh0 h_sh1 h_sh2 h_sh3)))))), (h_now, .inr (0, [.ref h_now_kindRow, .ref h_now_slackRow, .ref h_now_placeRow, .ref h_now_turnRow, .ref h_now_wayRow, .ref h_now_strokeRow, .int now_arms, .int u23, .int now_hand, .int now_step, .int now_travel, .int now_reversals])), (h_now_kindRow, .inl (cI, 4, .inl now_kindRow)), (h_now_slackRow, .inl (cI, 4, .inl now_slackRow)), (h_now_placeRow, .inl (cI, 4, .inl now_placeRow)), (h_now_turnRow, .inl (cI, 4, .inl now_turnRow)), (h_now_wayRow, .inl (cI, 4, .inl now_wayRow)), (h_now_strokeRow, .inl (cI, 16, .inl u24)), (h_sh0, .inr (1, [.ref h_sh0_cells, .int sh0_lane, .int sh0_size])), (h_sh0_cells, .inl (cI, 40, .inl sh0_cells)), (h_sh1, .inr (1, [.ref h_sh1_cells, .int sh1_lane, .int sh1_size])), (h_sh1_cells, .inl (cI, 40, .inl sh1_cells)), (h_sh2, .inr (1, [.ref h_sh2_cells, .int sh2_lane, .int sh2_size])), (h_sh2_cells, .inl (cI, 40, .inl sh2_cells)), (h_sh3, .inr (1, [.ref h_sh3_cells, .int sh3_lane, .int sh3_size])), (h_sh3_cells, .inl (cI, 40, .inl sh3_cells))]) C hX (kX0_appendStroke ad l D cI cB cZ cG cS h_now h_now_kindRow h_now_slackRow h_now_placeRow h_now_turnRow h_now_wayRow h_now_strokeRow now_arms now_strokes now_hand now_step now_travel now_reversals now_kindRow now_slackRow now_placeRow now_turnRow now_wayRow now_strokeRow r22 u23 u24 (v18 - (9 : Int32)) g25) (cwV 1 C.1.2.2.2.2 gX4_read_X0_appendStroke rfl rfl rfl (by decide +kernel) ⟨Nat.le_of_ble_eq_true rfl, Nat.le_of_ble_eq_true rfl⟩) [2, 3, 4, 5, 6, 7, 8] [0, 1, 9, 10, 11, 12, 13, 14, 15, 16] [0, 1, 10, 11, 12, 13, 14, 15, 16, 2, 3, 4, 5, 6, 7, 8, 9] rfl rfl rfl rfl (by decide) rfl rfl 0 rfl rfl rfl hl.1 rfl rfl (Nat.le_of_ble_eq_true rfl) dX4_read_110 (fun H locs hX => ?_)
              refine lv_if_ne (pc := 113) (tgt := 131) hx hb dX4_read_113 (by decide) (fun c26 => ?_) (fun c26 => ?_)
              · replace hf := ite_f c26 hf
                obtain ⟨v27, ev27⟩ : ∃ y : Int32, y = (x8 + (1 : Int32)) := ⟨_, rfl⟩
                replace hf := bnd_use ev27 hf
                refine lv_iinc (pc := 131) (v := v27) (lv' := [(8, .int v27), (9, .int v18), (7, .int r14), (0, .ref h0), (2, .int x2), (3, .int x3), (4, .int x4), (5, .ref h_sh0), (6, .int x6)]) hx hb dX4_read_131 hl (k := 8) rfl (by rw [ev27]; rfl) (by decide) rfl (fun ls hl => ?_)
                refine lv_goto (pc := 134) (tgt := 52) hx hb dX4_read_134 (by decide) ?_
                exact ih x2 x3 x4 x6 r14 v27 tornFault u23 u24 _ _ _ hf hX (lv_sub hl [3, 4, 5, 6, 7, 8, 2, 0] rfl)
              · replace hf := ite_t c26 hf
                exact L116  x6 x8 tornFault u23 u24 _ _ _ hf hX (lv_sub hl [2, 7, 8] rfl)
  have L52a : ∀ (n : Nat), ∀ (x2 : Int32) (x3 : Int32) (x4 : Int32) (x6 : Int32) (x7 : Int32) (x8 : Int32) (tornFault : Int32) (now_strokes : Int32) (now_strokeRow : (Nat → Int32)) (H : Heap) (locs : List Loc) (ls : Array Slot), fX4_read_L52a sh0_lane sh0_size sh0_cells sh1_lane sh1_size sh1_cells sh2_lane sh2_size sh2_cells sh3_lane sh3_size sh3_cells n x2 x3 x4 x6 x7 x8 tornFault now_strokes now_strokeRow = some (r0, o_tornFault', o_now_strokes', o_now_strokeRow') → xSt A s D [(h0, .inr (4, [.ref h_now, .ref h_trial, .ref h_images, .ref h_kept, .ref h_tape, .ref h_sights, .ref h_sheets, .ref h_looks, .int tornFault])), (h_sheets, .inl (cS, 4, .inr (.inr (.inr (.inr (xr4 h_sh0 h_sh1 h_sh2 h_sh3)))))), (h_now, .inr (0, [.ref h_now_kindRow, .ref h_now_slackRow, .ref h_now_placeRow, .ref h_now_turnRow, .ref h_now_wayRow, .ref h_now_strokeRow, .int now_arms, .int now_strokes, .int now_hand, .int now_step, .int now_travel, .int now_reversals])), (h_now_kindRow, .inl (cI, 4, .inl now_kindRow)), (h_now_slackRow, .inl (cI, 4, .inl now_slackRow)), (h_now_placeRow, .inl (cI, 4, .inl now_placeRow)), (h_now_turnRow, .inl (cI, 4, .inl now_turnRow)), (h_now_wayRow, .inl (cI, 4, .inl now_wayRow)), (h_now_strokeRow, .inl (cI, 16, .inl now_strokeRow)), (h_sh0, .inr (1, [.ref h_sh0_cells, .int sh0_lane, .int sh0_size])), (h_sh0_cells, .inl (cI, 40, .inl sh0_cells)), (h_sh1, .inr (1, [.ref h_sh1_cells, .int sh1_lane, .int sh1_size])), (h_sh1_cells, .inl (cI, 40, .inl sh1_cells)), (h_sh2, .inr (1, [.ref h_sh2_cells, .int sh2_lane, .int sh2_size])), (h_sh2_cells, .inl (cI, 40, .inl sh2_cells)), (h_sh3, .inr (1, [.ref h_sh3_cells, .int sh3_lane, .int sh3_size])), (h_sh3_cells, .inl (cI, 40, .inl sh3_cells))] H locs → lv_has ls 10 [(0, .ref h0), (2, .int x2), (3, .int x3), (4, .int x4), (5, .ref h_sh1), (6, .int x6), (7, .int x7), (8, .int x8)] → W p l e ({ frames := 3, cells := 0, slots := 0, locals := 65 } : Room) s m args below meth c H locs 0 0 Q (F0 m 52 ls []) := by
    intro n
    induction n with
    | zero =>
      intro x2 x3 x4 x6 x7 x8 tornFault now_strokes now_strokeRow H locs ls hf
      rw [fX4_read_L52a] at hf
      cases hf
    | succ n ih =>
      intro x2 x3 x4 x6 x7 x8 tornFault now_strokes now_strokeRow H locs ls hf hX hl
      rw [fX4_read_L52a] at hf
      refine lv_iload (pc := 52) hx hb dX4_read_52 (lv_at hl 7 rfl) ?_
      refine lv_iload (pc := 54) hx hb dX4_read_54 (lv_at hl 3 rfl) ?_
      refine lv_icmp_ge (pc := 56) (tgt := 137) hx hb dX4_read_56 (by decide) (fun c29 => ?_) (fun c29 => ?_)
      · replace hf := ite_t c29 hf
        refine lv_aload_n (pc := 137) hx hb dX4_read_137 rfl (lv_at hl 0 rfl) ?_
        refine lv_iload (pc := 138) hx hb dX4_read_138 (lv_at hl 6 rfl) ?_
        refine x_putf (pc := 140) (Cn := RX4) (T := TX4) (N := 9) C hX tyX4 tyX4_ok nmX4 0 rfl rfl miX4_read_X4 8 (by decide) mmX4_read_5 rfl rfl (Nat.le_of_ble_eq_true rfl) [(h0, .inr (4, [.ref h_now, .ref h_trial, .ref h_images, .ref h_kept, .ref h_tape, .ref h_sights, .ref h_sheets, .ref h_looks, .int x7])), (h_sheets, .inl (cS, 4, .inr (.inr (.inr (.inr (xr4 h_sh0 h_sh1 h_sh2 h_sh3)))))), (h_now, .inr (0, [.ref h_now_kindRow, .ref h_now_slackRow, .ref h_now_placeRow, .ref h_now_turnRow, .ref h_now_wayRow, .ref h_now_strokeRow, .int now_arms, .int now_strokes, .int now_hand, .int now_step, .int now_travel, .int now_reversals])), (h_now_kindRow, .inl (cI, 4, .inl now_kindRow)), (h_now_slackRow, .inl (cI, 4, .inl now_slackRow)), (h_now_placeRow, .inl (cI, 4, .inl now_placeRow)), (h_now_turnRow, .inl (cI, 4, .inl now_turnRow)), (h_now_wayRow, .inl (cI, 4, .inl now_wayRow)), (h_now_strokeRow, .inl (cI, 16, .inl now_strokeRow)), (h_sh0, .inr (1, [.ref h_sh0_cells, .int sh0_lane, .int sh0_size])), (h_sh0_cells, .inl (cI, 40, .inl sh0_cells)), (h_sh1, .inr (1, [.ref h_sh1_cells, .int sh1_lane, .int sh1_size])), (h_sh1_cells, .inl (cI, 40, .inl sh1_cells)), (h_sh2, .inr (1, [.ref h_sh2_cells, .int sh2_lane, .int sh2_size])), (h_sh2_cells, .inl (cI, 40, .inl sh2_cells)), (h_sh3, .inr (1, [.ref h_sh3_cells, .int sh3_lane, .int sh3_size])), (h_sh3_cells, .inl (cI, 40, .inl sh3_cells))] rfl dX4_read_140 (fun H locs hX => ?_)
        refine lv_iload (pc := 143) hx hb dX4_read_143 (lv_at hl 7 rfl) ?_
        obtain ⟨rfl, rfl, rfl, rfl⟩ := re4 hf
        exact hret _ _ _ _ _ rfl rfl hX dX4_read_145
      · replace hf := ite_f c29 hf
        refine lv_iload (pc := 59) hx hb dX4_read_59 (lv_at hl 6 rfl) ?_
        refine lv_if_ne (pc := 61) (tgt := 137) hx hb dX4_read_61 (by decide) (fun c30 => ?_) (fun c30 => ?_)
        · replace hf := ite_f c30 hf
          refine lv_aload_n (pc := 137) hx hb dX4_read_137 rfl (lv_at hl 0 rfl) ?_
          refine lv_iload (pc := 138) hx hb dX4_read_138 (lv_at hl 6 rfl) ?_
          refine x_putf (pc := 140) (Cn := RX4) (T := TX4) (N := 9) C hX tyX4 tyX4_ok nmX4 0 rfl rfl miX4_read_X4 8 (by decide) mmX4_read_5 rfl rfl (Nat.le_of_ble_eq_true rfl) [(h0, .inr (4, [.ref h_now, .ref h_trial, .ref h_images, .ref h_kept, .ref h_tape, .ref h_sights, .ref h_sheets, .ref h_looks, .int x7])), (h_sheets, .inl (cS, 4, .inr (.inr (.inr (.inr (xr4 h_sh0 h_sh1 h_sh2 h_sh3)))))), (h_now, .inr (0, [.ref h_now_kindRow, .ref h_now_slackRow, .ref h_now_placeRow, .ref h_now_turnRow, .ref h_now_wayRow, .ref h_now_strokeRow, .int now_arms, .int now_strokes, .int now_hand, .int now_step, .int now_travel, .int now_reversals])), (h_now_kindRow, .inl (cI, 4, .inl now_kindRow)), (h_now_slackRow, .inl (cI, 4, .inl now_slackRow)), (h_now_placeRow, .inl (cI, 4, .inl now_placeRow)), (h_now_turnRow, .inl (cI, 4, .inl now_turnRow)), (h_now_wayRow, .inl (cI, 4, .inl now_wayRow)), (h_now_strokeRow, .inl (cI, 16, .inl now_strokeRow)), (h_sh0, .inr (1, [.ref h_sh0_cells, .int sh0_lane, .int sh0_size])), (h_sh0_cells, .inl (cI, 40, .inl sh0_cells)), (h_sh1, .inr (1, [.ref h_sh1_cells, .int sh1_lane, .int sh1_size])), (h_sh1_cells, .inl (cI, 40, .inl sh1_cells)), (h_sh2, .inr (1, [.ref h_sh2_cells, .int sh2_lane, .int sh2_size])), (h_sh2_cells, .inl (cI, 40, .inl sh2_cells)), (h_sh3, .inr (1, [.ref h_sh3_cells, .int sh3_lane, .int sh3_size])), (h_sh3_cells, .inl (cI, 40, .inl sh3_cells))] rfl dX4_read_140 (fun H locs hX => ?_)
          refine lv_iload (pc := 143) hx hb dX4_read_143 (lv_at hl 7 rfl) ?_
          obtain ⟨rfl, rfl, rfl, rfl⟩ := re4 hf
          exact hret _ _ _ _ _ rfl rfl hX dX4_read_145
        · replace hf := ite_t c30 hf
          refine lv_aload (pc := 64) hx hb dX4_read_64 (lv_at hl 4 rfl) ?_
          refine lv_iload_n (pc := 66) hx hb dX4_read_66 rfl (lv_at hl 1 rfl) ?_
          refine lv_iload_n (pc := 67) hx hb dX4_read_67 rfl (lv_at hl 2 rfl) ?_
          refine lv_iload (pc := 68) hx hb dX4_read_68 (lv_at hl 7 rfl) ?_
          refine lv_iadd (pc := 70) hx hb dX4_read_70 ?_
          obtain ⟨r31, g32, hf⟩ := cl1_adv hf
          refine x_callVi (pc := 71) (rest := []) (w2 := [(h0, .inr (4, [.ref h_now, .ref h_trial, .ref h_images, .ref h_kept, .ref h_tape, .ref h_sights, .ref h_sheets, .ref h_looks, .int tornFault])), (h_sheets, .inl (cS, 4, .inr (.inr (.inr (.inr (xr4 h_sh0 h_sh1 h_sh2 h_sh3)))))), (h_now, .inr (0, [.ref h_now_kindRow, .ref h_now_slackRow, .ref h_now_placeRow, .ref h_now_turnRow, .ref h_now_wayRow, .ref h_now_strokeRow, .int now_arms, .int now_strokes, .int now_hand, .int now_step, .int now_travel, .int now_reversals])), (h_now_kindRow, .inl (cI, 4, .inl now_kindRow)), (h_now_slackRow, .inl (cI, 4, .inl now_slackRow)), (h_now_placeRow, .inl (cI, 4, .inl now_placeRow)), (h_now_turnRow, .inl (cI, 4, .inl now_turnRow)), (h_now_wayRow, .inl (cI, 4, .inl now_wayRow)), (h_now_strokeRow, .inl (cI, 16, .inl now_strokeRow)), (h_sh0, .inr (1, [.ref h_sh0_cells, .int sh0_lane, .int sh0_size])), (h_sh0_cells, .inl (cI, 40, .inl sh0_cells)), (h_sh1, .inr (1, [.ref h_sh1_cells, .int sh1_lane, .int sh1_size])), (h_sh1_cells, .inl (cI, 40, .inl sh1_cells)), (h_sh2, .inr (1, [.ref h_sh2_cells, .int sh2_lane, .int sh2_size])), (h_sh2_cells, .inl (cI, 40, .inl sh2_cells)), (h_sh3, .inr (1, [.ref h_sh3_cells, .int sh3_lane, .int sh3_size])), (h_sh3_cells, .inl (cI, 40, .inl sh3_cells))]) C hX (kX1_faultTakenAs ad l D cI cB cZ cG cS h_sh1 h_sh1_cells sh1_lane sh1_size sh1_cells r31 x2 (x3 + x8) g32) (cwV 2 C.1.2.2.2.2 gX4_read_X1_faultTakenAs rfl rfl rfl (by decide +kernel) ⟨Nat.le_of_ble_eq_true rfl, Nat.le_of_ble_eq_true rfl⟩) [11, 12] [0, 1, 2, 3, 4, 5, 6, 7, 8, 9, 10, 13, 14, 15, 16] [0, 1, 2, 3, 4, 5, 6, 7, 8, 9, 10, 15, 16, 11, 12, 13, 14] rfl rfl rfl rfl (by decide) rfl rfl 0 rfl rfl rfl hl.1 rfl rfl (Nat.le_of_ble_eq_true rfl) dX4_read_71 (fun H locs hX => ?_)
          refine lv_istore (pc := 74) (lv' := [(7, .int r31), (0, .ref h0), (2, .int x2), (3, .int x3), (4, .int x4), (5, .ref h_sh1), (6, .int x6), (8, .int x8)]) hx hb dX4_read_74 hl (by decide) rfl (fun ls hl => ?_)
          refine lv_iload (pc := 76) hx hb dX4_read_76 (lv_at hl 0 rfl) ?_
          refine lv_if_ne (pc := 78) (tgt := 52) hx hb dX4_read_78 (by decide) (fun c33 => ?_) (fun c33 => ?_)
          · replace hf := ite_f c33 hf
            exact ih x2 x3 x4 x6 r31 x8 tornFault now_strokes now_strokeRow _ _ _ hf hX (lv_sub hl [1, 2, 3, 4, 5, 6, 0, 7] rfl)
          · replace hf := ite_t c33 hf
            refine lv_aload (pc := 81) hx hb dX4_read_81 (lv_at hl 5 rfl) ?_
            refine x_getf (pc := 83) (Cn := RX1) (T := TX1) (N := 3) C hX 11 rfl rfl miX4_read_X1 0 (by decide) mmX4_read_4 rfl dX4_read_83 ?_
            refine lv_iload_n (pc := 86) hx hb dX4_read_86 rfl (lv_at hl 3 rfl) ?_
            refine lv_iload (pc := 87) hx hb dX4_read_87 (lv_at hl 7 rfl) ?_
            refine lv_iadd (pc := 89) hx hb dX4_read_89 ?_
            replace hf := chk_adv hf
            have i34 := hf.1
            replace hf := hf.2
            refine x_iald (pc := 90) C hX 12 0 rfl rfl i34 dX4_read_90 ?_
            refine lv_topi (fun v35 ev35 => ?_)
            replace hf := bnd_use ev35 hf
            refine lv_istore (pc := 91) (lv' := [(9, .int v35), (7, .int r31), (0, .ref h0), (2, .int x2), (3, .int x3), (4, .int x4), (5, .ref h_sh1), (6, .int x6), (8, .int x8)]) hx hb dX4_read_91 hl (by decide) rfl (fun ls hl => ?_)
            refine lv_iload (pc := 93) hx hb dX4_read_93 (lv_at hl 0 rfl) ?_
            obtain ⟨r36, g37, hf⟩ := cl1_adv hf
            refine x_callSi (pc := 95) (rest := []) C hX (kX4_isShiftedStroke ad l D cI cB cZ cG cS r36 v35 g37) (va_cwS 1 C.1.2.2.2.2 gX4_read_X4_isShiftedStroke rfl rfl rfl (by decide +kernel) ⟨Nat.le_of_ble_eq_true rfl, Nat.le_of_ble_eq_true rfl⟩) hl.1 rfl rfl (Nat.le_of_ble_eq_true rfl) dX4_read_95 (fun H locs hX => ?_)
            refine lv_if_eq (pc := 98) (tgt := 116) hx hb dX4_read_98 (by decide) (fun c38 => ?_) (fun c38 => ?_)
            · replace hf := ite_t c38 hf
              exact L116  x6 x8 tornFault now_strokes now_strokeRow _ _ _ hf hX (lv_sub hl [2, 7, 8] rfl)
            · replace hf := ite_f c38 hf
              refine lv_aload_n (pc := 101) hx hb dX4_read_101 rfl (lv_at hl 2 rfl) ?_
              refine x_getf (pc := 102) (Cn := RX4) (T := TX4) (N := 9) C hX 0 rfl rfl miX4_read_X4 0 (by decide) mmX4_read_2 rfl dX4_read_102 ?_
              refine lv_iload (pc := 105) hx hb dX4_read_105 (lv_at hl 0 rfl) ?_
              refine lv_bipush (pc := 107) (v := 9) hx hb dX4_read_107 (by decide) ?_
              refine lv_isub (pc := 109) hx hb dX4_read_109 ?_
              obtain ⟨r39, u40, u41, g42, hf⟩ := cl3_adv hf
              refine x_callVi (pc := 110) (rest := []) (w2 := [(h0, .inr (4, [.ref h_now, .ref h_trial, .ref h_images, .ref h_kept, .ref h_tape, .ref h_sights, .ref h_sheets, .ref h_looks, .int tornFault])), (h_sheets, .inl (cS, 4, .inr (.inr (.inr (.inr (xr4 h_sh0 h_sh1 h_sh2 h_sh3)))))), (h_now, .inr (0, [.ref h_now_kindRow, .ref h_now_slackRow, .ref h_now_placeRow, .ref h_now_turnRow, .ref h_now_wayRow, .ref h_now_strokeRow, .int now_arms, .int u40, .int now_hand, .int now_step, .int now_travel, .int now_reversals])), (h_now_kindRow, .inl (cI, 4, .inl now_kindRow)), (h_now_slackRow, .inl (cI, 4, .inl now_slackRow)), (h_now_placeRow, .inl (cI, 4, .inl now_placeRow)), (h_now_turnRow, .inl (cI, 4, .inl now_turnRow)), (h_now_wayRow, .inl (cI, 4, .inl now_wayRow)), (h_now_strokeRow, .inl (cI, 16, .inl u41)), (h_sh0, .inr (1, [.ref h_sh0_cells, .int sh0_lane, .int sh0_size])), (h_sh0_cells, .inl (cI, 40, .inl sh0_cells)), (h_sh1, .inr (1, [.ref h_sh1_cells, .int sh1_lane, .int sh1_size])), (h_sh1_cells, .inl (cI, 40, .inl sh1_cells)), (h_sh2, .inr (1, [.ref h_sh2_cells, .int sh2_lane, .int sh2_size])), (h_sh2_cells, .inl (cI, 40, .inl sh2_cells)), (h_sh3, .inr (1, [.ref h_sh3_cells, .int sh3_lane, .int sh3_size])), (h_sh3_cells, .inl (cI, 40, .inl sh3_cells))]) C hX (kX0_appendStroke ad l D cI cB cZ cG cS h_now h_now_kindRow h_now_slackRow h_now_placeRow h_now_turnRow h_now_wayRow h_now_strokeRow now_arms now_strokes now_hand now_step now_travel now_reversals now_kindRow now_slackRow now_placeRow now_turnRow now_wayRow now_strokeRow r39 u40 u41 (v35 - (9 : Int32)) g42) (cwV 1 C.1.2.2.2.2 gX4_read_X0_appendStroke rfl rfl rfl (by decide +kernel) ⟨Nat.le_of_ble_eq_true rfl, Nat.le_of_ble_eq_true rfl⟩) [2, 3, 4, 5, 6, 7, 8] [0, 1, 9, 10, 11, 12, 13, 14, 15, 16] [0, 1, 10, 11, 12, 13, 14, 15, 16, 2, 3, 4, 5, 6, 7, 8, 9] rfl rfl rfl rfl (by decide) rfl rfl 0 rfl rfl rfl hl.1 rfl rfl (Nat.le_of_ble_eq_true rfl) dX4_read_110 (fun H locs hX => ?_)
              refine lv_if_ne (pc := 113) (tgt := 131) hx hb dX4_read_113 (by decide) (fun c43 => ?_) (fun c43 => ?_)
              · replace hf := ite_f c43 hf
                obtain ⟨v44, ev44⟩ : ∃ y : Int32, y = (x8 + (1 : Int32)) := ⟨_, rfl⟩
                replace hf := bnd_use ev44 hf
                refine lv_iinc (pc := 131) (v := v44) (lv' := [(8, .int v44), (9, .int v35), (7, .int r31), (0, .ref h0), (2, .int x2), (3, .int x3), (4, .int x4), (5, .ref h_sh1), (6, .int x6)]) hx hb dX4_read_131 hl (k := 8) rfl (by rw [ev44]; rfl) (by decide) rfl (fun ls hl => ?_)
                refine lv_goto (pc := 134) (tgt := 52) hx hb dX4_read_134 (by decide) ?_
                exact ih x2 x3 x4 x6 r31 v44 tornFault u40 u41 _ _ _ hf hX (lv_sub hl [3, 4, 5, 6, 7, 8, 2, 0] rfl)
              · replace hf := ite_t c43 hf
                exact L116  x6 x8 tornFault u40 u41 _ _ _ hf hX (lv_sub hl [2, 7, 8] rfl)
  have L52b : ∀ (n : Nat), ∀ (x2 : Int32) (x3 : Int32) (x4 : Int32) (x6 : Int32) (x7 : Int32) (x8 : Int32) (tornFault : Int32) (now_strokes : Int32) (now_strokeRow : (Nat → Int32)) (H : Heap) (locs : List Loc) (ls : Array Slot), fX4_read_L52b sh0_lane sh0_size sh0_cells sh1_lane sh1_size sh1_cells sh2_lane sh2_size sh2_cells sh3_lane sh3_size sh3_cells n x2 x3 x4 x6 x7 x8 tornFault now_strokes now_strokeRow = some (r0, o_tornFault', o_now_strokes', o_now_strokeRow') → xSt A s D [(h0, .inr (4, [.ref h_now, .ref h_trial, .ref h_images, .ref h_kept, .ref h_tape, .ref h_sights, .ref h_sheets, .ref h_looks, .int tornFault])), (h_sheets, .inl (cS, 4, .inr (.inr (.inr (.inr (xr4 h_sh0 h_sh1 h_sh2 h_sh3)))))), (h_now, .inr (0, [.ref h_now_kindRow, .ref h_now_slackRow, .ref h_now_placeRow, .ref h_now_turnRow, .ref h_now_wayRow, .ref h_now_strokeRow, .int now_arms, .int now_strokes, .int now_hand, .int now_step, .int now_travel, .int now_reversals])), (h_now_kindRow, .inl (cI, 4, .inl now_kindRow)), (h_now_slackRow, .inl (cI, 4, .inl now_slackRow)), (h_now_placeRow, .inl (cI, 4, .inl now_placeRow)), (h_now_turnRow, .inl (cI, 4, .inl now_turnRow)), (h_now_wayRow, .inl (cI, 4, .inl now_wayRow)), (h_now_strokeRow, .inl (cI, 16, .inl now_strokeRow)), (h_sh0, .inr (1, [.ref h_sh0_cells, .int sh0_lane, .int sh0_size])), (h_sh0_cells, .inl (cI, 40, .inl sh0_cells)), (h_sh1, .inr (1, [.ref h_sh1_cells, .int sh1_lane, .int sh1_size])), (h_sh1_cells, .inl (cI, 40, .inl sh1_cells)), (h_sh2, .inr (1, [.ref h_sh2_cells, .int sh2_lane, .int sh2_size])), (h_sh2_cells, .inl (cI, 40, .inl sh2_cells)), (h_sh3, .inr (1, [.ref h_sh3_cells, .int sh3_lane, .int sh3_size])), (h_sh3_cells, .inl (cI, 40, .inl sh3_cells))] H locs → lv_has ls 10 [(0, .ref h0), (2, .int x2), (3, .int x3), (4, .int x4), (5, .ref h_sh2), (6, .int x6), (7, .int x7), (8, .int x8)] → W p l e ({ frames := 3, cells := 0, slots := 0, locals := 65 } : Room) s m args below meth c H locs 0 0 Q (F0 m 52 ls []) := by
    intro n
    induction n with
    | zero =>
      intro x2 x3 x4 x6 x7 x8 tornFault now_strokes now_strokeRow H locs ls hf
      rw [fX4_read_L52b] at hf
      cases hf
    | succ n ih =>
      intro x2 x3 x4 x6 x7 x8 tornFault now_strokes now_strokeRow H locs ls hf hX hl
      rw [fX4_read_L52b] at hf
      refine lv_iload (pc := 52) hx hb dX4_read_52 (lv_at hl 7 rfl) ?_
      refine lv_iload (pc := 54) hx hb dX4_read_54 (lv_at hl 3 rfl) ?_
      refine lv_icmp_ge (pc := 56) (tgt := 137) hx hb dX4_read_56 (by decide) (fun c46 => ?_) (fun c46 => ?_)
      · replace hf := ite_t c46 hf
        refine lv_aload_n (pc := 137) hx hb dX4_read_137 rfl (lv_at hl 0 rfl) ?_
        refine lv_iload (pc := 138) hx hb dX4_read_138 (lv_at hl 6 rfl) ?_
        refine x_putf (pc := 140) (Cn := RX4) (T := TX4) (N := 9) C hX tyX4 tyX4_ok nmX4 0 rfl rfl miX4_read_X4 8 (by decide) mmX4_read_5 rfl rfl (Nat.le_of_ble_eq_true rfl) [(h0, .inr (4, [.ref h_now, .ref h_trial, .ref h_images, .ref h_kept, .ref h_tape, .ref h_sights, .ref h_sheets, .ref h_looks, .int x7])), (h_sheets, .inl (cS, 4, .inr (.inr (.inr (.inr (xr4 h_sh0 h_sh1 h_sh2 h_sh3)))))), (h_now, .inr (0, [.ref h_now_kindRow, .ref h_now_slackRow, .ref h_now_placeRow, .ref h_now_turnRow, .ref h_now_wayRow, .ref h_now_strokeRow, .int now_arms, .int now_strokes, .int now_hand, .int now_step, .int now_travel, .int now_reversals])), (h_now_kindRow, .inl (cI, 4, .inl now_kindRow)), (h_now_slackRow, .inl (cI, 4, .inl now_slackRow)), (h_now_placeRow, .inl (cI, 4, .inl now_placeRow)), (h_now_turnRow, .inl (cI, 4, .inl now_turnRow)), (h_now_wayRow, .inl (cI, 4, .inl now_wayRow)), (h_now_strokeRow, .inl (cI, 16, .inl now_strokeRow)), (h_sh0, .inr (1, [.ref h_sh0_cells, .int sh0_lane, .int sh0_size])), (h_sh0_cells, .inl (cI, 40, .inl sh0_cells)), (h_sh1, .inr (1, [.ref h_sh1_cells, .int sh1_lane, .int sh1_size])), (h_sh1_cells, .inl (cI, 40, .inl sh1_cells)), (h_sh2, .inr (1, [.ref h_sh2_cells, .int sh2_lane, .int sh2_size])), (h_sh2_cells, .inl (cI, 40, .inl sh2_cells)), (h_sh3, .inr (1, [.ref h_sh3_cells, .int sh3_lane, .int sh3_size])), (h_sh3_cells, .inl (cI, 40, .inl sh3_cells))] rfl dX4_read_140 (fun H locs hX => ?_)
        refine lv_iload (pc := 143) hx hb dX4_read_143 (lv_at hl 7 rfl) ?_
        obtain ⟨rfl, rfl, rfl, rfl⟩ := re4 hf
        exact hret _ _ _ _ _ rfl rfl hX dX4_read_145
      · replace hf := ite_f c46 hf
        refine lv_iload (pc := 59) hx hb dX4_read_59 (lv_at hl 6 rfl) ?_
        refine lv_if_ne (pc := 61) (tgt := 137) hx hb dX4_read_61 (by decide) (fun c47 => ?_) (fun c47 => ?_)
        · replace hf := ite_f c47 hf
          refine lv_aload_n (pc := 137) hx hb dX4_read_137 rfl (lv_at hl 0 rfl) ?_
          refine lv_iload (pc := 138) hx hb dX4_read_138 (lv_at hl 6 rfl) ?_
          refine x_putf (pc := 140) (Cn := RX4) (T := TX4) (N := 9) C hX tyX4 tyX4_ok nmX4 0 rfl rfl miX4_read_X4 8 (by decide) mmX4_read_5 rfl rfl (Nat.le_of_ble_eq_true rfl) [(h0, .inr (4, [.ref h_now, .ref h_trial, .ref h_images, .ref h_kept, .ref h_tape, .ref h_sights, .ref h_sheets, .ref h_looks, .int x7])), (h_sheets, .inl (cS, 4, .inr (.inr (.inr (.inr (xr4 h_sh0 h_sh1 h_sh2 h_sh3)))))), (h_now, .inr (0, [.ref h_now_kindRow, .ref h_now_slackRow, .ref h_now_placeRow, .ref h_now_turnRow, .ref h_now_wayRow, .ref h_now_strokeRow, .int now_arms, .int now_strokes, .int now_hand, .int now_step, .int now_travel, .int now_reversals])), (h_now_kindRow, .inl (cI, 4, .inl now_kindRow)), (h_now_slackRow, .inl (cI, 4, .inl now_slackRow)), (h_now_placeRow, .inl (cI, 4, .inl now_placeRow)), (h_now_turnRow, .inl (cI, 4, .inl now_turnRow)), (h_now_wayRow, .inl (cI, 4, .inl now_wayRow)), (h_now_strokeRow, .inl (cI, 16, .inl now_strokeRow)), (h_sh0, .inr (1, [.ref h_sh0_cells, .int sh0_lane, .int sh0_size])), (h_sh0_cells, .inl (cI, 40, .inl sh0_cells)), (h_sh1, .inr (1, [.ref h_sh1_cells, .int sh1_lane, .int sh1_size])), (h_sh1_cells, .inl (cI, 40, .inl sh1_cells)), (h_sh2, .inr (1, [.ref h_sh2_cells, .int sh2_lane, .int sh2_size])), (h_sh2_cells, .inl (cI, 40, .inl sh2_cells)), (h_sh3, .inr (1, [.ref h_sh3_cells, .int sh3_lane, .int sh3_size])), (h_sh3_cells, .inl (cI, 40, .inl sh3_cells))] rfl dX4_read_140 (fun H locs hX => ?_)
          refine lv_iload (pc := 143) hx hb dX4_read_143 (lv_at hl 7 rfl) ?_
          obtain ⟨rfl, rfl, rfl, rfl⟩ := re4 hf
          exact hret _ _ _ _ _ rfl rfl hX dX4_read_145
        · replace hf := ite_t c47 hf
          refine lv_aload (pc := 64) hx hb dX4_read_64 (lv_at hl 4 rfl) ?_
          refine lv_iload_n (pc := 66) hx hb dX4_read_66 rfl (lv_at hl 1 rfl) ?_
          refine lv_iload_n (pc := 67) hx hb dX4_read_67 rfl (lv_at hl 2 rfl) ?_
          refine lv_iload (pc := 68) hx hb dX4_read_68 (lv_at hl 7 rfl) ?_
          refine lv_iadd (pc := 70) hx hb dX4_read_70 ?_
          obtain ⟨r48, g49, hf⟩ := cl1_adv hf
          refine x_callVi (pc := 71) (rest := []) (w2 := [(h0, .inr (4, [.ref h_now, .ref h_trial, .ref h_images, .ref h_kept, .ref h_tape, .ref h_sights, .ref h_sheets, .ref h_looks, .int tornFault])), (h_sheets, .inl (cS, 4, .inr (.inr (.inr (.inr (xr4 h_sh0 h_sh1 h_sh2 h_sh3)))))), (h_now, .inr (0, [.ref h_now_kindRow, .ref h_now_slackRow, .ref h_now_placeRow, .ref h_now_turnRow, .ref h_now_wayRow, .ref h_now_strokeRow, .int now_arms, .int now_strokes, .int now_hand, .int now_step, .int now_travel, .int now_reversals])), (h_now_kindRow, .inl (cI, 4, .inl now_kindRow)), (h_now_slackRow, .inl (cI, 4, .inl now_slackRow)), (h_now_placeRow, .inl (cI, 4, .inl now_placeRow)), (h_now_turnRow, .inl (cI, 4, .inl now_turnRow)), (h_now_wayRow, .inl (cI, 4, .inl now_wayRow)), (h_now_strokeRow, .inl (cI, 16, .inl now_strokeRow)), (h_sh0, .inr (1, [.ref h_sh0_cells, .int sh0_lane, .int sh0_size])), (h_sh0_cells, .inl (cI, 40, .inl sh0_cells)), (h_sh1, .inr (1, [.ref h_sh1_cells, .int sh1_lane, .int sh1_size])), (h_sh1_cells, .inl (cI, 40, .inl sh1_cells)), (h_sh2, .inr (1, [.ref h_sh2_cells, .int sh2_lane, .int sh2_size])), (h_sh2_cells, .inl (cI, 40, .inl sh2_cells)), (h_sh3, .inr (1, [.ref h_sh3_cells, .int sh3_lane, .int sh3_size])), (h_sh3_cells, .inl (cI, 40, .inl sh3_cells))]) C hX (kX1_faultTakenAs ad l D cI cB cZ cG cS h_sh2 h_sh2_cells sh2_lane sh2_size sh2_cells r48 x2 (x3 + x8) g49) (cwV 2 C.1.2.2.2.2 gX4_read_X1_faultTakenAs rfl rfl rfl (by decide +kernel) ⟨Nat.le_of_ble_eq_true rfl, Nat.le_of_ble_eq_true rfl⟩) [13, 14] [0, 1, 2, 3, 4, 5, 6, 7, 8, 9, 10, 11, 12, 15, 16] [0, 1, 2, 3, 4, 5, 6, 7, 8, 9, 10, 11, 12, 15, 16, 13, 14] rfl rfl rfl rfl (by decide) rfl rfl 0 rfl rfl rfl hl.1 rfl rfl (Nat.le_of_ble_eq_true rfl) dX4_read_71 (fun H locs hX => ?_)
          refine lv_istore (pc := 74) (lv' := [(7, .int r48), (0, .ref h0), (2, .int x2), (3, .int x3), (4, .int x4), (5, .ref h_sh2), (6, .int x6), (8, .int x8)]) hx hb dX4_read_74 hl (by decide) rfl (fun ls hl => ?_)
          refine lv_iload (pc := 76) hx hb dX4_read_76 (lv_at hl 0 rfl) ?_
          refine lv_if_ne (pc := 78) (tgt := 52) hx hb dX4_read_78 (by decide) (fun c50 => ?_) (fun c50 => ?_)
          · replace hf := ite_f c50 hf
            exact ih x2 x3 x4 x6 r48 x8 tornFault now_strokes now_strokeRow _ _ _ hf hX (lv_sub hl [1, 2, 3, 4, 5, 6, 0, 7] rfl)
          · replace hf := ite_t c50 hf
            refine lv_aload (pc := 81) hx hb dX4_read_81 (lv_at hl 5 rfl) ?_
            refine x_getf (pc := 83) (Cn := RX1) (T := TX1) (N := 3) C hX 13 rfl rfl miX4_read_X1 0 (by decide) mmX4_read_4 rfl dX4_read_83 ?_
            refine lv_iload_n (pc := 86) hx hb dX4_read_86 rfl (lv_at hl 3 rfl) ?_
            refine lv_iload (pc := 87) hx hb dX4_read_87 (lv_at hl 7 rfl) ?_
            refine lv_iadd (pc := 89) hx hb dX4_read_89 ?_
            replace hf := chk_adv hf
            have i51 := hf.1
            replace hf := hf.2
            refine x_iald (pc := 90) C hX 14 0 rfl rfl i51 dX4_read_90 ?_
            refine lv_topi (fun v52 ev52 => ?_)
            replace hf := bnd_use ev52 hf
            refine lv_istore (pc := 91) (lv' := [(9, .int v52), (7, .int r48), (0, .ref h0), (2, .int x2), (3, .int x3), (4, .int x4), (5, .ref h_sh2), (6, .int x6), (8, .int x8)]) hx hb dX4_read_91 hl (by decide) rfl (fun ls hl => ?_)
            refine lv_iload (pc := 93) hx hb dX4_read_93 (lv_at hl 0 rfl) ?_
            obtain ⟨r53, g54, hf⟩ := cl1_adv hf
            refine x_callSi (pc := 95) (rest := []) C hX (kX4_isShiftedStroke ad l D cI cB cZ cG cS r53 v52 g54) (va_cwS 1 C.1.2.2.2.2 gX4_read_X4_isShiftedStroke rfl rfl rfl (by decide +kernel) ⟨Nat.le_of_ble_eq_true rfl, Nat.le_of_ble_eq_true rfl⟩) hl.1 rfl rfl (Nat.le_of_ble_eq_true rfl) dX4_read_95 (fun H locs hX => ?_)
            refine lv_if_eq (pc := 98) (tgt := 116) hx hb dX4_read_98 (by decide) (fun c55 => ?_) (fun c55 => ?_)
            · replace hf := ite_t c55 hf
              exact L116  x6 x8 tornFault now_strokes now_strokeRow _ _ _ hf hX (lv_sub hl [2, 7, 8] rfl)
            · replace hf := ite_f c55 hf
              refine lv_aload_n (pc := 101) hx hb dX4_read_101 rfl (lv_at hl 2 rfl) ?_
              refine x_getf (pc := 102) (Cn := RX4) (T := TX4) (N := 9) C hX 0 rfl rfl miX4_read_X4 0 (by decide) mmX4_read_2 rfl dX4_read_102 ?_
              refine lv_iload (pc := 105) hx hb dX4_read_105 (lv_at hl 0 rfl) ?_
              refine lv_bipush (pc := 107) (v := 9) hx hb dX4_read_107 (by decide) ?_
              refine lv_isub (pc := 109) hx hb dX4_read_109 ?_
              obtain ⟨r56, u57, u58, g59, hf⟩ := cl3_adv hf
              refine x_callVi (pc := 110) (rest := []) (w2 := [(h0, .inr (4, [.ref h_now, .ref h_trial, .ref h_images, .ref h_kept, .ref h_tape, .ref h_sights, .ref h_sheets, .ref h_looks, .int tornFault])), (h_sheets, .inl (cS, 4, .inr (.inr (.inr (.inr (xr4 h_sh0 h_sh1 h_sh2 h_sh3)))))), (h_now, .inr (0, [.ref h_now_kindRow, .ref h_now_slackRow, .ref h_now_placeRow, .ref h_now_turnRow, .ref h_now_wayRow, .ref h_now_strokeRow, .int now_arms, .int u57, .int now_hand, .int now_step, .int now_travel, .int now_reversals])), (h_now_kindRow, .inl (cI, 4, .inl now_kindRow)), (h_now_slackRow, .inl (cI, 4, .inl now_slackRow)), (h_now_placeRow, .inl (cI, 4, .inl now_placeRow)), (h_now_turnRow, .inl (cI, 4, .inl now_turnRow)), (h_now_wayRow, .inl (cI, 4, .inl now_wayRow)), (h_now_strokeRow, .inl (cI, 16, .inl u58)), (h_sh0, .inr (1, [.ref h_sh0_cells, .int sh0_lane, .int sh0_size])), (h_sh0_cells, .inl (cI, 40, .inl sh0_cells)), (h_sh1, .inr (1, [.ref h_sh1_cells, .int sh1_lane, .int sh1_size])), (h_sh1_cells, .inl (cI, 40, .inl sh1_cells)), (h_sh2, .inr (1, [.ref h_sh2_cells, .int sh2_lane, .int sh2_size])), (h_sh2_cells, .inl (cI, 40, .inl sh2_cells)), (h_sh3, .inr (1, [.ref h_sh3_cells, .int sh3_lane, .int sh3_size])), (h_sh3_cells, .inl (cI, 40, .inl sh3_cells))]) C hX (kX0_appendStroke ad l D cI cB cZ cG cS h_now h_now_kindRow h_now_slackRow h_now_placeRow h_now_turnRow h_now_wayRow h_now_strokeRow now_arms now_strokes now_hand now_step now_travel now_reversals now_kindRow now_slackRow now_placeRow now_turnRow now_wayRow now_strokeRow r56 u57 u58 (v52 - (9 : Int32)) g59) (cwV 1 C.1.2.2.2.2 gX4_read_X0_appendStroke rfl rfl rfl (by decide +kernel) ⟨Nat.le_of_ble_eq_true rfl, Nat.le_of_ble_eq_true rfl⟩) [2, 3, 4, 5, 6, 7, 8] [0, 1, 9, 10, 11, 12, 13, 14, 15, 16] [0, 1, 10, 11, 12, 13, 14, 15, 16, 2, 3, 4, 5, 6, 7, 8, 9] rfl rfl rfl rfl (by decide) rfl rfl 0 rfl rfl rfl hl.1 rfl rfl (Nat.le_of_ble_eq_true rfl) dX4_read_110 (fun H locs hX => ?_)
              refine lv_if_ne (pc := 113) (tgt := 131) hx hb dX4_read_113 (by decide) (fun c60 => ?_) (fun c60 => ?_)
              · replace hf := ite_f c60 hf
                obtain ⟨v61, ev61⟩ : ∃ y : Int32, y = (x8 + (1 : Int32)) := ⟨_, rfl⟩
                replace hf := bnd_use ev61 hf
                refine lv_iinc (pc := 131) (v := v61) (lv' := [(8, .int v61), (9, .int v52), (7, .int r48), (0, .ref h0), (2, .int x2), (3, .int x3), (4, .int x4), (5, .ref h_sh2), (6, .int x6)]) hx hb dX4_read_131 hl (k := 8) rfl (by rw [ev61]; rfl) (by decide) rfl (fun ls hl => ?_)
                refine lv_goto (pc := 134) (tgt := 52) hx hb dX4_read_134 (by decide) ?_
                exact ih x2 x3 x4 x6 r48 v61 tornFault u57 u58 _ _ _ hf hX (lv_sub hl [3, 4, 5, 6, 7, 8, 2, 0] rfl)
              · replace hf := ite_t c60 hf
                exact L116  x6 x8 tornFault u57 u58 _ _ _ hf hX (lv_sub hl [2, 7, 8] rfl)
  have L52c : ∀ (n : Nat), ∀ (x2 : Int32) (x3 : Int32) (x4 : Int32) (x6 : Int32) (x7 : Int32) (x8 : Int32) (tornFault : Int32) (now_strokes : Int32) (now_strokeRow : (Nat → Int32)) (H : Heap) (locs : List Loc) (ls : Array Slot), fX4_read_L52c sh0_lane sh0_size sh0_cells sh1_lane sh1_size sh1_cells sh2_lane sh2_size sh2_cells sh3_lane sh3_size sh3_cells n x2 x3 x4 x6 x7 x8 tornFault now_strokes now_strokeRow = some (r0, o_tornFault', o_now_strokes', o_now_strokeRow') → xSt A s D [(h0, .inr (4, [.ref h_now, .ref h_trial, .ref h_images, .ref h_kept, .ref h_tape, .ref h_sights, .ref h_sheets, .ref h_looks, .int tornFault])), (h_sheets, .inl (cS, 4, .inr (.inr (.inr (.inr (xr4 h_sh0 h_sh1 h_sh2 h_sh3)))))), (h_now, .inr (0, [.ref h_now_kindRow, .ref h_now_slackRow, .ref h_now_placeRow, .ref h_now_turnRow, .ref h_now_wayRow, .ref h_now_strokeRow, .int now_arms, .int now_strokes, .int now_hand, .int now_step, .int now_travel, .int now_reversals])), (h_now_kindRow, .inl (cI, 4, .inl now_kindRow)), (h_now_slackRow, .inl (cI, 4, .inl now_slackRow)), (h_now_placeRow, .inl (cI, 4, .inl now_placeRow)), (h_now_turnRow, .inl (cI, 4, .inl now_turnRow)), (h_now_wayRow, .inl (cI, 4, .inl now_wayRow)), (h_now_strokeRow, .inl (cI, 16, .inl now_strokeRow)), (h_sh0, .inr (1, [.ref h_sh0_cells, .int sh0_lane, .int sh0_size])), (h_sh0_cells, .inl (cI, 40, .inl sh0_cells)), (h_sh1, .inr (1, [.ref h_sh1_cells, .int sh1_lane, .int sh1_size])), (h_sh1_cells, .inl (cI, 40, .inl sh1_cells)), (h_sh2, .inr (1, [.ref h_sh2_cells, .int sh2_lane, .int sh2_size])), (h_sh2_cells, .inl (cI, 40, .inl sh2_cells)), (h_sh3, .inr (1, [.ref h_sh3_cells, .int sh3_lane, .int sh3_size])), (h_sh3_cells, .inl (cI, 40, .inl sh3_cells))] H locs → lv_has ls 10 [(0, .ref h0), (2, .int x2), (3, .int x3), (4, .int x4), (5, .ref h_sh3), (6, .int x6), (7, .int x7), (8, .int x8)] → W p l e ({ frames := 3, cells := 0, slots := 0, locals := 65 } : Room) s m args below meth c H locs 0 0 Q (F0 m 52 ls []) := by
    intro n
    induction n with
    | zero =>
      intro x2 x3 x4 x6 x7 x8 tornFault now_strokes now_strokeRow H locs ls hf
      rw [fX4_read_L52c] at hf
      cases hf
    | succ n ih =>
      intro x2 x3 x4 x6 x7 x8 tornFault now_strokes now_strokeRow H locs ls hf hX hl
      rw [fX4_read_L52c] at hf
      refine lv_iload (pc := 52) hx hb dX4_read_52 (lv_at hl 7 rfl) ?_
      refine lv_iload (pc := 54) hx hb dX4_read_54 (lv_at hl 3 rfl) ?_
      refine lv_icmp_ge (pc := 56) (tgt := 137) hx hb dX4_read_56 (by decide) (fun c63 => ?_) (fun c63 => ?_)
      · replace hf := ite_t c63 hf
        refine lv_aload_n (pc := 137) hx hb dX4_read_137 rfl (lv_at hl 0 rfl) ?_
        refine lv_iload (pc := 138) hx hb dX4_read_138 (lv_at hl 6 rfl) ?_
        refine x_putf (pc := 140) (Cn := RX4) (T := TX4) (N := 9) C hX tyX4 tyX4_ok nmX4 0 rfl rfl miX4_read_X4 8 (by decide) mmX4_read_5 rfl rfl (Nat.le_of_ble_eq_true rfl) [(h0, .inr (4, [.ref h_now, .ref h_trial, .ref h_images, .ref h_kept, .ref h_tape, .ref h_sights, .ref h_sheets, .ref h_looks, .int x7])), (h_sheets, .inl (cS, 4, .inr (.inr (.inr (.inr (xr4 h_sh0 h_sh1 h_sh2 h_sh3)))))), (h_now, .inr (0, [.ref h_now_kindRow, .ref h_now_slackRow, .ref h_now_placeRow, .ref h_now_turnRow, .ref h_now_wayRow, .ref h_now_strokeRow, .int now_arms, .int now_strokes, .int now_hand, .int now_step, .int now_travel, .int now_reversals])), (h_now_kindRow, .inl (cI, 4, .inl now_kindRow)), (h_now_slackRow, .inl (cI, 4, .inl now_slackRow)), (h_now_placeRow, .inl (cI, 4, .inl now_placeRow)), (h_now_turnRow, .inl (cI, 4, .inl now_turnRow)), (h_now_wayRow, .inl (cI, 4, .inl now_wayRow)), (h_now_strokeRow, .inl (cI, 16, .inl now_strokeRow)), (h_sh0, .inr (1, [.ref h_sh0_cells, .int sh0_lane, .int sh0_size])), (h_sh0_cells, .inl (cI, 40, .inl sh0_cells)), (h_sh1, .inr (1, [.ref h_sh1_cells, .int sh1_lane, .int sh1_size])), (h_sh1_cells, .inl (cI, 40, .inl sh1_cells)), (h_sh2, .inr (1, [.ref h_sh2_cells, .int sh2_lane, .int sh2_size])), (h_sh2_cells, .inl (cI, 40, .inl sh2_cells)), (h_sh3, .inr (1, [.ref h_sh3_cells, .int sh3_lane, .int sh3_size])), (h_sh3_cells, .inl (cI, 40, .inl sh3_cells))] rfl dX4_read_140 (fun H locs hX => ?_)
        refine lv_iload (pc := 143) hx hb dX4_read_143 (lv_at hl 7 rfl) ?_
        obtain ⟨rfl, rfl, rfl, rfl⟩ := re4 hf
        exact hret _ _ _ _ _ rfl rfl hX dX4_read_145
      · replace hf := ite_f c63 hf
        refine lv_iload (pc := 59) hx hb dX4_read_59 (lv_at hl 6 rfl) ?_
        refine lv_if_ne (pc := 61) (tgt := 137) hx hb dX4_read_61 (by decide) (fun c64 => ?_) (fun c64 => ?_)
        · replace hf := ite_f c64 hf
          refine lv_aload_n (pc := 137) hx hb dX4_read_137 rfl (lv_at hl 0 rfl) ?_
          refine lv_iload (pc := 138) hx hb dX4_read_138 (lv_at hl 6 rfl) ?_
          refine x_putf (pc := 140) (Cn := RX4) (T := TX4) (N := 9) C hX tyX4 tyX4_ok nmX4 0 rfl rfl miX4_read_X4 8 (by decide) mmX4_read_5 rfl rfl (Nat.le_of_ble_eq_true rfl) [(h0, .inr (4, [.ref h_now, .ref h_trial, .ref h_images, .ref h_kept, .ref h_tape, .ref h_sights, .ref h_sheets, .ref h_looks, .int x7])), (h_sheets, .inl (cS, 4, .inr (.inr (.inr (.inr (xr4 h_sh0 h_sh1 h_sh2 h_sh3)))))), (h_now, .inr (0, [.ref h_now_kindRow, .ref h_now_slackRow, .ref h_now_placeRow, .ref h_now_turnRow, .ref h_now_wayRow, .ref h_now_strokeRow, .int now_arms, .int now_strokes, .int now_hand, .int now_step, .int now_travel, .int now_reversals])), (h_now_kindRow, .inl (cI, 4, .inl now_kindRow)), (h_now_slackRow, .inl (cI, 4, .inl now_slackRow)), (h_now_placeRow, .inl (cI, 4, .inl now_placeRow)), (h_now_turnRow, .inl (cI, 4, .inl now_turnRow)), (h_now_wayRow, .inl (cI, 4, .inl now_wayRow)), (h_now_strokeRow, .inl (cI, 16, .inl now_strokeRow)), (h_sh0, .inr (1, [.ref h_sh0_cells, .int sh0_lane, .int sh0_size])), (h_sh0_cells, .inl (cI, 40, .inl sh0_cells)), (h_sh1, .inr (1, [.ref h_sh1_cells, .int sh1_lane, .int sh1_size])), (h_sh1_cells, .inl (cI, 40, .inl sh1_cells)), (h_sh2, .inr (1, [.ref h_sh2_cells, .int sh2_lane, .int sh2_size])), (h_sh2_cells, .inl (cI, 40, .inl sh2_cells)), (h_sh3, .inr (1, [.ref h_sh3_cells, .int sh3_lane, .int sh3_size])), (h_sh3_cells, .inl (cI, 40, .inl sh3_cells))] rfl dX4_read_140 (fun H locs hX => ?_)
          refine lv_iload (pc := 143) hx hb dX4_read_143 (lv_at hl 7 rfl) ?_
          obtain ⟨rfl, rfl, rfl, rfl⟩ := re4 hf
          exact hret _ _ _ _ _ rfl rfl hX dX4_read_145
        · replace hf := ite_t c64 hf
          refine lv_aload (pc := 64) hx hb dX4_read_64 (lv_at hl 4 rfl) ?_
          refine lv_iload_n (pc := 66) hx hb dX4_read_66 rfl (lv_at hl 1 rfl) ?_
          refine lv_iload_n (pc := 67) hx hb dX4_read_67 rfl (lv_at hl 2 rfl) ?_
          refine lv_iload (pc := 68) hx hb dX4_read_68 (lv_at hl 7 rfl) ?_
          refine lv_iadd (pc := 70) hx hb dX4_read_70 ?_
          obtain ⟨r65, g66, hf⟩ := cl1_adv hf
          refine x_callVi (pc := 71) (rest := []) (w2 := [(h0, .inr (4, [.ref h_now, .ref h_trial, .ref h_images, .ref h_kept, .ref h_tape, .ref h_sights, .ref h_sheets, .ref h_looks, .int tornFault])), (h_sheets, .inl (cS, 4, .inr (.inr (.inr (.inr (xr4 h_sh0 h_sh1 h_sh2 h_sh3)))))), (h_now, .inr (0, [.ref h_now_kindRow, .ref h_now_slackRow, .ref h_now_placeRow, .ref h_now_turnRow, .ref h_now_wayRow, .ref h_now_strokeRow, .int now_arms, .int now_strokes, .int now_hand, .int now_step, .int now_travel, .int now_reversals])), (h_now_kindRow, .inl (cI, 4, .inl now_kindRow)), (h_now_slackRow, .inl (cI, 4, .inl now_slackRow)), (h_now_placeRow, .inl (cI, 4, .inl now_placeRow)), (h_now_turnRow, .inl (cI, 4, .inl now_turnRow)), (h_now_wayRow, .inl (cI, 4, .inl now_wayRow)), (h_now_strokeRow, .inl (cI, 16, .inl now_strokeRow)), (h_sh0, .inr (1, [.ref h_sh0_cells, .int sh0_lane, .int sh0_size])), (h_sh0_cells, .inl (cI, 40, .inl sh0_cells)), (h_sh1, .inr (1, [.ref h_sh1_cells, .int sh1_lane, .int sh1_size])), (h_sh1_cells, .inl (cI, 40, .inl sh1_cells)), (h_sh2, .inr (1, [.ref h_sh2_cells, .int sh2_lane, .int sh2_size])), (h_sh2_cells, .inl (cI, 40, .inl sh2_cells)), (h_sh3, .inr (1, [.ref h_sh3_cells, .int sh3_lane, .int sh3_size])), (h_sh3_cells, .inl (cI, 40, .inl sh3_cells))]) C hX (kX1_faultTakenAs ad l D cI cB cZ cG cS h_sh3 h_sh3_cells sh3_lane sh3_size sh3_cells r65 x2 (x3 + x8) g66) (cwV 2 C.1.2.2.2.2 gX4_read_X1_faultTakenAs rfl rfl rfl (by decide +kernel) ⟨Nat.le_of_ble_eq_true rfl, Nat.le_of_ble_eq_true rfl⟩) [15, 16] [0, 1, 2, 3, 4, 5, 6, 7, 8, 9, 10, 11, 12, 13, 14] [0, 1, 2, 3, 4, 5, 6, 7, 8, 9, 10, 11, 12, 13, 14, 15, 16] rfl rfl rfl rfl (by decide) rfl rfl 0 rfl rfl rfl hl.1 rfl rfl (Nat.le_of_ble_eq_true rfl) dX4_read_71 (fun H locs hX => ?_)
          refine lv_istore (pc := 74) (lv' := [(7, .int r65), (0, .ref h0), (2, .int x2), (3, .int x3), (4, .int x4), (5, .ref h_sh3), (6, .int x6), (8, .int x8)]) hx hb dX4_read_74 hl (by decide) rfl (fun ls hl => ?_)
          refine lv_iload (pc := 76) hx hb dX4_read_76 (lv_at hl 0 rfl) ?_
          refine lv_if_ne (pc := 78) (tgt := 52) hx hb dX4_read_78 (by decide) (fun c67 => ?_) (fun c67 => ?_)
          · replace hf := ite_f c67 hf
            exact ih x2 x3 x4 x6 r65 x8 tornFault now_strokes now_strokeRow _ _ _ hf hX (lv_sub hl [1, 2, 3, 4, 5, 6, 0, 7] rfl)
          · replace hf := ite_t c67 hf
            refine lv_aload (pc := 81) hx hb dX4_read_81 (lv_at hl 5 rfl) ?_
            refine x_getf (pc := 83) (Cn := RX1) (T := TX1) (N := 3) C hX 15 rfl rfl miX4_read_X1 0 (by decide) mmX4_read_4 rfl dX4_read_83 ?_
            refine lv_iload_n (pc := 86) hx hb dX4_read_86 rfl (lv_at hl 3 rfl) ?_
            refine lv_iload (pc := 87) hx hb dX4_read_87 (lv_at hl 7 rfl) ?_
            refine lv_iadd (pc := 89) hx hb dX4_read_89 ?_
            replace hf := chk_adv hf
            have i68 := hf.1
            replace hf := hf.2
            refine x_iald (pc := 90) C hX 16 0 rfl rfl i68 dX4_read_90 ?_
            refine lv_topi (fun v69 ev69 => ?_)
            replace hf := bnd_use ev69 hf
            refine lv_istore (pc := 91) (lv' := [(9, .int v69), (7, .int r65), (0, .ref h0), (2, .int x2), (3, .int x3), (4, .int x4), (5, .ref h_sh3), (6, .int x6), (8, .int x8)]) hx hb dX4_read_91 hl (by decide) rfl (fun ls hl => ?_)
            refine lv_iload (pc := 93) hx hb dX4_read_93 (lv_at hl 0 rfl) ?_
            obtain ⟨r70, g71, hf⟩ := cl1_adv hf
            refine x_callSi (pc := 95) (rest := []) C hX (kX4_isShiftedStroke ad l D cI cB cZ cG cS r70 v69 g71) (va_cwS 1 C.1.2.2.2.2 gX4_read_X4_isShiftedStroke rfl rfl rfl (by decide +kernel) ⟨Nat.le_of_ble_eq_true rfl, Nat.le_of_ble_eq_true rfl⟩) hl.1 rfl rfl (Nat.le_of_ble_eq_true rfl) dX4_read_95 (fun H locs hX => ?_)
            refine lv_if_eq (pc := 98) (tgt := 116) hx hb dX4_read_98 (by decide) (fun c72 => ?_) (fun c72 => ?_)
            · replace hf := ite_t c72 hf
              exact L116  x6 x8 tornFault now_strokes now_strokeRow _ _ _ hf hX (lv_sub hl [2, 7, 8] rfl)
            · replace hf := ite_f c72 hf
              refine lv_aload_n (pc := 101) hx hb dX4_read_101 rfl (lv_at hl 2 rfl) ?_
              refine x_getf (pc := 102) (Cn := RX4) (T := TX4) (N := 9) C hX 0 rfl rfl miX4_read_X4 0 (by decide) mmX4_read_2 rfl dX4_read_102 ?_
              refine lv_iload (pc := 105) hx hb dX4_read_105 (lv_at hl 0 rfl) ?_
              refine lv_bipush (pc := 107) (v := 9) hx hb dX4_read_107 (by decide) ?_
              refine lv_isub (pc := 109) hx hb dX4_read_109 ?_
              obtain ⟨r73, u74, u75, g76, hf⟩ := cl3_adv hf
              refine x_callVi (pc := 110) (rest := []) (w2 := [(h0, .inr (4, [.ref h_now, .ref h_trial, .ref h_images, .ref h_kept, .ref h_tape, .ref h_sights, .ref h_sheets, .ref h_looks, .int tornFault])), (h_sheets, .inl (cS, 4, .inr (.inr (.inr (.inr (xr4 h_sh0 h_sh1 h_sh2 h_sh3)))))), (h_now, .inr (0, [.ref h_now_kindRow, .ref h_now_slackRow, .ref h_now_placeRow, .ref h_now_turnRow, .ref h_now_wayRow, .ref h_now_strokeRow, .int now_arms, .int u74, .int now_hand, .int now_step, .int now_travel, .int now_reversals])), (h_now_kindRow, .inl (cI, 4, .inl now_kindRow)), (h_now_slackRow, .inl (cI, 4, .inl now_slackRow)), (h_now_placeRow, .inl (cI, 4, .inl now_placeRow)), (h_now_turnRow, .inl (cI, 4, .inl now_turnRow)), (h_now_wayRow, .inl (cI, 4, .inl now_wayRow)), (h_now_strokeRow, .inl (cI, 16, .inl u75)), (h_sh0, .inr (1, [.ref h_sh0_cells, .int sh0_lane, .int sh0_size])), (h_sh0_cells, .inl (cI, 40, .inl sh0_cells)), (h_sh1, .inr (1, [.ref h_sh1_cells, .int sh1_lane, .int sh1_size])), (h_sh1_cells, .inl (cI, 40, .inl sh1_cells)), (h_sh2, .inr (1, [.ref h_sh2_cells, .int sh2_lane, .int sh2_size])), (h_sh2_cells, .inl (cI, 40, .inl sh2_cells)), (h_sh3, .inr (1, [.ref h_sh3_cells, .int sh3_lane, .int sh3_size])), (h_sh3_cells, .inl (cI, 40, .inl sh3_cells))]) C hX (kX0_appendStroke ad l D cI cB cZ cG cS h_now h_now_kindRow h_now_slackRow h_now_placeRow h_now_turnRow h_now_wayRow h_now_strokeRow now_arms now_strokes now_hand now_step now_travel now_reversals now_kindRow now_slackRow now_placeRow now_turnRow now_wayRow now_strokeRow r73 u74 u75 (v69 - (9 : Int32)) g76) (cwV 1 C.1.2.2.2.2 gX4_read_X0_appendStroke rfl rfl rfl (by decide +kernel) ⟨Nat.le_of_ble_eq_true rfl, Nat.le_of_ble_eq_true rfl⟩) [2, 3, 4, 5, 6, 7, 8] [0, 1, 9, 10, 11, 12, 13, 14, 15, 16] [0, 1, 10, 11, 12, 13, 14, 15, 16, 2, 3, 4, 5, 6, 7, 8, 9] rfl rfl rfl rfl (by decide) rfl rfl 0 rfl rfl rfl hl.1 rfl rfl (Nat.le_of_ble_eq_true rfl) dX4_read_110 (fun H locs hX => ?_)
              refine lv_if_ne (pc := 113) (tgt := 131) hx hb dX4_read_113 (by decide) (fun c77 => ?_) (fun c77 => ?_)
              · replace hf := ite_f c77 hf
                obtain ⟨v78, ev78⟩ : ∃ y : Int32, y = (x8 + (1 : Int32)) := ⟨_, rfl⟩
                replace hf := bnd_use ev78 hf
                refine lv_iinc (pc := 131) (v := v78) (lv' := [(8, .int v78), (9, .int v69), (7, .int r65), (0, .ref h0), (2, .int x2), (3, .int x3), (4, .int x4), (5, .ref h_sh3), (6, .int x6)]) hx hb dX4_read_131 hl (k := 8) rfl (by rw [ev78]; rfl) (by decide) rfl (fun ls hl => ?_)
                refine lv_goto (pc := 134) (tgt := 52) hx hb dX4_read_134 (by decide) ?_
                exact ih x2 x3 x4 x6 r65 v78 tornFault u74 u75 _ _ _ hf hX (lv_sub hl [3, 4, 5, 6, 7, 8, 2, 0] rfl)
              · replace hf := ite_t c77 hf
                exact L116  x6 x8 tornFault u74 u75 _ _ _ hf hX (lv_sub hl [2, 7, 8] rfl)
  unfold fX4_read at hf
  refine lv_iload_n (pc := 0) hx hb dX4_read_0 rfl (lv_at hl 1 rfl) ?_
  obtain ⟨r1, g2, hf⟩ := cl1_adv hf
  refine x_callSi (pc := 1) (rest := []) C hX (kX4_isSheet ad l D cI cB cZ cG cS r1 p1 g2) (va_cwS 1 C.1.2.2.2.2 gX4_read_X4_isSheet rfl rfl rfl (by decide +kernel) ⟨Nat.le_of_ble_eq_true rfl, Nat.le_of_ble_eq_true rfl⟩) hl.1 rfl rfl (Nat.le_of_ble_eq_true rfl) dX4_read_1 (fun H locs hX => ?_)
  refine lv_if_eq (pc := 4) (tgt := 27) hx hb dX4_read_4 (by decide) (fun c3 => ?_) (fun c3 => ?_)
  · replace hf := ite_t c3 hf
    refine lv_iconst (pc := 27) (v := -1) hx hb dX4_read_27 (by decide) ?_
    obtain ⟨rfl, rfl, rfl, rfl⟩ := re4 hf
    exact hret _ _ _ _ _ rfl rfl hX dX4_read_28
  · replace hf := ite_f c3 hf
    refine lv_iload_n (pc := 7) hx hb dX4_read_7 rfl (lv_at hl 2 rfl) ?_
    refine lv_iconst (pc := 8) (v := 0) hx hb dX4_read_8 (by decide) ?_
    refine lv_iconst (pc := 9) (v := 2) hx hb dX4_read_9 (by decide) ?_
    obtain ⟨r4, g5, hf⟩ := cl1_adv hf
    refine x_callSi (pc := 10) (rest := []) C hX (kX4_within ad l D cI cB cZ cG cS r4 p2 (0 : Int32) (2 : Int32) g5) (va_cwS 3 C.1.2.2.2.2 gX4_read_X4_within rfl rfl rfl (by decide +kernel) ⟨Nat.le_of_ble_eq_true rfl, Nat.le_of_ble_eq_true rfl⟩) hl.1 rfl rfl (Nat.le_of_ble_eq_true rfl) dX4_read_10 (fun H locs hX => ?_)
    refine lv_if_eq (pc := 13) (tgt := 27) hx hb dX4_read_13 (by decide) (fun c6 => ?_) (fun c6 => ?_)
    · replace hf := ite_t c6 hf
      refine lv_iconst (pc := 27) (v := -1) hx hb dX4_read_27 (by decide) ?_
      obtain ⟨rfl, rfl, rfl, rfl⟩ := re4 hf
      exact hret _ _ _ _ _ rfl rfl hX dX4_read_28
    · replace hf := ite_f c6 hf
      refine lv_iload (pc := 16) hx hb dX4_read_16 (lv_at hl 4 rfl) ?_
      refine lv_iconst (pc := 18) (v := 0) hx hb dX4_read_18 (by decide) ?_
      refine lv_bipush (pc := 19) (v := 40) hx hb dX4_read_19 (by decide) ?_
      obtain ⟨r7, g8, hf⟩ := cl1_adv hf
      refine x_callSi (pc := 21) (rest := []) C hX (kX4_within ad l D cI cB cZ cG cS r7 p4 (0 : Int32) (40 : Int32) g8) (va_cwS 3 C.1.2.2.2.2 gX4_read_X4_within rfl rfl rfl (by decide +kernel) ⟨Nat.le_of_ble_eq_true rfl, Nat.le_of_ble_eq_true rfl⟩) hl.1 rfl rfl (Nat.le_of_ble_eq_true rfl) dX4_read_21 (fun H locs hX => ?_)
      refine lv_if_ne (pc := 24) (tgt := 29) hx hb dX4_read_24 (by decide) (fun c9 => ?_) (fun c9 => ?_)
      · replace hf := ite_f c9 hf
        refine lv_aload_n (pc := 29) hx hb dX4_read_29 rfl (lv_at hl 0 rfl) ?_
        refine x_getf (pc := 30) (Cn := RX4) (T := TX4) (N := 9) C hX 0 rfl rfl miX4_read_X4 6 (by decide) mmX4_read_1 rfl dX4_read_30 ?_
        refine lv_iload_n (pc := 33) hx hb dX4_read_33 rfl (lv_at hl 1 rfl) ?_
        replace hf := chk_adv hf
        have i10 := hf.1
        replace hf := hf.2
        rcases Decidable.em (p1 = 0) with c11 | c11
        · replace hf := ite_t c11 hf
          refine x_aald (pc := 34) (v := .ref h_sh0) C hX 1 4 rfl rfl i10 (by rw [c11]; rfl) dX4_read_34 ?_
          refine lv_astore (pc := 35) (lv' := [(5, .ref h_sh0), (0, .ref h0), (1, .int p1), (2, .int p2), (3, .int p3), (4, .int p4)]) hx hb dX4_read_35 hl (by decide) rfl (fun ls hl => ?_)
          refine lv_aload_n (pc := 37) hx hb dX4_read_37 rfl (lv_at hl 1 rfl) ?_
          refine x_getf (pc := 38) (Cn := RX4) (T := TX4) (N := 9) C hX 0 rfl rfl miX4_read_X4 0 (by decide) mmX4_read_2 rfl dX4_read_38 ?_
          refine x_getf (pc := 41) (Cn := RX0) (T := TX0) (N := 12) C hX 2 rfl rfl miX4_read_X0 7 (by decide) mmX4_read_3 rfl dX4_read_41 ?_
          refine lv_istore (pc := 44) (lv' := [(6, .int now_strokes), (5, .ref h_sh0), (0, .ref h0), (1, .int p1), (2, .int p2), (3, .int p3), (4, .int p4)]) hx hb dX4_read_44 hl (by decide) rfl (fun ls hl => ?_)
          refine lv_iconst (pc := 46) (v := 0) hx hb dX4_read_46 (by decide) ?_
          refine lv_istore (pc := 47) (lv' := [(7, .int (0 : Int32)), (6, .int now_strokes), (5, .ref h_sh0), (0, .ref h0), (1, .int p1), (2, .int p2), (3, .int p3), (4, .int p4)]) hx hb dX4_read_47 hl (by decide) rfl (fun ls hl => ?_)
          refine lv_iconst (pc := 49) (v := 0) hx hb dX4_read_49 (by decide) ?_
          refine lv_istore (pc := 50) (lv' := [(8, .int (0 : Int32)), (7, .int (0 : Int32)), (6, .int now_strokes), (5, .ref h_sh0), (0, .ref h0), (1, .int p1), (2, .int p2), (3, .int p3), (4, .int p4)]) hx hb dX4_read_50 hl (by decide) rfl (fun ls hl => ?_)
          exact L52  xF p2 p3 p4 now_strokes (0 : Int32) (0 : Int32) tornFault now_strokes now_strokeRow _ _ _ hf hX (lv_sub hl [4, 6, 7, 8, 3, 2, 1, 0] rfl)
        · replace hf := ite_f c11 hf
          rcases Decidable.em (p1 = 1) with c28 | c28
          · replace hf := ite_t c28 hf
            refine x_aald (pc := 34) (v := .ref h_sh1) C hX 1 4 rfl rfl i10 (by rw [c28]; rfl) dX4_read_34 ?_
            refine lv_astore (pc := 35) (lv' := [(5, .ref h_sh1), (0, .ref h0), (1, .int p1), (2, .int p2), (3, .int p3), (4, .int p4)]) hx hb dX4_read_35 hl (by decide) rfl (fun ls hl => ?_)
            refine lv_aload_n (pc := 37) hx hb dX4_read_37 rfl (lv_at hl 1 rfl) ?_
            refine x_getf (pc := 38) (Cn := RX4) (T := TX4) (N := 9) C hX 0 rfl rfl miX4_read_X4 0 (by decide) mmX4_read_2 rfl dX4_read_38 ?_
            refine x_getf (pc := 41) (Cn := RX0) (T := TX0) (N := 12) C hX 2 rfl rfl miX4_read_X0 7 (by decide) mmX4_read_3 rfl dX4_read_41 ?_
            refine lv_istore (pc := 44) (lv' := [(6, .int now_strokes), (5, .ref h_sh1), (0, .ref h0), (1, .int p1), (2, .int p2), (3, .int p3), (4, .int p4)]) hx hb dX4_read_44 hl (by decide) rfl (fun ls hl => ?_)
            refine lv_iconst (pc := 46) (v := 0) hx hb dX4_read_46 (by decide) ?_
            refine lv_istore (pc := 47) (lv' := [(7, .int (0 : Int32)), (6, .int now_strokes), (5, .ref h_sh1), (0, .ref h0), (1, .int p1), (2, .int p2), (3, .int p3), (4, .int p4)]) hx hb dX4_read_47 hl (by decide) rfl (fun ls hl => ?_)
            refine lv_iconst (pc := 49) (v := 0) hx hb dX4_read_49 (by decide) ?_
            refine lv_istore (pc := 50) (lv' := [(8, .int (0 : Int32)), (7, .int (0 : Int32)), (6, .int now_strokes), (5, .ref h_sh1), (0, .ref h0), (1, .int p1), (2, .int p2), (3, .int p3), (4, .int p4)]) hx hb dX4_read_50 hl (by decide) rfl (fun ls hl => ?_)
            exact L52a  xF p2 p3 p4 now_strokes (0 : Int32) (0 : Int32) tornFault now_strokes now_strokeRow _ _ _ hf hX (lv_sub hl [4, 6, 7, 8, 3, 2, 1, 0] rfl)
          · replace hf := ite_f c28 hf
            rcases Decidable.em (p1 = 2) with c45 | c45
            · replace hf := ite_t c45 hf
              refine x_aald (pc := 34) (v := .ref h_sh2) C hX 1 4 rfl rfl i10 (by rw [c45]; rfl) dX4_read_34 ?_
              refine lv_astore (pc := 35) (lv' := [(5, .ref h_sh2), (0, .ref h0), (1, .int p1), (2, .int p2), (3, .int p3), (4, .int p4)]) hx hb dX4_read_35 hl (by decide) rfl (fun ls hl => ?_)
              refine lv_aload_n (pc := 37) hx hb dX4_read_37 rfl (lv_at hl 1 rfl) ?_
              refine x_getf (pc := 38) (Cn := RX4) (T := TX4) (N := 9) C hX 0 rfl rfl miX4_read_X4 0 (by decide) mmX4_read_2 rfl dX4_read_38 ?_
              refine x_getf (pc := 41) (Cn := RX0) (T := TX0) (N := 12) C hX 2 rfl rfl miX4_read_X0 7 (by decide) mmX4_read_3 rfl dX4_read_41 ?_
              refine lv_istore (pc := 44) (lv' := [(6, .int now_strokes), (5, .ref h_sh2), (0, .ref h0), (1, .int p1), (2, .int p2), (3, .int p3), (4, .int p4)]) hx hb dX4_read_44 hl (by decide) rfl (fun ls hl => ?_)
              refine lv_iconst (pc := 46) (v := 0) hx hb dX4_read_46 (by decide) ?_
              refine lv_istore (pc := 47) (lv' := [(7, .int (0 : Int32)), (6, .int now_strokes), (5, .ref h_sh2), (0, .ref h0), (1, .int p1), (2, .int p2), (3, .int p3), (4, .int p4)]) hx hb dX4_read_47 hl (by decide) rfl (fun ls hl => ?_)
              refine lv_iconst (pc := 49) (v := 0) hx hb dX4_read_49 (by decide) ?_
              refine lv_istore (pc := 50) (lv' := [(8, .int (0 : Int32)), (7, .int (0 : Int32)), (6, .int now_strokes), (5, .ref h_sh2), (0, .ref h0), (1, .int p1), (2, .int p2), (3, .int p3), (4, .int p4)]) hx hb dX4_read_50 hl (by decide) rfl (fun ls hl => ?_)
              exact L52b  xF p2 p3 p4 now_strokes (0 : Int32) (0 : Int32) tornFault now_strokes now_strokeRow _ _ _ hf hX (lv_sub hl [4, 6, 7, 8, 3, 2, 1, 0] rfl)
            · replace hf := ite_f c45 hf
              rcases Decidable.em (p1 = 3) with c62 | c62
              · replace hf := ite_t c62 hf
                refine x_aald (pc := 34) (v := .ref h_sh3) C hX 1 4 rfl rfl i10 (by rw [c62]; rfl) dX4_read_34 ?_
                refine lv_astore (pc := 35) (lv' := [(5, .ref h_sh3), (0, .ref h0), (1, .int p1), (2, .int p2), (3, .int p3), (4, .int p4)]) hx hb dX4_read_35 hl (by decide) rfl (fun ls hl => ?_)
                refine lv_aload_n (pc := 37) hx hb dX4_read_37 rfl (lv_at hl 1 rfl) ?_
                refine x_getf (pc := 38) (Cn := RX4) (T := TX4) (N := 9) C hX 0 rfl rfl miX4_read_X4 0 (by decide) mmX4_read_2 rfl dX4_read_38 ?_
                refine x_getf (pc := 41) (Cn := RX0) (T := TX0) (N := 12) C hX 2 rfl rfl miX4_read_X0 7 (by decide) mmX4_read_3 rfl dX4_read_41 ?_
                refine lv_istore (pc := 44) (lv' := [(6, .int now_strokes), (5, .ref h_sh3), (0, .ref h0), (1, .int p1), (2, .int p2), (3, .int p3), (4, .int p4)]) hx hb dX4_read_44 hl (by decide) rfl (fun ls hl => ?_)
                refine lv_iconst (pc := 46) (v := 0) hx hb dX4_read_46 (by decide) ?_
                refine lv_istore (pc := 47) (lv' := [(7, .int (0 : Int32)), (6, .int now_strokes), (5, .ref h_sh3), (0, .ref h0), (1, .int p1), (2, .int p2), (3, .int p3), (4, .int p4)]) hx hb dX4_read_47 hl (by decide) rfl (fun ls hl => ?_)
                refine lv_iconst (pc := 49) (v := 0) hx hb dX4_read_49 (by decide) ?_
                refine lv_istore (pc := 50) (lv' := [(8, .int (0 : Int32)), (7, .int (0 : Int32)), (6, .int now_strokes), (5, .ref h_sh3), (0, .ref h0), (1, .int p1), (2, .int p2), (3, .int p3), (4, .int p4)]) hx hb dX4_read_50 hl (by decide) rfl (fun ls hl => ?_)
                exact L52c  xF p2 p3 p4 now_strokes (0 : Int32) (0 : Int32) tornFault now_strokes now_strokeRow _ _ _ hf hX (lv_sub hl [4, 6, 7, 8, 3, 2, 1, 0] rfl)
              · replace hf := ite_f c62 hf
                cases hf
      · replace hf := ite_t c9 hf
        refine lv_iconst (pc := 27) (v := -1) hx hb dX4_read_27 (by decide) ?_
        obtain ⟨rfl, rfl, rfl, rfl⟩ := re4 hf
        exact hret _ _ _ _ _ rfl rfl hX dX4_read_28
theorem mmX4_torn_1 : Cond.fieldLink RX4 51 "SlackArms" "tornFault" "I" ∈ wsX4_torn := List.mem_of_getElem? (i := 1) rfl
theorem miX4_torn_X4 : ∀ w ∈ u_ws RX4 TX4 9, w ∈ wsX4_torn := fun w h => List.mem_cons_of_mem _ (List.mem_append_right _ h)
set_option maxHeartbeats 4000000 in
set_option maxRecDepth 100000 in
theorem kX4_torn (ad : xAd) (l : Launch) (D : va_G) (cI cB cZ cG cS : ClassId) (h0 h_now h_trial h_images h_kept h_tape h_sights h_sheets h_looks : Nat) (tornFault : Int32) (r0 : Int32)  (hf : fX4_torn  tornFault = some r0) : xMi ad l yX4_torn wsX4_torn ({ frames := 0, cells := 0, slots := 0, locals := 0 } : Room) D (xTY cI cB cZ cG cS) [.ref h0] [(h0, .inr (4, [.ref h_now, .ref h_trial, .ref h_images, .ref h_kept, .ref h_tape, .ref h_sights, .ref h_sheets, .ref h_looks, .int tornFault]))] [(h0, .inr (4, [.ref h_now, .ref h_trial, .ref h_images, .ref h_kept, .ref h_tape, .ref h_sights, .ref h_sheets, .ref h_looks, .int tornFault]))] r0 := by
  refine xMi_of (cc := cX4_torn) (maxL := 1) (ty := .int) (by decide) rfl (Nat.le_of_ble_eq_true rfl) ?_
  intro p e s m args below meth c A Q ls C hX hl hret
  have hx := C.1.1
  have hb := C.1.2.1
  have hl : lv_has ls 1 [(0, .ref h0)] := hl
  unfold fX4_torn at hf
  refine lv_aload_n (pc := 0) hx hb dX4_torn_0 rfl (lv_at hl 0 rfl) ?_
  refine x_getf (pc := 1) (Cn := RX4) (T := TX4) (N := 9) C hX 0 rfl rfl miX4_torn_X4 8 (by decide) mmX4_torn_1 rfl dX4_torn_1 ?_
  obtain ⟨rfl⟩ := re1 hf
  exact hret _ _ _ _ _ rfl rfl hX dX4_torn_4
theorem mmX4_count_1 : Cond.fieldLink RX4 37 "SlackArms" "sights" "LSlackArms$Sights;" ∈ wsX4_count := List.mem_of_getElem? (i := 1) rfl
theorem miX4_count_X4 : ∀ w ∈ u_ws RX4 TX4 9, w ∈ wsX4_count := fun w h => List.mem_cons_of_mem _ (List.mem_append_left _ (List.mem_append_left _ (List.mem_append_left _ (List.mem_append_left _ (List.mem_append_right _ h)))))
theorem mmX4_count_2 : Cond.fieldLink RX4 81 "SlackArms$Sights" "size" "I" ∈ wsX4_count := List.mem_of_getElem? (i := 2) rfl
theorem miX4_count_X2 : ∀ w ∈ u_ws RX2 TX2 4, w ∈ wsX4_count := fun w h => List.mem_cons_of_mem _ (List.mem_append_left _ (List.mem_append_left _ (List.mem_append_left _ (List.mem_append_right _ h))))
theorem mmX4_count_3 : Cond.fieldLink RX4 23 "SlackArms" "kept" "[Z" ∈ wsX4_count := List.mem_of_getElem? (i := 3) rfl
theorem mmX4_count_4 : Cond.fieldLink RX4 30 "SlackArms" "tape" "LSlackArms$Tape;" ∈ wsX4_count := List.mem_of_getElem? (i := 4) rfl
theorem mmX4_count_5 : Cond.fieldLink RX4 64 "SlackArms$Tape" "length" "I" ∈ wsX4_count := List.mem_of_getElem? (i := 5) rfl
theorem miX4_count_X3 : ∀ w ∈ u_ws RX3 TX3 7, w ∈ wsX4_count := fun w h => List.mem_cons_of_mem _ (List.mem_append_left _ (List.mem_append_left _ (List.mem_append_right _ h)))
theorem mmX4_count_6 : Cond.fieldLink RX4 43 "SlackArms" "sheets" "[LSlackArms$Sheet;" ∈ wsX4_count := List.mem_of_getElem? (i := 6) rfl
theorem mmX4_count_7 : Cond.fieldLink RX4 260 "SlackArms$Sheet" "size" "I" ∈ wsX4_count := List.mem_of_getElem? (i := 7) rfl
theorem miX4_count_X1 : ∀ w ∈ u_ws RX1 TX1 3, w ∈ wsX4_count := fun w h => List.mem_cons_of_mem _ (List.mem_append_left _ (List.mem_append_right _ h))
theorem mmX4_count_8 : Cond.fieldLink RX4 10 "SlackArms" "now" "LSlackArms$Gear;" ∈ wsX4_count := List.mem_of_getElem? (i := 8) rfl
set_option maxHeartbeats 4000000 in
set_option maxRecDepth 100000 in
theorem kX4_count (ad : xAd) (l : Launch) (D : va_G) (cI cB cZ cG cS : ClassId) (h0 h_now h_trial h_images h_kept h_tape h_sights h_sheets h_looks h_now_kindRow h_now_slackRow h_now_placeRow h_now_turnRow h_now_wayRow h_now_strokeRow h_tape_bytes h_sights_stepRow h_sights_armRow h_sights_placeRow h_sh0 h_sh0_cells h_sh1 h_sh1_cells h_sh2 h_sh2_cells h_sh3 h_sh3_cells : Nat) (tornFault : Int32) (kept : (Nat → Int32)) (now_arms : Int32) (now_strokes : Int32) (now_hand : Int32) (now_step : Int32) (now_travel : Int32) (now_reversals : Int32) (now_kindRow : (Nat → Int32)) (now_slackRow : (Nat → Int32)) (now_placeRow : (Nat → Int32)) (now_turnRow : (Nat → Int32)) (now_wayRow : (Nat → Int32)) (now_strokeRow : (Nat → Int32)) (tape_length : Int32) (tape_fault : Int32) (tape_faultPlace : Int32) (tape_token : Int32) (tape_tokenStart : Int32) (tape_tokenEnd : Int32) (tape_bytes : (Nat → Int32)) (sights_size : Int32) (sights_stepRow : (Nat → Int32)) (sights_armRow : (Nat → Int32)) (sights_placeRow : (Nat → Int32)) (sh0_lane : Int32) (sh0_size : Int32) (sh0_cells : (Nat → Int32)) (sh1_lane : Int32) (sh1_size : Int32) (sh1_cells : (Nat → Int32)) (sh2_lane : Int32) (sh2_size : Int32) (sh2_cells : (Nat → Int32)) (sh3_lane : Int32) (sh3_size : Int32) (sh3_cells : (Nat → Int32)) (r0 : Int32) (p1 : Int32) (hf : fX4_count p1 kept now_arms now_kindRow now_slackRow now_turnRow tape_length sights_size sh0_size sh1_size sh2_size sh3_size = some r0) : xMi ad l yX4_count wsX4_count ({ frames := 2, cells := 0, slots := 0, locals := 45 } : Room) D (xTY cI cB cZ cG cS) [.ref h0, .int p1] [(h0, .inr (4, [.ref h_now, .ref h_trial, .ref h_images, .ref h_kept, .ref h_tape, .ref h_sights, .ref h_sheets, .ref h_looks, .int tornFault])), (h_kept, .inl (cZ, 2, .inl kept)), (h_sheets, .inl (cS, 4, .inr (.inr (.inr (.inr (xr4 h_sh0 h_sh1 h_sh2 h_sh3)))))), (h_now, .inr (0, [.ref h_now_kindRow, .ref h_now_slackRow, .ref h_now_placeRow, .ref h_now_turnRow, .ref h_now_wayRow, .ref h_now_strokeRow, .int now_arms, .int now_strokes, .int now_hand, .int now_step, .int now_travel, .int now_reversals])), (h_now_kindRow, .inl (cI, 4, .inl now_kindRow)), (h_now_slackRow, .inl (cI, 4, .inl now_slackRow)), (h_now_placeRow, .inl (cI, 4, .inl now_placeRow)), (h_now_turnRow, .inl (cI, 4, .inl now_turnRow)), (h_now_wayRow, .inl (cI, 4, .inl now_wayRow)), (h_now_strokeRow, .inl (cI, 16, .inl now_strokeRow)), (h_tape, .inr (3, [.ref h_tape_bytes, .int tape_length, .int tape_fault, .int tape_faultPlace, .int tape_token, .int tape_tokenStart, .int tape_tokenEnd])), (h_tape_bytes, .inl (cB, 160, .inl tape_bytes)), (h_sights, .inr (2, [.ref h_sights_stepRow, .ref h_sights_armRow, .ref h_sights_placeRow, .int sights_size])), (h_sights_stepRow, .inl (cI, 6, .inl sights_stepRow)), (h_sights_armRow, .inl (cI, 6, .inl sights_armRow)), (h_sights_placeRow, .inl (cI, 6, .inl sights_placeRow)), (h_sh0, .inr (1, [.ref h_sh0_cells, .int sh0_lane, .int sh0_size])), (h_sh0_cells, .inl (cI, 40, .inl sh0_cells)), (h_sh1, .inr (1, [.ref h_sh1_cells, .int sh1_lane, .int sh1_size])), (h_sh1_cells, .inl (cI, 40, .inl sh1_cells)), (h_sh2, .inr (1, [.ref h_sh2_cells, .int sh2_lane, .int sh2_size])), (h_sh2_cells, .inl (cI, 40, .inl sh2_cells)), (h_sh3, .inr (1, [.ref h_sh3_cells, .int sh3_lane, .int sh3_size])), (h_sh3_cells, .inl (cI, 40, .inl sh3_cells))] [(h0, .inr (4, [.ref h_now, .ref h_trial, .ref h_images, .ref h_kept, .ref h_tape, .ref h_sights, .ref h_sheets, .ref h_looks, .int tornFault])), (h_kept, .inl (cZ, 2, .inl kept)), (h_sheets, .inl (cS, 4, .inr (.inr (.inr (.inr (xr4 h_sh0 h_sh1 h_sh2 h_sh3)))))), (h_now, .inr (0, [.ref h_now_kindRow, .ref h_now_slackRow, .ref h_now_placeRow, .ref h_now_turnRow, .ref h_now_wayRow, .ref h_now_strokeRow, .int now_arms, .int now_strokes, .int now_hand, .int now_step, .int now_travel, .int now_reversals])), (h_now_kindRow, .inl (cI, 4, .inl now_kindRow)), (h_now_slackRow, .inl (cI, 4, .inl now_slackRow)), (h_now_placeRow, .inl (cI, 4, .inl now_placeRow)), (h_now_turnRow, .inl (cI, 4, .inl now_turnRow)), (h_now_wayRow, .inl (cI, 4, .inl now_wayRow)), (h_now_strokeRow, .inl (cI, 16, .inl now_strokeRow)), (h_tape, .inr (3, [.ref h_tape_bytes, .int tape_length, .int tape_fault, .int tape_faultPlace, .int tape_token, .int tape_tokenStart, .int tape_tokenEnd])), (h_tape_bytes, .inl (cB, 160, .inl tape_bytes)), (h_sights, .inr (2, [.ref h_sights_stepRow, .ref h_sights_armRow, .ref h_sights_placeRow, .int sights_size])), (h_sights_stepRow, .inl (cI, 6, .inl sights_stepRow)), (h_sights_armRow, .inl (cI, 6, .inl sights_armRow)), (h_sights_placeRow, .inl (cI, 6, .inl sights_placeRow)), (h_sh0, .inr (1, [.ref h_sh0_cells, .int sh0_lane, .int sh0_size])), (h_sh0_cells, .inl (cI, 40, .inl sh0_cells)), (h_sh1, .inr (1, [.ref h_sh1_cells, .int sh1_lane, .int sh1_size])), (h_sh1_cells, .inl (cI, 40, .inl sh1_cells)), (h_sh2, .inr (1, [.ref h_sh2_cells, .int sh2_lane, .int sh2_size])), (h_sh2_cells, .inl (cI, 40, .inl sh2_cells)), (h_sh3, .inr (1, [.ref h_sh3_cells, .int sh3_lane, .int sh3_size])), (h_sh3_cells, .inl (cI, 40, .inl sh3_cells))] r0 := by
  refine xMi_of (cc := cX4_count) (maxL := 2) (ty := .int) (by decide) rfl (Nat.le_of_ble_eq_true rfl) ?_
  intro p e s m args below meth c A Q ls C hX hl hret
  have hx := C.1.1
  have hb := C.1.2.1
  have hl : lv_has ls 2 [(0, .ref h0), (1, .int p1)] := hl
  have L62 : ∀ (y0 : Int32) (H : Heap) (locs : List Loc) (ls : Array Slot), fX4_count_L62 kept now_arms now_kindRow now_slackRow now_turnRow tape_length sights_size sh0_size sh1_size sh2_size sh3_size y0 = some r0 → xSt A s D [(h0, .inr (4, [.ref h_now, .ref h_trial, .ref h_images, .ref h_kept, .ref h_tape, .ref h_sights, .ref h_sheets, .ref h_looks, .int tornFault])), (h_kept, .inl (cZ, 2, .inl kept)), (h_sheets, .inl (cS, 4, .inr (.inr (.inr (.inr (xr4 h_sh0 h_sh1 h_sh2 h_sh3)))))), (h_now, .inr (0, [.ref h_now_kindRow, .ref h_now_slackRow, .ref h_now_placeRow, .ref h_now_turnRow, .ref h_now_wayRow, .ref h_now_strokeRow, .int now_arms, .int now_strokes, .int now_hand, .int now_step, .int now_travel, .int now_reversals])), (h_now_kindRow, .inl (cI, 4, .inl now_kindRow)), (h_now_slackRow, .inl (cI, 4, .inl now_slackRow)), (h_now_placeRow, .inl (cI, 4, .inl now_placeRow)), (h_now_turnRow, .inl (cI, 4, .inl now_turnRow)), (h_now_wayRow, .inl (cI, 4, .inl now_wayRow)), (h_now_strokeRow, .inl (cI, 16, .inl now_strokeRow)), (h_tape, .inr (3, [.ref h_tape_bytes, .int tape_length, .int tape_fault, .int tape_faultPlace, .int tape_token, .int tape_tokenStart, .int tape_tokenEnd])), (h_tape_bytes, .inl (cB, 160, .inl tape_bytes)), (h_sights, .inr (2, [.ref h_sights_stepRow, .ref h_sights_armRow, .ref h_sights_placeRow, .int sights_size])), (h_sights_stepRow, .inl (cI, 6, .inl sights_stepRow)), (h_sights_armRow, .inl (cI, 6, .inl sights_armRow)), (h_sights_placeRow, .inl (cI, 6, .inl sights_placeRow)), (h_sh0, .inr (1, [.ref h_sh0_cells, .int sh0_lane, .int sh0_size])), (h_sh0_cells, .inl (cI, 40, .inl sh0_cells)), (h_sh1, .inr (1, [.ref h_sh1_cells, .int sh1_lane, .int sh1_size])), (h_sh1_cells, .inl (cI, 40, .inl sh1_cells)), (h_sh2, .inr (1, [.ref h_sh2_cells, .int sh2_lane, .int sh2_size])), (h_sh2_cells, .inl (cI, 40, .inl sh2_cells)), (h_sh3, .inr (1, [.ref h_sh3_cells, .int sh3_lane, .int sh3_size])), (h_sh3_cells, .inl (cI, 40, .inl sh3_cells))] H locs → lv_has ls 2 [(0, .ref h0)] → W p l e ({ frames := 2, cells := 0, slots := 0, locals := 45 } : Room) s m args below meth c H locs 0 0 Q (F0 m 62 ls [.int y0]) := by
    intro  y0 H locs ls hf hX hl
    unfold fX4_count_L62 at hf
    refine lv_aload_n (pc := 62) hx hb dX4_count_62 rfl (lv_at hl 0 rfl) ?_
    refine x_getf (pc := 63) (Cn := RX4) (T := TX4) (N := 9) C hX 0 rfl rfl miX4_count_X4 3 (by decide) mmX4_count_3 rfl dX4_count_63 ?_
    refine lv_iconst (pc := 66) (v := 1) hx hb dX4_count_66 (by decide) ?_
    replace hf := chk_adv hf
    have i5 := hf.1
    replace hf := hf.2
    refine x_zald (pc := 67) C hX 1 2 rfl rfl i5 dX4_count_67 ?_
    refine lv_if_eq (pc := 68) (tgt := 75) hx hb dX4_count_68 (by decide) (fun c6 => ?_) (fun c6 => ?_)
    · replace hf := ite_t c6 hf
      refine lv_iconst (pc := 75) (v := 0) hx hb dX4_count_75 (by decide) ?_
      refine lv_iadd (pc := 76) hx hb dX4_count_76 ?_
      obtain ⟨rfl⟩ := re1 hf
      exact hret _ _ _ _ _ rfl rfl hX dX4_count_77
    · replace hf := ite_f c6 hf
      refine lv_iconst (pc := 71) (v := 1) hx hb dX4_count_71 (by decide) ?_
      refine lv_goto (pc := 72) (tgt := 76) hx hb dX4_count_72 (by decide) ?_
      refine lv_iadd (pc := 76) hx hb dX4_count_76 ?_
      obtain ⟨rfl⟩ := re1 hf
      exact hret _ _ _ _ _ rfl rfl hX dX4_count_77
  unfold fX4_count at hf
  refine lv_iload_n (pc := 0) hx hb dX4_count_0 rfl (lv_at hl 1 rfl) ?_
  rcases Decidable.em (p1 = 0) with c1 | c1
  · replace hf := ite_t c1 hf
    refine lv_tableIn (pc := 1) (off := 39) (tgt := 40) hx hb dX4_count_1 (by rw [c1]; decide) (by rw [c1]; decide) (by rw [c1]; decide) (by decide) ?_
    refine lv_aload_n (pc := 40) hx hb dX4_count_40 rfl (lv_at hl 0 rfl) ?_
    refine x_getf (pc := 41) (Cn := RX4) (T := TX4) (N := 9) C hX 0 rfl rfl miX4_count_X4 5 (by decide) mmX4_count_1 rfl dX4_count_41 ?_
    refine x_getf (pc := 44) (Cn := RX2) (T := TX2) (N := 4) C hX 12 rfl rfl miX4_count_X2 3 (by decide) mmX4_count_2 rfl dX4_count_44 ?_
    obtain ⟨rfl⟩ := re1 hf
    exact hret _ _ _ _ _ rfl rfl hX dX4_count_47
  · replace hf := ite_f c1 hf
    rcases Decidable.em (p1 = 1) with c2 | c2
    · replace hf := ite_t c2 hf
      refine lv_tableIn (pc := 1) (off := 47) (tgt := 48) hx hb dX4_count_1 (by rw [c2]; decide) (by rw [c2]; decide) (by rw [c2]; decide) (by decide) ?_
      refine lv_aload_n (pc := 48) hx hb dX4_count_48 rfl (lv_at hl 0 rfl) ?_
      refine x_getf (pc := 49) (Cn := RX4) (T := TX4) (N := 9) C hX 0 rfl rfl miX4_count_X4 3 (by decide) mmX4_count_3 rfl dX4_count_49 ?_
      refine lv_iconst (pc := 52) (v := 0) hx hb dX4_count_52 (by decide) ?_
      replace hf := chk_adv hf
      have i3 := hf.1
      replace hf := hf.2
      refine x_zald (pc := 53) C hX 1 2 rfl rfl i3 dX4_count_53 ?_
      refine lv_if_eq (pc := 54) (tgt := 61) hx hb dX4_count_54 (by decide) (fun c4 => ?_) (fun c4 => ?_)
      · replace hf := ite_t c4 hf
        refine lv_iconst (pc := 61) (v := 0) hx hb dX4_count_61 (by decide) ?_
        exact L62  (0 : Int32) _ _ _ hf hX (lv_sub hl [0] rfl)
      · replace hf := ite_f c4 hf
        refine lv_iconst (pc := 57) (v := 1) hx hb dX4_count_57 (by decide) ?_
        refine lv_goto (pc := 58) (tgt := 62) hx hb dX4_count_58 (by decide) ?_
        exact L62  (1 : Int32) _ _ _ hf hX (lv_sub hl [0] rfl)
    · replace hf := ite_f c2 hf
      rcases Decidable.em (p1 = 2) with c7 | c7
      · replace hf := ite_t c7 hf
        refine lv_tableIn (pc := 1) (off := 77) (tgt := 78) hx hb dX4_count_1 (by rw [c7]; decide) (by rw [c7]; decide) (by rw [c7]; decide) (by decide) ?_
        refine lv_aload_n (pc := 78) hx hb dX4_count_78 rfl (lv_at hl 0 rfl) ?_
        refine x_getf (pc := 79) (Cn := RX4) (T := TX4) (N := 9) C hX 0 rfl rfl miX4_count_X4 4 (by decide) mmX4_count_4 rfl dX4_count_79 ?_
        refine x_getf (pc := 82) (Cn := RX3) (T := TX3) (N := 7) C hX 10 rfl rfl miX4_count_X3 1 (by decide) mmX4_count_5 rfl dX4_count_82 ?_
        obtain ⟨rfl⟩ := re1 hf
        exact hret _ _ _ _ _ rfl rfl hX dX4_count_85
      · replace hf := ite_f c7 hf
        rcases Decidable.em (p1 = 3) with c8 | c8
        · replace hf := ite_t c8 hf
          refine lv_tableIn (pc := 1) (off := 85) (tgt := 86) hx hb dX4_count_1 (by rw [c8]; decide) (by rw [c8]; decide) (by rw [c8]; decide) (by decide) ?_
          refine lv_aload_n (pc := 86) hx hb dX4_count_86 rfl (lv_at hl 0 rfl) ?_
          refine x_getf (pc := 87) (Cn := RX4) (T := TX4) (N := 9) C hX 0 rfl rfl miX4_count_X4 6 (by decide) mmX4_count_6 rfl dX4_count_87 ?_
          refine lv_iconst (pc := 90) (v := 0) hx hb dX4_count_90 (by decide) ?_
          replace hf := chk_adv hf
          have i9 := hf.1
          replace hf := hf.2
          rcases Decidable.em ((0 : Int32) = 0) with c10 | c10
          · replace hf := ite_t c10 hf
            refine x_aald (pc := 91) (v := .ref h_sh0) C hX 2 4 rfl rfl i9 (by rw [c10]; rfl) dX4_count_91 ?_
            refine x_getf (pc := 92) (Cn := RX1) (T := TX1) (N := 3) C hX 16 rfl rfl miX4_count_X1 2 (by decide) mmX4_count_7 rfl dX4_count_92 ?_
            refine lv_iconst (pc := 95) (v := -1) hx hb dX4_count_95 (by decide) ?_
            refine lv_icmp_ne (pc := 96) (tgt := 104) hx hb dX4_count_96 (by decide) (fun c11 => ?_) (fun c11 => ?_)
            · replace hf := ite_f c11 hf
              refine lv_aload_n (pc := 104) hx hb dX4_count_104 rfl (lv_at hl 0 rfl) ?_
              refine x_getf (pc := 105) (Cn := RX4) (T := TX4) (N := 9) C hX 0 rfl rfl miX4_count_X4 6 (by decide) mmX4_count_6 rfl dX4_count_105 ?_
              refine lv_iconst (pc := 108) (v := 0) hx hb dX4_count_108 (by decide) ?_
              replace hf := chk_adv hf
              have i12 := hf.1
              replace hf := hf.2
              rcases Decidable.em ((0 : Int32) = 0) with c13 | c13
              · replace hf := ite_t c13 hf
                refine x_aald (pc := 109) (v := .ref h_sh0) C hX 2 4 rfl rfl i12 (by rw [c13]; rfl) dX4_count_109 ?_
                refine x_getf (pc := 110) (Cn := RX1) (T := TX1) (N := 3) C hX 16 rfl rfl miX4_count_X1 2 (by decide) mmX4_count_7 rfl dX4_count_110 ?_
                obtain ⟨rfl⟩ := re1 hf
                exact hret _ _ _ _ _ rfl rfl hX dX4_count_113
              · replace hf := ite_f c13 hf
                rcases Decidable.em ((0 : Int32) = 1) with c14 | c14
                · replace hf := ite_t c14 hf
                  refine x_aald (pc := 109) (v := .ref h_sh1) C hX 2 4 rfl rfl i12 (by rw [c14]; rfl) dX4_count_109 ?_
                  refine x_getf (pc := 110) (Cn := RX1) (T := TX1) (N := 3) C hX 18 rfl rfl miX4_count_X1 2 (by decide) mmX4_count_7 rfl dX4_count_110 ?_
                  obtain ⟨rfl⟩ := re1 hf
                  exact hret _ _ _ _ _ rfl rfl hX dX4_count_113
                · replace hf := ite_f c14 hf
                  rcases Decidable.em ((0 : Int32) = 2) with c15 | c15
                  · replace hf := ite_t c15 hf
                    refine x_aald (pc := 109) (v := .ref h_sh2) C hX 2 4 rfl rfl i12 (by rw [c15]; rfl) dX4_count_109 ?_
                    refine x_getf (pc := 110) (Cn := RX1) (T := TX1) (N := 3) C hX 20 rfl rfl miX4_count_X1 2 (by decide) mmX4_count_7 rfl dX4_count_110 ?_
                    obtain ⟨rfl⟩ := re1 hf
                    exact hret _ _ _ _ _ rfl rfl hX dX4_count_113
                  · replace hf := ite_f c15 hf
                    rcases Decidable.em ((0 : Int32) = 3) with c16 | c16
                    · replace hf := ite_t c16 hf
                      refine x_aald (pc := 109) (v := .ref h_sh3) C hX 2 4 rfl rfl i12 (by rw [c16]; rfl) dX4_count_109 ?_
                      refine x_getf (pc := 110) (Cn := RX1) (T := TX1) (N := 3) C hX 22 rfl rfl miX4_count_X1 2 (by decide) mmX4_count_7 rfl dX4_count_110 ?_
                      obtain ⟨rfl⟩ := re1 hf
                      exact hret _ _ _ _ _ rfl rfl hX dX4_count_113
                    · replace hf := ite_f c16 hf
                      cases hf
            · replace hf := ite_t c11 hf
              refine lv_bipush (pc := 99) (v := -4) hx hb dX4_count_99 (by decide) ?_
              refine lv_goto (pc := 101) (tgt := 113) hx hb dX4_count_101 (by decide) ?_
              obtain ⟨rfl⟩ := re1 hf
              exact hret _ _ _ _ _ rfl rfl hX dX4_count_113
          · replace hf := ite_f c10 hf
            rcases Decidable.em ((0 : Int32) = 1) with c17 | c17
            · replace hf := ite_t c17 hf
              refine x_aald (pc := 91) (v := .ref h_sh1) C hX 2 4 rfl rfl i9 (by rw [c17]; rfl) dX4_count_91 ?_
              refine x_getf (pc := 92) (Cn := RX1) (T := TX1) (N := 3) C hX 18 rfl rfl miX4_count_X1 2 (by decide) mmX4_count_7 rfl dX4_count_92 ?_
              refine lv_iconst (pc := 95) (v := -1) hx hb dX4_count_95 (by decide) ?_
              refine lv_icmp_ne (pc := 96) (tgt := 104) hx hb dX4_count_96 (by decide) (fun c18 => ?_) (fun c18 => ?_)
              · replace hf := ite_f c18 hf
                refine lv_aload_n (pc := 104) hx hb dX4_count_104 rfl (lv_at hl 0 rfl) ?_
                refine x_getf (pc := 105) (Cn := RX4) (T := TX4) (N := 9) C hX 0 rfl rfl miX4_count_X4 6 (by decide) mmX4_count_6 rfl dX4_count_105 ?_
                refine lv_iconst (pc := 108) (v := 0) hx hb dX4_count_108 (by decide) ?_
                replace hf := chk_adv hf
                have i19 := hf.1
                replace hf := hf.2
                rcases Decidable.em ((0 : Int32) = 0) with c20 | c20
                · replace hf := ite_t c20 hf
                  refine x_aald (pc := 109) (v := .ref h_sh0) C hX 2 4 rfl rfl i19 (by rw [c20]; rfl) dX4_count_109 ?_
                  refine x_getf (pc := 110) (Cn := RX1) (T := TX1) (N := 3) C hX 16 rfl rfl miX4_count_X1 2 (by decide) mmX4_count_7 rfl dX4_count_110 ?_
                  obtain ⟨rfl⟩ := re1 hf
                  exact hret _ _ _ _ _ rfl rfl hX dX4_count_113
                · replace hf := ite_f c20 hf
                  rcases Decidable.em ((0 : Int32) = 1) with c21 | c21
                  · replace hf := ite_t c21 hf
                    refine x_aald (pc := 109) (v := .ref h_sh1) C hX 2 4 rfl rfl i19 (by rw [c21]; rfl) dX4_count_109 ?_
                    refine x_getf (pc := 110) (Cn := RX1) (T := TX1) (N := 3) C hX 18 rfl rfl miX4_count_X1 2 (by decide) mmX4_count_7 rfl dX4_count_110 ?_
                    obtain ⟨rfl⟩ := re1 hf
                    exact hret _ _ _ _ _ rfl rfl hX dX4_count_113
                  · replace hf := ite_f c21 hf
                    rcases Decidable.em ((0 : Int32) = 2) with c22 | c22
                    · replace hf := ite_t c22 hf
                      refine x_aald (pc := 109) (v := .ref h_sh2) C hX 2 4 rfl rfl i19 (by rw [c22]; rfl) dX4_count_109 ?_
                      refine x_getf (pc := 110) (Cn := RX1) (T := TX1) (N := 3) C hX 20 rfl rfl miX4_count_X1 2 (by decide) mmX4_count_7 rfl dX4_count_110 ?_
                      obtain ⟨rfl⟩ := re1 hf
                      exact hret _ _ _ _ _ rfl rfl hX dX4_count_113
                    · replace hf := ite_f c22 hf
                      rcases Decidable.em ((0 : Int32) = 3) with c23 | c23
                      · replace hf := ite_t c23 hf
                        refine x_aald (pc := 109) (v := .ref h_sh3) C hX 2 4 rfl rfl i19 (by rw [c23]; rfl) dX4_count_109 ?_
                        refine x_getf (pc := 110) (Cn := RX1) (T := TX1) (N := 3) C hX 22 rfl rfl miX4_count_X1 2 (by decide) mmX4_count_7 rfl dX4_count_110 ?_
                        obtain ⟨rfl⟩ := re1 hf
                        exact hret _ _ _ _ _ rfl rfl hX dX4_count_113
                      · replace hf := ite_f c23 hf
                        cases hf
              · replace hf := ite_t c18 hf
                refine lv_bipush (pc := 99) (v := -4) hx hb dX4_count_99 (by decide) ?_
                refine lv_goto (pc := 101) (tgt := 113) hx hb dX4_count_101 (by decide) ?_
                obtain ⟨rfl⟩ := re1 hf
                exact hret _ _ _ _ _ rfl rfl hX dX4_count_113
            · replace hf := ite_f c17 hf
              rcases Decidable.em ((0 : Int32) = 2) with c24 | c24
              · replace hf := ite_t c24 hf
                refine x_aald (pc := 91) (v := .ref h_sh2) C hX 2 4 rfl rfl i9 (by rw [c24]; rfl) dX4_count_91 ?_
                refine x_getf (pc := 92) (Cn := RX1) (T := TX1) (N := 3) C hX 20 rfl rfl miX4_count_X1 2 (by decide) mmX4_count_7 rfl dX4_count_92 ?_
                refine lv_iconst (pc := 95) (v := -1) hx hb dX4_count_95 (by decide) ?_
                refine lv_icmp_ne (pc := 96) (tgt := 104) hx hb dX4_count_96 (by decide) (fun c25 => ?_) (fun c25 => ?_)
                · replace hf := ite_f c25 hf
                  refine lv_aload_n (pc := 104) hx hb dX4_count_104 rfl (lv_at hl 0 rfl) ?_
                  refine x_getf (pc := 105) (Cn := RX4) (T := TX4) (N := 9) C hX 0 rfl rfl miX4_count_X4 6 (by decide) mmX4_count_6 rfl dX4_count_105 ?_
                  refine lv_iconst (pc := 108) (v := 0) hx hb dX4_count_108 (by decide) ?_
                  replace hf := chk_adv hf
                  have i26 := hf.1
                  replace hf := hf.2
                  rcases Decidable.em ((0 : Int32) = 0) with c27 | c27
                  · replace hf := ite_t c27 hf
                    refine x_aald (pc := 109) (v := .ref h_sh0) C hX 2 4 rfl rfl i26 (by rw [c27]; rfl) dX4_count_109 ?_
                    refine x_getf (pc := 110) (Cn := RX1) (T := TX1) (N := 3) C hX 16 rfl rfl miX4_count_X1 2 (by decide) mmX4_count_7 rfl dX4_count_110 ?_
                    obtain ⟨rfl⟩ := re1 hf
                    exact hret _ _ _ _ _ rfl rfl hX dX4_count_113
                  · replace hf := ite_f c27 hf
                    rcases Decidable.em ((0 : Int32) = 1) with c28 | c28
                    · replace hf := ite_t c28 hf
                      refine x_aald (pc := 109) (v := .ref h_sh1) C hX 2 4 rfl rfl i26 (by rw [c28]; rfl) dX4_count_109 ?_
                      refine x_getf (pc := 110) (Cn := RX1) (T := TX1) (N := 3) C hX 18 rfl rfl miX4_count_X1 2 (by decide) mmX4_count_7 rfl dX4_count_110 ?_
                      obtain ⟨rfl⟩ := re1 hf
                      exact hret _ _ _ _ _ rfl rfl hX dX4_count_113
                    · replace hf := ite_f c28 hf
                      rcases Decidable.em ((0 : Int32) = 2) with c29 | c29
                      · replace hf := ite_t c29 hf
                        refine x_aald (pc := 109) (v := .ref h_sh2) C hX 2 4 rfl rfl i26 (by rw [c29]; rfl) dX4_count_109 ?_
                        refine x_getf (pc := 110) (Cn := RX1) (T := TX1) (N := 3) C hX 20 rfl rfl miX4_count_X1 2 (by decide) mmX4_count_7 rfl dX4_count_110 ?_
                        obtain ⟨rfl⟩ := re1 hf
                        exact hret _ _ _ _ _ rfl rfl hX dX4_count_113
                      · replace hf := ite_f c29 hf
                        rcases Decidable.em ((0 : Int32) = 3) with c30 | c30
                        · replace hf := ite_t c30 hf
                          refine x_aald (pc := 109) (v := .ref h_sh3) C hX 2 4 rfl rfl i26 (by rw [c30]; rfl) dX4_count_109 ?_
                          refine x_getf (pc := 110) (Cn := RX1) (T := TX1) (N := 3) C hX 22 rfl rfl miX4_count_X1 2 (by decide) mmX4_count_7 rfl dX4_count_110 ?_
                          obtain ⟨rfl⟩ := re1 hf
                          exact hret _ _ _ _ _ rfl rfl hX dX4_count_113
                        · replace hf := ite_f c30 hf
                          cases hf
                · replace hf := ite_t c25 hf
                  refine lv_bipush (pc := 99) (v := -4) hx hb dX4_count_99 (by decide) ?_
                  refine lv_goto (pc := 101) (tgt := 113) hx hb dX4_count_101 (by decide) ?_
                  obtain ⟨rfl⟩ := re1 hf
                  exact hret _ _ _ _ _ rfl rfl hX dX4_count_113
              · replace hf := ite_f c24 hf
                rcases Decidable.em ((0 : Int32) = 3) with c31 | c31
                · replace hf := ite_t c31 hf
                  refine x_aald (pc := 91) (v := .ref h_sh3) C hX 2 4 rfl rfl i9 (by rw [c31]; rfl) dX4_count_91 ?_
                  refine x_getf (pc := 92) (Cn := RX1) (T := TX1) (N := 3) C hX 22 rfl rfl miX4_count_X1 2 (by decide) mmX4_count_7 rfl dX4_count_92 ?_
                  refine lv_iconst (pc := 95) (v := -1) hx hb dX4_count_95 (by decide) ?_
                  refine lv_icmp_ne (pc := 96) (tgt := 104) hx hb dX4_count_96 (by decide) (fun c32 => ?_) (fun c32 => ?_)
                  · replace hf := ite_f c32 hf
                    refine lv_aload_n (pc := 104) hx hb dX4_count_104 rfl (lv_at hl 0 rfl) ?_
                    refine x_getf (pc := 105) (Cn := RX4) (T := TX4) (N := 9) C hX 0 rfl rfl miX4_count_X4 6 (by decide) mmX4_count_6 rfl dX4_count_105 ?_
                    refine lv_iconst (pc := 108) (v := 0) hx hb dX4_count_108 (by decide) ?_
                    replace hf := chk_adv hf
                    have i33 := hf.1
                    replace hf := hf.2
                    rcases Decidable.em ((0 : Int32) = 0) with c34 | c34
                    · replace hf := ite_t c34 hf
                      refine x_aald (pc := 109) (v := .ref h_sh0) C hX 2 4 rfl rfl i33 (by rw [c34]; rfl) dX4_count_109 ?_
                      refine x_getf (pc := 110) (Cn := RX1) (T := TX1) (N := 3) C hX 16 rfl rfl miX4_count_X1 2 (by decide) mmX4_count_7 rfl dX4_count_110 ?_
                      obtain ⟨rfl⟩ := re1 hf
                      exact hret _ _ _ _ _ rfl rfl hX dX4_count_113
                    · replace hf := ite_f c34 hf
                      rcases Decidable.em ((0 : Int32) = 1) with c35 | c35
                      · replace hf := ite_t c35 hf
                        refine x_aald (pc := 109) (v := .ref h_sh1) C hX 2 4 rfl rfl i33 (by rw [c35]; rfl) dX4_count_109 ?_
                        refine x_getf (pc := 110) (Cn := RX1) (T := TX1) (N := 3) C hX 18 rfl rfl miX4_count_X1 2 (by decide) mmX4_count_7 rfl dX4_count_110 ?_
                        obtain ⟨rfl⟩ := re1 hf
                        exact hret _ _ _ _ _ rfl rfl hX dX4_count_113
                      · replace hf := ite_f c35 hf
                        rcases Decidable.em ((0 : Int32) = 2) with c36 | c36
                        · replace hf := ite_t c36 hf
                          refine x_aald (pc := 109) (v := .ref h_sh2) C hX 2 4 rfl rfl i33 (by rw [c36]; rfl) dX4_count_109 ?_
                          refine x_getf (pc := 110) (Cn := RX1) (T := TX1) (N := 3) C hX 20 rfl rfl miX4_count_X1 2 (by decide) mmX4_count_7 rfl dX4_count_110 ?_
                          obtain ⟨rfl⟩ := re1 hf
                          exact hret _ _ _ _ _ rfl rfl hX dX4_count_113
                        · replace hf := ite_f c36 hf
                          rcases Decidable.em ((0 : Int32) = 3) with c37 | c37
                          · replace hf := ite_t c37 hf
                            refine x_aald (pc := 109) (v := .ref h_sh3) C hX 2 4 rfl rfl i33 (by rw [c37]; rfl) dX4_count_109 ?_
                            refine x_getf (pc := 110) (Cn := RX1) (T := TX1) (N := 3) C hX 22 rfl rfl miX4_count_X1 2 (by decide) mmX4_count_7 rfl dX4_count_110 ?_
                            obtain ⟨rfl⟩ := re1 hf
                            exact hret _ _ _ _ _ rfl rfl hX dX4_count_113
                          · replace hf := ite_f c37 hf
                            cases hf
                  · replace hf := ite_t c32 hf
                    refine lv_bipush (pc := 99) (v := -4) hx hb dX4_count_99 (by decide) ?_
                    refine lv_goto (pc := 101) (tgt := 113) hx hb dX4_count_101 (by decide) ?_
                    obtain ⟨rfl⟩ := re1 hf
                    exact hret _ _ _ _ _ rfl rfl hX dX4_count_113
                · replace hf := ite_f c31 hf
                  cases hf
        · replace hf := ite_f c8 hf
          rcases Decidable.em (p1 = 4) with c38 | c38
          · replace hf := ite_t c38 hf
            refine lv_tableIn (pc := 1) (off := 113) (tgt := 114) hx hb dX4_count_1 (by rw [c38]; decide) (by rw [c38]; decide) (by rw [c38]; decide) (by decide) ?_
            refine lv_aload_n (pc := 114) hx hb dX4_count_114 rfl (lv_at hl 0 rfl) ?_
            refine x_getf (pc := 115) (Cn := RX4) (T := TX4) (N := 9) C hX 0 rfl rfl miX4_count_X4 0 (by decide) mmX4_count_8 rfl dX4_count_115 ?_
            refine lv_iconst (pc := 118) (v := 1) hx hb dX4_count_118 (by decide) ?_
            obtain ⟨r39, g40, hf⟩ := cl1_adv hf
            refine x_callVi (pc := 119) (rest := []) (w2 := [(h0, .inr (4, [.ref h_now, .ref h_trial, .ref h_images, .ref h_kept, .ref h_tape, .ref h_sights, .ref h_sheets, .ref h_looks, .int tornFault])), (h_kept, .inl (cZ, 2, .inl kept)), (h_sheets, .inl (cS, 4, .inr (.inr (.inr (.inr (xr4 h_sh0 h_sh1 h_sh2 h_sh3)))))), (h_now, .inr (0, [.ref h_now_kindRow, .ref h_now_slackRow, .ref h_now_placeRow, .ref h_now_turnRow, .ref h_now_wayRow, .ref h_now_strokeRow, .int now_arms, .int now_strokes, .int now_hand, .int now_step, .int now_travel, .int now_reversals])), (h_now_kindRow, .inl (cI, 4, .inl now_kindRow)), (h_now_slackRow, .inl (cI, 4, .inl now_slackRow)), (h_now_placeRow, .inl (cI, 4, .inl now_placeRow)), (h_now_turnRow, .inl (cI, 4, .inl now_turnRow)), (h_now_wayRow, .inl (cI, 4, .inl now_wayRow)), (h_now_strokeRow, .inl (cI, 16, .inl now_strokeRow)), (h_tape, .inr (3, [.ref h_tape_bytes, .int tape_length, .int tape_fault, .int tape_faultPlace, .int tape_token, .int tape_tokenStart, .int tape_tokenEnd])), (h_tape_bytes, .inl (cB, 160, .inl tape_bytes)), (h_sights, .inr (2, [.ref h_sights_stepRow, .ref h_sights_armRow, .ref h_sights_placeRow, .int sights_size])), (h_sights_stepRow, .inl (cI, 6, .inl sights_stepRow)), (h_sights_armRow, .inl (cI, 6, .inl sights_armRow)), (h_sights_placeRow, .inl (cI, 6, .inl sights_placeRow)), (h_sh0, .inr (1, [.ref h_sh0_cells, .int sh0_lane, .int sh0_size])), (h_sh0_cells, .inl (cI, 40, .inl sh0_cells)), (h_sh1, .inr (1, [.ref h_sh1_cells, .int sh1_lane, .int sh1_size])), (h_sh1_cells, .inl (cI, 40, .inl sh1_cells)), (h_sh2, .inr (1, [.ref h_sh2_cells, .int sh2_lane, .int sh2_size])), (h_sh2_cells, .inl (cI, 40, .inl sh2_cells)), (h_sh3, .inr (1, [.ref h_sh3_cells, .int sh3_lane, .int sh3_size])), (h_sh3_cells, .inl (cI, 40, .inl sh3_cells))]) C hX (kX0_sumOf ad l D cI cB cZ cG cS h_now h_now_kindRow h_now_slackRow h_now_placeRow h_now_turnRow h_now_wayRow h_now_strokeRow now_arms now_strokes now_hand now_step now_travel now_reversals now_kindRow now_slackRow now_placeRow now_turnRow now_wayRow now_strokeRow r39 (1 : Int32) g40) (cwV 1 C.1.2.2.2.2 gX4_count_X0_sumOf rfl rfl rfl (by decide +kernel) ⟨Nat.le_of_ble_eq_true rfl, Nat.le_of_ble_eq_true rfl⟩) [3, 4, 5, 6, 7, 8, 9] [0, 1, 2, 10, 11, 12, 13, 14, 15, 16, 17, 18, 19, 20, 21, 22, 23] [0, 1, 2, 17, 18, 19, 20, 21, 22, 23, 3, 4, 5, 6, 7, 8, 9, 10, 11, 12, 13, 14, 15, 16] rfl rfl rfl rfl (by decide) rfl rfl 0 rfl rfl rfl hl.1 rfl rfl (Nat.le_of_ble_eq_true rfl) dX4_count_119 (fun H locs hX => ?_)
            obtain ⟨rfl⟩ := re1 hf
            exact hret _ _ _ _ _ rfl rfl hX dX4_count_122
          · replace hf := ite_f c38 hf
            rcases Decidable.em (p1 = 5) with c41 | c41
            · replace hf := ite_t c41 hf
              refine lv_tableIn (pc := 1) (off := 122) (tgt := 123) hx hb dX4_count_1 (by rw [c41]; decide) (by rw [c41]; decide) (by rw [c41]; decide) (by decide) ?_
              refine lv_aload_n (pc := 123) hx hb dX4_count_123 rfl (lv_at hl 0 rfl) ?_
              refine x_getf (pc := 124) (Cn := RX4) (T := TX4) (N := 9) C hX 0 rfl rfl miX4_count_X4 0 (by decide) mmX4_count_8 rfl dX4_count_124 ?_
              refine lv_iconst (pc := 127) (v := 2) hx hb dX4_count_127 (by decide) ?_
              obtain ⟨r42, g43, hf⟩ := cl1_adv hf
              refine x_callVi (pc := 128) (rest := []) (w2 := [(h0, .inr (4, [.ref h_now, .ref h_trial, .ref h_images, .ref h_kept, .ref h_tape, .ref h_sights, .ref h_sheets, .ref h_looks, .int tornFault])), (h_kept, .inl (cZ, 2, .inl kept)), (h_sheets, .inl (cS, 4, .inr (.inr (.inr (.inr (xr4 h_sh0 h_sh1 h_sh2 h_sh3)))))), (h_now, .inr (0, [.ref h_now_kindRow, .ref h_now_slackRow, .ref h_now_placeRow, .ref h_now_turnRow, .ref h_now_wayRow, .ref h_now_strokeRow, .int now_arms, .int now_strokes, .int now_hand, .int now_step, .int now_travel, .int now_reversals])), (h_now_kindRow, .inl (cI, 4, .inl now_kindRow)), (h_now_slackRow, .inl (cI, 4, .inl now_slackRow)), (h_now_placeRow, .inl (cI, 4, .inl now_placeRow)), (h_now_turnRow, .inl (cI, 4, .inl now_turnRow)), (h_now_wayRow, .inl (cI, 4, .inl now_wayRow)), (h_now_strokeRow, .inl (cI, 16, .inl now_strokeRow)), (h_tape, .inr (3, [.ref h_tape_bytes, .int tape_length, .int tape_fault, .int tape_faultPlace, .int tape_token, .int tape_tokenStart, .int tape_tokenEnd])), (h_tape_bytes, .inl (cB, 160, .inl tape_bytes)), (h_sights, .inr (2, [.ref h_sights_stepRow, .ref h_sights_armRow, .ref h_sights_placeRow, .int sights_size])), (h_sights_stepRow, .inl (cI, 6, .inl sights_stepRow)), (h_sights_armRow, .inl (cI, 6, .inl sights_armRow)), (h_sights_placeRow, .inl (cI, 6, .inl sights_placeRow)), (h_sh0, .inr (1, [.ref h_sh0_cells, .int sh0_lane, .int sh0_size])), (h_sh0_cells, .inl (cI, 40, .inl sh0_cells)), (h_sh1, .inr (1, [.ref h_sh1_cells, .int sh1_lane, .int sh1_size])), (h_sh1_cells, .inl (cI, 40, .inl sh1_cells)), (h_sh2, .inr (1, [.ref h_sh2_cells, .int sh2_lane, .int sh2_size])), (h_sh2_cells, .inl (cI, 40, .inl sh2_cells)), (h_sh3, .inr (1, [.ref h_sh3_cells, .int sh3_lane, .int sh3_size])), (h_sh3_cells, .inl (cI, 40, .inl sh3_cells))]) C hX (kX0_sumOf ad l D cI cB cZ cG cS h_now h_now_kindRow h_now_slackRow h_now_placeRow h_now_turnRow h_now_wayRow h_now_strokeRow now_arms now_strokes now_hand now_step now_travel now_reversals now_kindRow now_slackRow now_placeRow now_turnRow now_wayRow now_strokeRow r42 (2 : Int32) g43) (cwV 1 C.1.2.2.2.2 gX4_count_X0_sumOf rfl rfl rfl (by decide +kernel) ⟨Nat.le_of_ble_eq_true rfl, Nat.le_of_ble_eq_true rfl⟩) [3, 4, 5, 6, 7, 8, 9] [0, 1, 2, 10, 11, 12, 13, 14, 15, 16, 17, 18, 19, 20, 21, 22, 23] [0, 1, 2, 17, 18, 19, 20, 21, 22, 23, 3, 4, 5, 6, 7, 8, 9, 10, 11, 12, 13, 14, 15, 16] rfl rfl rfl rfl (by decide) rfl rfl 0 rfl rfl rfl hl.1 rfl rfl (Nat.le_of_ble_eq_true rfl) dX4_count_128 (fun H locs hX => ?_)
              obtain ⟨rfl⟩ := re1 hf
              exact hret _ _ _ _ _ rfl rfl hX dX4_count_131
            · replace hf := ite_f c41 hf
              refine lv_tableOut (pc := 1) (tgt := 132) hx hb dX4_count_1 (by have := tbl_ne (n := 0) (by decide) c1; have := tbl_ne (n := 1) (by decide) c2; have := tbl_ne (n := 2) (by decide) c7; have := tbl_ne (n := 3) (by decide) c8; have := tbl_ne (n := 4) (by decide) c38; have := tbl_ne (n := 5) (by decide) c41; omega) (by decide) ?_
              refine lv_iconst (pc := 132) (v := -1) hx hb dX4_count_132 (by decide) ?_
              obtain ⟨rfl⟩ := re1 hf
              exact hret _ _ _ _ _ rfl rfl hX dX4_count_133
