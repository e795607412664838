theorem mmX4_feed_1 : Cond.fieldLink RX4 30 "SlackArms" "tape" "LSlackArms$Tape;" ∈ wsX4_feed := List.mem_of_getElem? (i := 1) rfl
theorem miX4_feed_X4 : ∀ w ∈ u_ws RX4 TX4 9, w ∈ wsX4_feed := fun w h => List.mem_cons_of_mem _ (List.mem_append_left _ (List.mem_append_right _ h))
theorem mmX4_feed_2 : Cond.fieldLink RX4 64 "SlackArms$Tape" "length" "I" ∈ wsX4_feed := List.mem_of_getElem? (i := 2) rfl
theorem miX4_feed_X3 : ∀ w ∈ u_ws RX3 TX3 7, w ∈ wsX4_feed := fun w h => List.mem_cons_of_mem _ (List.mem_append_right _ h)
set_option maxHeartbeats 4000000 in
set_option maxRecDepth 100000 in
theorem kX4_feed (ad : xAd) (l : Launch) (D : va_G) (cI cB cZ cG cS : ClassId) (h0 h_now h_trial h_images h_kept h_tape h_sights h_sheets h_looks h_tape_bytes : Nat) (tornFault : Int32) (tape_length : Int32) (tape_fault : Int32) (tape_faultPlace : Int32) (tape_token : Int32) (tape_tokenStart : Int32) (tape_tokenEnd : Int32) (tape_bytes : (Nat → Int32)) (r0 : Int32) (o_tape_length' : Int32) (o_tape_bytes' : (Nat → Int32)) (p1 : Int32) (hf : fX4_feed p1 tape_length tape_bytes = some (r0, o_tape_length', o_tape_bytes')) : xMi ad l yX4_feed wsX4_feed ({ frames := 1, cells := 0, slots := 0, locals := 22 } : Room) D (xTY cI cB cZ cG cS) [.ref h0, .int p1] [(h0, .inr (4, [.ref h_now, .ref h_trial, .ref h_images, .ref h_kept, .ref h_tape, .ref h_sights, .ref h_sheets, .ref h_looks, .int tornFault])), (h_tape, .inr (3, [.ref h_tape_bytes, .int tape_length, .int tape_fault, .int tape_faultPlace, .int tape_token, .int tape_tokenStart, .int tape_tokenEnd])), (h_tape_bytes, .inl (cB, 160, .inl tape_bytes))] [(h0, .inr (4, [.ref h_now, .ref h_trial, .ref h_images, .ref h_kept, .ref h_tape, .ref h_sights, .ref h_sheets, .ref h_looks, .int tornFault])), (h_tape, .inr (3, [.ref h_tape_bytes, .int o_tape_length', .int tape_fault, .int tape_faultPlace, .int tape_token, .int tape_tokenStart, .int tape_tokenEnd])), (h_tape_bytes, .inl (cB, 160, .inl o_tape_bytes'))] r0 := by
  refine xMi_of (cc := cX4_feed) (maxL := 2) (ty := .int) (by decide) rfl (Nat.le_of_ble_eq_true rfl) ?_
  intro p e s m args below meth c A Q ls C hX hl hret
  have hx := C.1.1
  have hb := C.1.2.1
  have hl : lv_has ls 2 [(0, .ref h0), (1, .int p1)] := hl
  unfold fX4_feed at hf
  refine lv_iload_n (pc := 0) hx hb dX4_feed_0 rfl (lv_at hl 1 rfl) ?_
  refine lv_iconst (pc := 1) (v := 0) hx hb dX4_feed_1 (by decide) ?_
  refine lv_bipush (pc := 2) (v := 127) hx hb dX4_feed_2 (by decide) ?_
  obtain ⟨r1, g2, hf⟩ := cl1_adv hf
  refine x_callSi (pc := 4) (rest := []) C hX (kX4_within ad l D cI cB cZ cG cS r1 p1 (0 : Int32) (127 : Int32) g2) (va_cwS 3 C.1.2.2.2.2 gX4_feed_X4_within rfl rfl rfl (by decide +kernel) ⟨Nat.le_of_ble_eq_true rfl, Nat.le_of_ble_eq_true rfl⟩) hl.1 rfl rfl (Nat.le_of_ble_eq_true rfl) dX4_feed_4 (fun H locs hX => ?_)
  refine lv_if_ne (pc := 7) (tgt := 12) hx hb dX4_feed_7 (by decide) (fun c3 => ?_) (fun c3 => ?_)
  · replace hf := ite_f c3 hf
    refine lv_aload_n (pc := 12) hx hb dX4_feed_12 rfl (lv_at hl 0 rfl) ?_
    refine x_getf (pc := 13) (Cn := RX4) (T := TX4) (N := 9) C hX 0 rfl rfl miX4_feed_X4 4 (by decide) mmX4_feed_1 rfl dX4_feed_13 ?_
    refine lv_iload_n (pc := 16) hx hb dX4_feed_16 rfl (lv_at hl 1 rfl) ?_
    obtain ⟨r4, u5, u6, g7, hf⟩ := cl3_adv hf
    refine x_callVi (pc := 17) (rest := []) (w2 := [(h0, .inr (4, [.ref h_now, .ref h_trial, .ref h_images, .ref h_kept, .ref h_tape, .ref h_sights, .ref h_sheets, .ref h_looks, .int tornFault])), (h_tape, .inr (3, [.ref h_tape_bytes, .int u5, .int tape_fault, .int tape_faultPlace, .int tape_token, .int tape_tokenStart, .int tape_tokenEnd])), (h_tape_bytes, .inl (cB, 160, .inl u6))]) C hX (kX3_append ad l D cI cB cZ cG cS h_tape h_tape_bytes tape_length tape_fault tape_faultPlace tape_token tape_tokenStart tape_tokenEnd tape_bytes r4 u5 u6 p1 g7) (cwV 1 C.1.2.2.2.2 gX4_feed_X3_append rfl rfl rfl (by decide +kernel) ⟨Nat.le_of_ble_eq_true rfl, Nat.le_of_ble_eq_true rfl⟩) [1, 2] [0] [0, 1, 2] rfl rfl rfl rfl (by decide) rfl rfl 0 rfl rfl rfl hl.1 rfl rfl (Nat.le_of_ble_eq_true rfl) dX4_feed_17 (fun H locs hX => ?_)
    refine lv_if_eq (pc := 20) (tgt := 33) hx hb dX4_feed_20 (by decide) (fun c8 => ?_) (fun c8 => ?_)
    · replace hf := ite_t c8 hf
      refine lv_bipush (pc := 33) (v := -3) hx hb dX4_feed_33 (by decide) ?_
      obtain ⟨rfl, rfl, rfl⟩ := re3 hf
      exact hret _ _ _ _ _ rfl rfl hX dX4_feed_35
    · replace hf := ite_f c8 hf
      refine lv_aload_n (pc := 23) hx hb dX4_feed_23 rfl (lv_at hl 0 rfl) ?_
      refine x_getf (pc := 24) (Cn := RX4) (T := TX4) (N := 9) C hX 0 rfl rfl miX4_feed_X4 4 (by decide) mmX4_feed_1 rfl dX4_feed_24 ?_
      refine x_getf (pc := 27) (Cn := RX3) (T := TX3) (N := 7) C hX 1 rfl rfl miX4_feed_X3 1 (by decide) mmX4_feed_2 rfl dX4_feed_27 ?_
      refine lv_goto (pc := 30) (tgt := 35) hx hb dX4_feed_30 (by decide) ?_
      obtain ⟨rfl, rfl, rfl⟩ := re3 hf
      exact hret _ _ _ _ _ rfl rfl hX dX4_feed_35
  · replace hf := ite_t c3 hf
    refine lv_iconst (pc := 10) (v := -1) hx hb dX4_feed_10 (by decide) ?_
    obtain ⟨rfl, rfl, rfl⟩ := re3 hf
    exact hret _ _ _ _ _ rfl rfl hX dX4_feed_11
theorem mmX4_end_1 : Cond.fieldLink RX4 30 "SlackArms" "tape" "LSlackArms$Tape;" ∈ wsX4_end := List.mem_of_getElem? (i := 1) rfl
theorem miX4_end_X4 : ∀ w ∈ u_ws RX4 TX4 9, w ∈ wsX4_end := fun w h => List.mem_cons_of_mem _ (List.mem_append_left _ (List.mem_append_right _ h))
theorem mmX4_end_2 : Cond.fieldLink RX4 64 "SlackArms$Tape" "length" "I" ∈ wsX4_end := List.mem_of_getElem? (i := 2) rfl
theorem miX4_end_X3 : ∀ w ∈ u_ws RX3 TX3 7, w ∈ wsX4_end := fun w h => List.mem_cons_of_mem _ (List.mem_append_right _ h)
set_option maxHeartbeats 4000000 in
set_option maxRecDepth 100000 in
theorem kX4_end (ad : xAd) (l : Launch) (D : va_G) (cI cB cZ cG cS : ClassId) (h0 h_now h_trial h_images h_kept h_tape h_sights h_sheets h_looks h_tape_bytes : Nat) (tornFault : Int32) (tape_length : Int32) (tape_fault : Int32) (tape_faultPlace : Int32) (tape_token : Int32) (tape_tokenStart : Int32) (tape_tokenEnd : Int32) (tape_bytes : (Nat → Int32)) (r0 : Int32) (o_tape_length' : Int32) (p1 : Int32) (hf : fX4_end p1 tape_length = some (r0, o_tape_length')) : xMi ad l yX4_end wsX4_end ({ frames := 1, cells := 0, slots := 0, locals := 22 } : Room) D (xTY cI cB cZ cG cS) [.ref h0, .int p1] [(h0, .inr (4, [.ref h_now, .ref h_trial, .ref h_images, .ref h_kept, .ref h_tape, .ref h_sights, .ref h_sheets, .ref h_looks, .int tornFault])), (h_tape, .inr (3, [.ref h_tape_bytes, .int tape_length, .int tape_fault, .int tape_faultPlace, .int tape_token, .int tape_tokenStart, .int tape_tokenEnd])), (h_tape_bytes, .inl (cB, 160, .inl tape_bytes))] [(h0, .inr (4, [.ref h_now, .ref h_trial, .ref h_images, .ref h_kept, .ref h_tape, .ref h_sights, .ref h_sheets, .ref h_looks, .int tornFault])), (h_tape, .inr (3, [.ref h_tape_bytes, .int o_tape_length', .int tape_fault, .int tape_faultPlace, .int tape_token, .int tape_tokenStart, .int tape_tokenEnd])), (h_tape_bytes, .inl (cB, 160, .inl tape_bytes))] r0 := by
  refine xMi_of (cc := cX4_end) (maxL := 3) (ty := .int) (by decide) rfl (Nat.le_of_ble_eq_true rfl) ?_
  intro p e s m args below meth c A Q ls C hX hl hret
  have hx := C.1.1
  have hb := C.1.2.1
  have hl : lv_has ls 3 [(0, .ref h0), (1, .int p1)] := hl
  unfold fX4_end at hf
  refine lv_iload_n (pc := 0) hx hb dX4_end_0 rfl (lv_at hl 1 rfl) ?_
  refine lv_iconst (pc := 1) (v := 0) hx hb dX4_end_1 (by decide) ?_
  refine lv_aload_n (pc := 2) hx hb dX4_end_2 rfl (lv_at hl 0 rfl) ?_
  refine x_getf (pc := 3) (Cn := RX4) (T := TX4) (N := 9) C hX 0 rfl rfl miX4_end_X4 4 (by decide) mmX4_end_1 rfl dX4_end_3 ?_
  refine x_getf (pc := 6) (Cn := RX3) (T := TX3) (N := 7) C hX 1 rfl rfl miX4_end_X3 1 (by decide) mmX4_end_2 rfl dX4_end_6 ?_
  obtain ⟨r1, g2, hf⟩ := cl1_adv hf
  refine x_callSi (pc := 9) (rest := []) C hX (kX4_within ad l D cI cB cZ cG cS r1 p1 (0 : Int32) tape_length g2) (va_cwS 3 C.1.2.2.2.2 gX4_end_X4_within rfl rfl rfl (by decide +kernel) ⟨Nat.le_of_ble_eq_true rfl, Nat.le_of_ble_eq_true rfl⟩) hl.1 rfl rfl (Nat.le_of_ble_eq_true rfl) dX4_end_9 (fun H locs hX => ?_)
  refine lv_if_ne (pc := 12) (tgt := 17) hx hb dX4_end_12 (by decide) (fun c3 => ?_) (fun c3 => ?_)
  · replace hf := ite_f c3 hf
    refine lv_aload_n (pc := 17) hx hb dX4_end_17 rfl (lv_at hl 0 rfl) ?_
    refine x_getf (pc := 18) (Cn := RX4) (T := TX4) (N := 9) C hX 0 rfl rfl miX4_end_X4 4 (by decide) mmX4_end_1 rfl dX4_end_18 ?_
    refine x_getf (pc := 21) (Cn := RX3) (T := TX3) (N := 7) C hX 1 rfl rfl miX4_end_X3 1 (by decide) mmX4_end_2 rfl dX4_end_21 ?_
    refine lv_istore_n (pc := 24) (lv' := [(2, .int tape_length), (0, .ref h0), (1, .int p1)]) hx hb dX4_end_24 rfl hl (by decide) rfl (fun ls hl => ?_)
    refine lv_aload_n (pc := 25) hx hb dX4_end_25 rfl (lv_at hl 1 rfl) ?_
    refine x_getf (pc := 26) (Cn := RX4) (T := TX4) (N := 9) C hX 0 rfl rfl miX4_end_X4 4 (by decide) mmX4_end_1 rfl dX4_end_26 ?_
    refine lv_iload_n (pc := 29) hx hb dX4_end_29 rfl (lv_at hl 2 rfl) ?_
    refine x_putf (pc := 30) (Cn := RX3) (T := TX3) (N := 7) C hX tyX3 tyX3_ok nmX3 1 rfl rfl miX4_end_X3 1 (by decide) mmX4_end_2 rfl rfl (Nat.le_of_ble_eq_true rfl) [(h0, .inr (4, [.ref h_now, .ref h_trial, .ref h_images, .ref h_kept, .ref h_tape, .ref h_sights, .ref h_sheets, .ref h_looks, .int tornFault])), (h_tape, .inr (3, [.ref h_tape_bytes, .int p1, .int tape_fault, .int tape_faultPlace, .int tape_token, .int tape_tokenStart, .int tape_tokenEnd])), (h_tape_bytes, .inl (cB, 160, .inl tape_bytes))] rfl dX4_end_30 (fun H locs hX => ?_)
    refine lv_iload_n (pc := 33) hx hb dX4_end_33 rfl (lv_at hl 0 rfl) ?_
    obtain ⟨rfl, rfl⟩ := re2 hf
    exact hret _ _ _ _ _ rfl rfl hX dX4_end_34
  · replace hf := ite_t c3 hf
    refine lv_iconst (pc := 15) (v := -1) hx hb dX4_end_15 (by decide) ?_
    obtain ⟨rfl, rfl⟩ := re2 hf
    exact hret _ _ _ _ _ rfl rfl hX dX4_end_16
theorem mmX4_fault_1 : Cond.fieldLink RX4 30 "SlackArms" "tape" "LSlackArms$Tape;" ∈ wsX4_fault := List.mem_of_getElem? (i := 1) rfl
theorem miX4_fault_X4 : ∀ w ∈ u_ws RX4 TX4 9, w ∈ wsX4_fault := fun w h => List.mem_cons_of_mem _ (List.mem_append_left _ (List.mem_append_right _ h))
theorem mmX4_fault_2 : Cond.fieldLink RX4 71 "SlackArms$Tape" "fault" "I" ∈ wsX4_fault := List.mem_of_getElem? (i := 2) rfl
theorem miX4_fault_X3 : ∀ w ∈ u_ws RX3 TX3 7, w ∈ wsX4_fault := fun w h => List.mem_cons_of_mem _ (List.mem_append_right _ h)
set_option maxHeartbeats 4000000 in
set_option maxRecDepth 100000 in
theorem kX4_fault (ad : xAd) (l : Launch) (D : va_G) (cI cB cZ cG cS : ClassId) (h0 h_now h_trial h_images h_kept h_tape h_sights h_sheets h_looks h_tape_bytes : Nat) (tornFault : Int32) (tape_length : Int32) (tape_fault : Int32) (tape_faultPlace : Int32) (tape_token : Int32) (tape_tokenStart : Int32) (tape_tokenEnd : Int32) (tape_bytes : (Nat → Int32)) (r0 : Int32)  (hf : fX4_fault  tape_fault = some r0) : xMi ad l yX4_fault wsX4_fault ({ frames := 0, cells := 0, slots := 0, locals := 0 } : Room) D (xTY cI cB cZ cG cS) [.ref h0] [(h0, .inr (4, [.ref h_now, .ref h_trial, .ref h_images, .ref h_kept, .ref h_tape, .ref h_sights, .ref h_sheets, .ref h_looks, .int tornFault])), (h_tape, .inr (3, [.ref h_tape_bytes, .int tape_length, .int tape_fault, .int tape_faultPlace, .int tape_token, .int tape_tokenStart, .int tape_tokenEnd])), (h_tape_bytes, .inl (cB, 160, .inl tape_bytes))] [(h0, .inr (4, [.ref h_now, .ref h_trial, .ref h_images, .ref h_kept, .ref h_tape, .ref h_sights, .ref h_sheets, .ref h_looks, .int tornFault])), (h_tape, .inr (3, [.ref h_tape_bytes, .int tape_length, .int tape_fault, .int tape_faultPlace, .int tape_token, .int tape_tokenStart, .int tape_tokenEnd])), (h_tape_bytes, .inl (cB, 160, .inl tape_bytes))] r0 := by
  refine xMi_of (cc := cX4_fault) (maxL := 1) (ty := .int) (by decide) rfl (Nat.le_of_ble_eq_true rfl) ?_
  intro p e s m args below meth c A Q ls C hX hl hret
  have hx := C.1.1
  have hb := C.1.2.1
  have hl : lv_has ls 1 [(0, .ref h0)] := hl
  unfold fX4_fault at hf
  refine lv_aload_n (pc := 0) hx hb dX4_fault_0 rfl (lv_at hl 0 rfl) ?_
  refine x_getf (pc := 1) (Cn := RX4) (T := TX4) (N := 9) C hX 0 rfl rfl miX4_fault_X4 4 (by decide) mmX4_fault_1 rfl dX4_fault_1 ?_
  refine x_getf (pc := 4) (Cn := RX3) (T := TX3) (N := 7) C hX 1 rfl rfl miX4_fault_X3 2 (by decide) mmX4_fault_2 rfl dX4_fault_4 ?_
  obtain ⟨rfl⟩ := re1 hf
  exact hret _ _ _ _ _ rfl rfl hX dX4_fault_7
theorem mmX4_rule_1 : Cond.fieldLink RX4 10 "SlackArms" "now" "LSlackArms$Gear;" ∈ wsX4_rule := List.mem_of_getElem? (i := 1) rfl
theorem miX4_rule_X4 : ∀ w ∈ u_ws RX4 TX4 9, w ∈ wsX4_rule := fun w h => List.mem_cons_of_mem _ (List.mem_append_left _ (List.mem_append_right _ h))
theorem mmX4_rule_2 : Cond.fieldLink RX4 84 "SlackArms$Gear" "arms" "I" ∈ wsX4_rule := List.mem_of_getElem? (i := 2) rfl
theorem miX4_rule_X0 : ∀ w ∈ u_ws RX0 TX0 12, w ∈ wsX4_rule := fun w h => List.mem_cons_of_mem _ (List.mem_append_right _ h)
theorem mmX4_rule_3 : Cond.fieldLink RX4 87 "SlackArms$Gear" "strokes" "I" ∈ wsX4_rule := List.mem_of_getElem? (i := 3) rfl
theorem mmX4_rule_4 : Cond.fieldLink RX4 90 "SlackArms$Gear" "step" "I" ∈ wsX4_rule := List.mem_of_getElem? (i := 4) rfl
theorem mmX4_rule_5 : Cond.constant RX4 93 (200000) ∈ wsX4_rule := List.mem_of_getElem? (i := 5) rfl
theorem mmX4_rule_6 : Cond.fieldLink RX4 94 "SlackArms$Gear" "hand" "I" ∈ wsX4_rule := List.mem_of_getElem? (i := 6) rfl
theorem mmX4_rule_7 : Cond.fieldLink RX4 101 "SlackArms$Gear" "strokeRow" "[I" ∈ wsX4_rule := List.mem_of_getElem? (i := 7) rfl
set_option maxHeartbeats 4000000 in
set_option maxRecDepth 100000 in
theorem kX4_rule (ad : xAd) (l : Launch) (D : va_G) (cI cB cZ cG cS : ClassId) (h0 h_now h_trial h_images h_kept h_tape h_sights h_sheets h_looks h_now_kindRow h_now_slackRow h_now_placeRow h_now_turnRow h_now_wayRow h_now_strokeRow : Nat) (tornFault : Int32) (now_arms : Int32) (now_strokes : Int32) (now_hand : Int32) (now_step : Int32) (now_travel : Int32) (now_reversals : Int32) (now_kindRow : (Nat → Int32)) (now_slackRow : (Nat → Int32)) (now_placeRow : (Nat → Int32)) (now_turnRow : (Nat → Int32)) (now_wayRow : (Nat → Int32)) (now_strokeRow : (Nat → Int32)) (r0 : Int32) (p1 : Int32) (hf : fX4_rule p1 now_arms now_strokes now_hand now_step now_placeRow now_strokeRow = some r0) : xMi ad l yX4_rule wsX4_rule ({ frames := 2, cells := 0, slots := 0, locals := 41 } : Room) D (xTY cI cB cZ cG cS) [.ref h0, .int p1] [(h0, .inr (4, [.ref h_now, .ref h_trial, .ref h_images, .ref h_kept, .ref h_tape, .ref h_sights, .ref h_sheets, .ref h_looks, .int tornFault])), (h_now, .inr (0, [.ref h_now_kindRow, .ref h_now_slackRow, .ref h_now_placeRow, .ref h_now_turnRow, .ref h_now_wayRow, .ref h_now_strokeRow, .int now_arms, .int now_strokes, .int now_hand, .int now_step, .int now_travel, .int now_reversals])), (h_now_kindRow, .inl (cI, 4, .inl now_kindRow)), (h_now_slackRow, .inl (cI, 4, .inl now_slackRow)), (h_now_placeRow, .inl (cI, 4, .inl now_placeRow)), (h_now_turnRow, .inl (cI, 4, .inl now_turnRow)), (h_now_wayRow, .inl (cI, 4, .inl now_wayRow)), (h_now_strokeRow, .inl (cI, 16, .inl now_strokeRow))] [(h0, .inr (4, [.ref h_now, .ref h_trial, .ref h_images, .ref h_kept, .ref h_tape, .ref h_sights, .ref h_sheets, .ref h_looks, .int tornFault])), (h_now, .inr (0, [.ref h_now_kindRow, .ref h_now_slackRow, .ref h_now_placeRow, .ref h_now_turnRow, .ref h_now_wayRow, .ref h_now_strokeRow, .int now_arms, .int now_strokes, .int now_hand, .int now_step, .int now_travel, .int now_reversals])), (h_now_kindRow, .inl (cI, 4, .inl now_kindRow)), (h_now_slackRow, .inl (cI, 4, .inl now_slackRow)), (h_now_placeRow, .inl (cI, 4, .inl now_placeRow)), (h_now_turnRow, .inl (cI, 4, .inl now_turnRow)), (h_now_wayRow, .inl (cI, 4, .inl now_wayRow)), (h_now_strokeRow, .inl (cI, 16, .inl now_strokeRow))] r0 := by
  refine xMi_of (cc := cX4_rule) (maxL := 2) (ty := .int) (by decide) rfl (Nat.le_of_ble_eq_true rfl) ?_
  intro p e s m args below meth c A Q ls C hX hl hret
  have hx := C.1.1
  have hb := C.1.2.1
  have hl : lv_has ls 2 [(0, .ref h0), (1, .int p1)] := hl
  unfold fX4_rule at hf
  refine lv_iload_n (pc := 0) hx hb dX4_rule_0 rfl (lv_at hl 1 rfl) ?_
  rcases Decidable.em (p1 = 0) with c1 | c1
  · replace hf := ite_t c1 hf
    refine lv_tableIn (pc := 1) (off := 39) (tgt := 40) hx hb dX4_rule_1 (by rw [c1]; decide) (by rw [c1]; decide) (by rw [c1]; decide) (by decide) ?_
    refine lv_aload_n (pc := 40) hx hb dX4_rule_40 rfl (lv_at hl 0 rfl) ?_
    refine x_getf (pc := 41) (Cn := RX4) (T := TX4) (N := 9) C hX 0 rfl rfl miX4_rule_X4 0 (by decide) mmX4_rule_1 rfl dX4_rule_41 ?_
    refine x_getf (pc := 44) (Cn := RX0) (T := TX0) (N := 12) C hX 1 rfl rfl miX4_rule_X0 6 (by decide) mmX4_rule_2 rfl dX4_rule_44 ?_
    obtain ⟨rfl⟩ := re1 hf
    exact hret _ _ _ _ _ rfl rfl hX dX4_rule_47
  · replace hf := ite_f c1 hf
    rcases Decidable.em (p1 = 1) with c2 | c2
    · replace hf := ite_t c2 hf
      refine lv_tableIn (pc := 1) (off := 47) (tgt := 48) hx hb dX4_rule_1 (by rw [c2]; decide) (by rw [c2]; decide) (by rw [c2]; decide) (by decide) ?_
      refine lv_aload_n (pc := 48) hx hb dX4_rule_48 rfl (lv_at hl 0 rfl) ?_
      refine x_getf (pc := 49) (Cn := RX4) (T := TX4) (N := 9) C hX 0 rfl rfl miX4_rule_X4 0 (by decide) mmX4_rule_1 rfl dX4_rule_49 ?_
      refine x_getf (pc := 52) (Cn := RX0) (T := TX0) (N := 12) C hX 1 rfl rfl miX4_rule_X0 7 (by decide) mmX4_rule_3 rfl dX4_rule_52 ?_
      obtain ⟨rfl⟩ := re1 hf
      exact hret _ _ _ _ _ rfl rfl hX dX4_rule_55
    · replace hf := ite_f c2 hf
      rcases Decidable.em (p1 = 2) with c3 | c3
      · replace hf := ite_t c3 hf
        refine lv_tableIn (pc := 1) (off := 55) (tgt := 56) hx hb dX4_rule_1 (by rw [c3]; decide) (by rw [c3]; decide) (by rw [c3]; decide) (by decide) ?_
        refine lv_aload_n (pc := 56) hx hb dX4_rule_56 rfl (lv_at hl 0 rfl) ?_
        refine x_getf (pc := 57) (Cn := RX4) (T := TX4) (N := 9) C hX 0 rfl rfl miX4_rule_X4 0 (by decide) mmX4_rule_1 rfl dX4_rule_57 ?_
        refine x_getf (pc := 60) (Cn := RX0) (T := TX0) (N := 12) C hX 1 rfl rfl miX4_rule_X0 9 (by decide) mmX4_rule_4 rfl dX4_rule_60 ?_
        obtain ⟨rfl⟩ := re1 hf
        exact hret _ _ _ _ _ rfl rfl hX dX4_rule_63
      · replace hf := ite_f c3 hf
        rcases Decidable.em (p1 = 3) with c4 | c4
        · replace hf := ite_t c4 hf
          refine lv_tableIn (pc := 1) (off := 63) (tgt := 64) hx hb dX4_rule_1 (by rw [c4]; decide) (by rw [c4]; decide) (by rw [c4]; decide) (by decide) ?_
          refine lv_ldc (pc := 64) hx hb C.1.2.2.2.1 (C.1.2.2.2.2 _ mmX4_rule_5) dX4_rule_64 ?_
          refine lv_aload_n (pc := 66) hx hb dX4_rule_66 rfl (lv_at hl 0 rfl) ?_
          refine x_getf (pc := 67) (Cn := RX4) (T := TX4) (N := 9) C hX 0 rfl rfl miX4_rule_X4 0 (by decide) mmX4_rule_1 rfl dX4_rule_67 ?_
          refine x_getf (pc := 70) (Cn := RX0) (T := TX0) (N := 12) C hX 1 rfl rfl miX4_rule_X0 8 (by decide) mmX4_rule_6 rfl dX4_rule_70 ?_
          refine lv_iadd (pc := 73) hx hb dX4_rule_73 ?_
          obtain ⟨rfl⟩ := re1 hf
          exact hret _ _ _ _ _ rfl rfl hX dX4_rule_74
        · replace hf := ite_f c4 hf
          rcases Decidable.em (p1 = 4) with c5 | c5
          · replace hf := ite_t c5 hf
            refine lv_tableIn (pc := 1) (off := 74) (tgt := 75) hx hb dX4_rule_1 (by rw [c5]; decide) (by rw [c5]; decide) (by rw [c5]; decide) (by decide) ?_
            refine lv_aload_n (pc := 75) hx hb dX4_rule_75 rfl (lv_at hl 0 rfl) ?_
            refine x_getf (pc := 76) (Cn := RX4) (T := TX4) (N := 9) C hX 0 rfl rfl miX4_rule_X4 0 (by decide) mmX4_rule_1 rfl dX4_rule_76 ?_
            obtain ⟨r6, g7, hf⟩ := cl1_adv hf
            refine x_callVi (pc := 79) (rest := []) (w2 := [(h0, .inr (4, [.ref h_now, .ref h_trial, .ref h_images, .ref h_kept, .ref h_tape, .ref h_sights, .ref h_sheets, .ref h_looks, .int tornFault])), (h_now, .inr (0, [.ref h_now_kindRow, .ref h_now_slackRow, .ref h_now_placeRow, .ref h_now_turnRow, .ref h_now_wayRow, .ref h_now_strokeRow, .int now_arms, .int now_strokes, .int now_hand, .int now_step, .int now_travel, .int now_reversals])), (h_now_kindRow, .inl (cI, 4, .inl now_kindRow)), (h_now_slackRow, .inl (cI, 4, .inl now_slackRow)), (h_now_placeRow, .inl (cI, 4, .inl now_placeRow)), (h_now_turnRow, .inl (cI, 4, .inl now_turnRow)), (h_now_wayRow, .inl (cI, 4, .inl now_wayRow)), (h_now_strokeRow, .inl (cI, 16, .inl now_strokeRow))]) C hX (kX0_error ad l D cI cB cZ cG cS h_now h_now_kindRow h_now_slackRow h_now_placeRow h_now_turnRow h_now_wayRow h_now_strokeRow now_arms now_strokes now_hand now_step now_travel now_reversals now_kindRow now_slackRow now_placeRow now_turnRow now_wayRow now_strokeRow r6 g7) (cwV 0 C.1.2.2.2.2 gX4_rule_X0_error rfl rfl rfl (by decide +kernel) ⟨Nat.le_of_ble_eq_true rfl, Nat.le_of_ble_eq_true rfl⟩) [1, 2, 3, 4, 5, 6, 7] [0] [0, 1, 2, 3, 4, 5, 6, 7] rfl rfl rfl rfl (by decide) rfl rfl 0 rfl rfl rfl hl.1 rfl rfl (Nat.le_of_ble_eq_true rfl) dX4_rule_79 (fun H locs hX => ?_)
            obtain ⟨rfl⟩ := re1 hf
            exact hret _ _ _ _ _ rfl rfl hX dX4_rule_82
          · replace hf := ite_f c5 hf
            rcases Decidable.em (p1 = 5) with c8 | c8
            · replace hf := ite_t c8 hf
              refine lv_tableIn (pc := 1) (off := 82) (tgt := 83) hx hb dX4_rule_1 (by rw [c8]; decide) (by rw [c8]; decide) (by rw [c8]; decide) (by decide) ?_
              refine lv_aload_n (pc := 83) hx hb dX4_rule_83 rfl (lv_at hl 0 rfl) ?_
              refine x_getf (pc := 84) (Cn := RX4) (T := TX4) (N := 9) C hX 0 rfl rfl miX4_rule_X4 0 (by decide) mmX4_rule_1 rfl dX4_rule_84 ?_
              refine x_getf (pc := 87) (Cn := RX0) (T := TX0) (N := 12) C hX 1 rfl rfl miX4_rule_X0 7 (by decide) mmX4_rule_3 rfl dX4_rule_87 ?_
              refine lv_if_ne (pc := 90) (tgt := 98) hx hb dX4_rule_90 (by decide) (fun c9 => ?_) (fun c9 => ?_)
              · replace hf := ite_f c9 hf
                refine lv_bipush (pc := 98) (v := 10) hx hb dX4_rule_98 (by decide) ?_
                refine lv_aload_n (pc := 100) hx hb dX4_rule_100 rfl (lv_at hl 0 rfl) ?_
                refine x_getf (pc := 101) (Cn := RX4) (T := TX4) (N := 9) C hX 0 rfl rfl miX4_rule_X4 0 (by decide) mmX4_rule_1 rfl dX4_rule_101 ?_
                refine x_getf (pc := 104) (Cn := RX0) (T := TX0) (N := 12) C hX 1 rfl rfl miX4_rule_X0 5 (by decide) mmX4_rule_7 rfl dX4_rule_104 ?_
                refine lv_aload_n (pc := 107) hx hb dX4_rule_107 rfl (lv_at hl 0 rfl) ?_
                refine x_getf (pc := 108) (Cn := RX4) (T := TX4) (N := 9) C hX 0 rfl rfl miX4_rule_X4 0 (by decide) mmX4_rule_1 rfl dX4_rule_108 ?_
                obtain ⟨r10, g11, hf⟩ := cl1_adv hf
                refine x_callVi (pc := 111) (rest := [.ref h_now_strokeRow, .int (10 : Int32)]) (w2 := [(h0, .inr (4, [.ref h_now, .ref h_trial, .ref h_images, .ref h_kept, .ref h_tape, .ref h_sights, .ref h_sheets, .ref h_looks, .int tornFault])), (h_now, .inr (0, [.ref h_now_kindRow, .ref h_now_slackRow, .ref h_now_placeRow, .ref h_now_turnRow, .ref h_now_wayRow, .ref h_now_strokeRow, .int now_arms, .int now_strokes, .int now_hand, .int now_step, .int now_travel, .int now_reversals])), (h_now_kindRow, .inl (cI, 4, .inl now_kindRow)), (h_now_slackRow, .inl (cI, 4, .inl now_slackRow)), (h_now_placeRow, .inl (cI, 4, .inl now_placeRow)), (h_now_turnRow, .inl (cI, 4, .inl now_turnRow)), (h_now_wayRow, .inl (cI, 4, .inl now_wayRow)), (h_now_strokeRow, .inl (cI, 16, .inl now_strokeRow))]) C hX (kX0_strokeInTurn ad l D cI cB cZ cG cS h_now h_now_kindRow h_now_slackRow h_now_placeRow h_now_turnRow h_now_wayRow h_now_strokeRow now_arms now_strokes now_hand now_step now_travel now_reversals now_kindRow now_slackRow now_placeRow now_turnRow now_wayRow now_strokeRow r10 g11) (cwV 0 C.1.2.2.2.2 gX4_rule_X0_strokeInTurn rfl rfl rfl (by decide +kernel) ⟨Nat.le_of_ble_eq_true rfl, Nat.le_of_ble_eq_true rfl⟩) [1, 2, 3, 4, 5, 6, 7] [0] [0, 1, 2, 3, 4, 5, 6, 7] rfl rfl rfl rfl (by decide) rfl rfl 0 rfl rfl rfl hl.1 rfl rfl (Nat.le_of_ble_eq_true rfl) dX4_rule_111 (fun H locs hX => ?_)
                replace hf := chk_adv hf
                have i12 := hf.1
                replace hf := hf.2
                refine x_iald (pc := 114) C hX 7 0 rfl rfl i12 dX4_rule_114 ?_
                refine lv_iadd (pc := 115) hx hb dX4_rule_115 ?_
                obtain ⟨rfl⟩ := re1 hf
                exact hret _ _ _ _ _ rfl rfl hX dX4_rule_116
              · replace hf := ite_t c9 hf
                refine lv_bipush (pc := 93) (v := -4) hx hb dX4_rule_93 (by decide) ?_
                refine lv_goto (pc := 95) (tgt := 116) hx hb dX4_rule_95 (by decide) ?_
                obtain ⟨rfl⟩ := re1 hf
                exact hret _ _ _ _ _ rfl rfl hX dX4_rule_116
            · replace hf := ite_f c8 hf
              refine lv_tableOut (pc := 1) (tgt := 117) hx hb dX4_rule_1 (by have := tbl_ne (n := 0) (by decide) c1; have := tbl_ne (n := 1) (by decide) c2; have := tbl_ne (n := 2) (by decide) c3; have := tbl_ne (n := 3) (by decide) c4; have := tbl_ne (n := 4) (by decide) c5; have := tbl_ne (n := 5) (by decide) c8; omega) (by decide) ?_
              refine lv_iconst (pc := 117) (v := -1) hx hb dX4_rule_117 (by decide) ?_
              obtain ⟨rfl⟩ := re1 hf
              exact hret _ _ _ _ _ rfl rfl hX dX4_rule_118
theorem mmX4_isArm_1 : Cond.fieldLink RX4 10 "SlackArms" "now" "LSlackArms$Gear;" ∈ wsX4_isArm := List.mem_of_getElem? (i := 1) rfl
theorem miX4_isArm_X4 : ∀ w ∈ u_ws RX4 TX4 9, w ∈ wsX4_isArm := fun w h => List.mem_cons_of_mem _ (List.mem_append_left _ (List.mem_append_right _ h))
theorem mmX4_isArm_2 : Cond.fieldLink RX4 84 "SlackArms$Gear" "arms" "I" ∈ wsX4_isArm := List.mem_of_getElem? (i := 2) rfl
theorem miX4_isArm_X0 : ∀ w ∈ u_ws RX0 TX0 12, w ∈ wsX4_isArm := fun w h => List.mem_cons_of_mem _ (List.mem_append_right _ h)
set_option maxHeartbeats 4000000 in
set_option maxRecDepth 100000 in
theorem kX4_isArm (ad : xAd) (l : Launch) (D : va_G) (cI cB cZ cG cS : ClassId) (h0 h_now h_trial h_images h_kept h_tape h_sights h_sheets h_looks h_now_kindRow h_now_slackRow h_now_placeRow h_now_turnRow h_now_wayRow h_now_strokeRow : Nat) (tornFault : Int32) (now_arms : Int32) (now_strokes : Int32) (now_hand : Int32) (now_step : Int32) (now_travel : Int32) (now_reversals : Int32) (now_kindRow : (Nat → Int32)) (now_slackRow : (Nat → Int32)) (now_placeRow : (Nat → Int32)) (now_turnRow : (Nat → Int32)) (now_wayRow : (Nat → Int32)) (now_strokeRow : (Nat → Int32)) (r0 : Int32) (p1 : Int32) (hf : fX4_isArm p1 now_arms = some r0) : xMi ad l yX4_isArm wsX4_isArm ({ frames := 1, cells := 0, slots := 0, locals := 22 } : Room) D (xTY cI cB cZ cG cS) [.ref h0, .int p1] [(h0, .inr (4, [.ref h_now, .ref h_trial, .ref h_images, .ref h_kept, .ref h_tape, .ref h_sights, .ref h_sheets, .ref h_looks, .int tornFault])), (h_now, .inr (0, [.ref h_now_kindRow, .ref h_now_slackRow, .ref h_now_placeRow, .ref h_now_turnRow, .ref h_now_wayRow, .ref h_now_strokeRow, .int now_arms, .int now_strokes, .int now_hand, .int now_step, .int now_travel, .int now_reversals])), (h_now_kindRow, .inl (cI, 4, .inl now_kindRow)), (h_now_slackRow, .inl (cI, 4, .inl now_slackRow)), (h_now_placeRow, .inl (cI, 4, .inl now_placeRow)), (h_now_turnRow, .inl (cI, 4, .inl now_turnRow)), (h_now_wayRow, .inl (cI, 4, .inl now_wayRow)), (h_now_strokeRow, .inl (cI, 16, .inl now_strokeRow))] [(h0, .inr (4, [.ref h_now, .ref h_trial, .ref h_images, .ref h_kept, .ref h_tape, .ref h_sights, .ref h_sheets, .ref h_looks, .int tornFault])), (h_now, .inr (0, [.ref h_now_kindRow, .ref h_now_slackRow, .ref h_now_placeRow, .ref h_now_turnRow, .ref h_now_wayRow, .ref h_now_strokeRow, .int now_arms, .int now_strokes, .int now_hand, .int now_step, .int now_travel, .int now_reversals])), (h_now_kindRow, .inl (cI, 4, .inl now_kindRow)), (h_now_slackRow, .inl (cI, 4, .inl now_slackRow)), (h_now_placeRow, .inl (cI, 4, .inl now_placeRow)), (h_now_turnRow, .inl (cI, 4, .inl now_turnRow)), (h_now_wayRow, .inl (cI, 4, .inl now_wayRow)), (h_now_strokeRow, .inl (cI, 16, .inl now_strokeRow))] r0 := by
  refine xMi_of (cc := cX4_isArm) (maxL := 2) (ty := .boolean) (by decide) rfl (Nat.le_of_ble_eq_true rfl) ?_
  intro p e s m args below meth c A Q ls C hX hl hret
  have hx := C.1.1
  have hb := C.1.2.1
  have hl : lv_has ls 2 [(0, .ref h0), (1, .int p1)] := hl
  unfold fX4_isArm at hf
  refine lv_iload_n (pc := 0) hx hb dX4_isArm_0 rfl (lv_at hl 1 rfl) ?_
  refine lv_iconst (pc := 1) (v := 0) hx hb dX4_isArm_1 (by decide) ?_
  refine lv_aload_n (pc := 2) hx hb dX4_isArm_2 rfl (lv_at hl 0 rfl) ?_
  refine x_getf (pc := 3) (Cn := RX4) (T := TX4) (N := 9) C hX 0 rfl rfl miX4_isArm_X4 0 (by decide) mmX4_isArm_1 rfl dX4_isArm_3 ?_
  refine x_getf (pc := 6) (Cn := RX0) (T := TX0) (N := 12) C hX 1 rfl rfl miX4_isArm_X0 6 (by decide) mmX4_isArm_2 rfl dX4_isArm_6 ?_
  refine lv_iconst (pc := 9) (v := 1) hx hb dX4_isArm_9 (by decide) ?_
  refine lv_isub (pc := 10) hx hb dX4_isArm_10 ?_
  obtain ⟨r1, g2, hf⟩ := cl1_adv hf
  refine x_callSi (pc := 11) (rest := []) C hX (kX4_within ad l D cI cB cZ cG cS r1 p1 (0 : Int32) (now_arms - (1 : Int32)) g2) (va_cwS 3 C.1.2.2.2.2 gX4_isArm_X4_within rfl rfl rfl (by decide +kernel) ⟨Nat.le_of_ble_eq_true rfl, Nat.le_of_ble_eq_true rfl⟩) hl.1 rfl rfl (Nat.le_of_ble_eq_true rfl) dX4_isArm_11 (fun H locs hX => ?_)
  replace hf := chk_adv hf
  have i3 := hf.1
  replace hf := hf.2
  obtain ⟨rfl⟩ := re1 hf
  exact hret _ _ _ _ _ rfl (xbz_nar i3) hX dX4_isArm_14
theorem mmX4_arm_1 : Cond.fieldLink RX4 10 "SlackArms" "now" "LSlackArms$Gear;" ∈ wsX4_arm := List.mem_of_getElem? (i := 1) rfl
theorem miX4_arm_X4 : ∀ w ∈ u_ws RX4 TX4 9, w ∈ wsX4_arm := fun w h => List.mem_cons_of_mem _ (List.mem_append_left _ (List.mem_append_right _ h))
theorem mmX4_arm_2 : Cond.fieldLink RX4 110 "SlackArms$Gear" "kindRow" "[I" ∈ wsX4_arm := List.mem_of_getElem? (i := 2) rfl
theorem miX4_arm_X0 : ∀ w ∈ u_ws RX0 TX0 12, w ∈ wsX4_arm := fun w h => List.mem_cons_of_mem _ (List.mem_append_right _ h)
theorem mmX4_arm_3 : Cond.fieldLink RX4 113 "SlackArms$Gear" "slackRow" "[I" ∈ wsX4_arm := List.mem_of_getElem? (i := 3) rfl
theorem mmX4_arm_4 : Cond.constant RX4 93 (200000) ∈ wsX4_arm := List.mem_of_getElem? (i := 4) rfl
theorem mmX4_arm_5 : Cond.fieldLink RX4 116 "SlackArms$Gear" "placeRow" "[I" ∈ wsX4_arm := List.mem_of_getElem? (i := 5) rfl
theorem mmX4_arm_6 : Cond.fieldLink RX4 119 "SlackArms$Gear" "turnRow" "[I" ∈ wsX4_arm := List.mem_of_getElem? (i := 6) rfl
theorem mmX4_arm_7 : Cond.fieldLink RX4 122 "SlackArms$Gear" "wayRow" "[I" ∈ wsX4_arm := List.mem_of_getElem? (i := 7) rfl
set_option maxHeartbeats 4000000 in
set_option maxRecDepth 100000 in
theorem kX4_arm (ad : xAd) (l : Launch) (D : va_G) (cI cB cZ cG cS : ClassId) (h0 h_now h_trial h_images h_kept h_tape h_sights h_sheets h_looks h_now_kindRow h_now_slackRow h_now_placeRow h_now_turnRow h_now_wayRow h_now_strokeRow : Nat) (tornFault : Int32) (now_arms : Int32) (now_strokes : Int32) (now_hand : Int32) (now_step : Int32) (now_travel : Int32) (now_reversals : Int32) (now_kindRow : (Nat → Int32)) (now_slackRow : (Nat → Int32)) (now_placeRow : (Nat → Int32)) (now_turnRow : (Nat → Int32)) (now_wayRow : (Nat → Int32)) (now_strokeRow : (Nat → Int32)) (r0 : Int32) (p1 : Int32) (p2 : Int32) (hf : fX4_arm p1 p2 now_arms now_kindRow now_slackRow now_placeRow now_turnRow now_wayRow = some r0) : xMi ad l yX4_arm wsX4_arm ({ frames := 2, cells := 0, slots := 0, locals := 43 } : Room) D (xTY cI cB cZ cG cS) [.ref h0, .int p1, .int p2] [(h0, .inr (4, [.ref h_now, .ref h_trial, .ref h_images, .ref h_kept, .ref h_tape, .ref h_sights, .ref h_sheets, .ref h_looks, .int tornFault])), (h_now, .inr (0, [.ref h_now_kindRow, .ref h_now_slackRow, .ref h_now_placeRow, .ref h_now_turnRow, .ref h_now_wayRow, .ref h_now_strokeRow, .int now_arms, .int now_strokes, .int now_hand, .int now_step, .int now_travel, .int now_reversals])), (h_now_kindRow, .inl (cI, 4, .inl now_kindRow)), (h_now_slackRow, .inl (cI, 4, .inl now_slackRow)), (h_now_placeRow, .inl (cI, 4, .inl now_placeRow)), (h_now_turnRow, .inl (cI, 4, .inl now_turnRow)), (h_now_wayRow, .inl (cI, 4, .inl now_wayRow)), (h_now_strokeRow, .inl (cI, 16, .inl now_strokeRow))] [(h0, .inr (4, [.ref h_now, .ref h_trial, .ref h_images, .ref h_kept, .ref h_tape, .ref h_sights, .ref h_sheets, .ref h_looks, .int tornFault])), (h_now, .inr (0, [.ref h_now_kindRow, .ref h_now_slackRow, .ref h_now_placeRow, .ref h_now_turnRow, .ref h_now_wayRow, .ref h_now_strokeRow, .int now_arms, .int now_strokes, .int now_hand, .int now_step, .int now_travel, .int now_reversals])), (h_now_kindRow, .inl (cI, 4, .inl now_kindRow)), (h_now_slackRow, .inl (cI, 4, .inl now_slackRow)), (h_now_placeRow, .inl (cI, 4, .inl now_placeRow)), (h_now_turnRow, .inl (cI, 4, .inl now_turnRow)), (h_now_wayRow, .inl (cI, 4, .inl now_wayRow)), (h_now_strokeRow, .inl (cI, 16, .inl now_strokeRow))] r0 := by
  refine xMi_of (cc := cX4_arm) (maxL := 3) (ty := .int) (by decide) rfl (Nat.le_of_ble_eq_true rfl) ?_
  intro p e s m args below meth c A Q ls C hX hl hret
  have hx := C.1.1
  have hb := C.1.2.1
  have hl : lv_has ls 3 [(0, .ref h0), (1, .int p1), (2, .int p2)] := hl
  unfold fX4_arm at hf
  refine lv_aload_n (pc := 0) hx hb dX4_arm_0 rfl (lv_at hl 0 rfl) ?_
  refine lv_iload_n (pc := 1) hx hb dX4_arm_1 rfl (lv_at hl 1 rfl) ?_
  obtain ⟨r1, g2, hf⟩ := cl1_adv hf
  refine x_callVi (pc := 2) (rest := []) (w2 := [(h0, .inr (4, [.ref h_now, .ref h_trial, .ref h_images, .ref h_kept, .ref h_tape, .ref h_sights, .ref h_sheets, .ref h_looks, .int tornFault])), (h_now, .inr (0, [.ref h_now_kindRow, .ref h_now_slackRow, .ref h_now_placeRow, .ref h_now_turnRow, .ref h_now_wayRow, .ref h_now_strokeRow, .int now_arms, .int now_strokes, .int now_hand, .int now_step, .int now_travel, .int now_reversals])), (h_now_kindRow, .inl (cI, 4, .inl now_kindRow)), (h_now_slackRow, .inl (cI, 4, .inl now_slackRow)), (h_now_placeRow, .inl (cI, 4, .inl now_placeRow)), (h_now_turnRow, .inl (cI, 4, .inl now_turnRow)), (h_now_wayRow, .inl (cI, 4, .inl now_wayRow)), (h_now_strokeRow, .inl (cI, 16, .inl now_strokeRow))]) C hX (kX4_isArm ad l D cI cB cZ cG cS h0 h_now h_trial h_images h_kept h_tape h_sights h_sheets h_looks h_now_kindRow h_now_slackRow h_now_placeRow h_now_turnRow h_now_wayRow h_now_strokeRow tornFault now_arms now_strokes now_hand now_step now_travel now_reversals now_kindRow now_slackRow now_placeRow now_turnRow now_wayRow now_strokeRow r1 p1 g2) (cwV 1 C.1.2.2.2.2 gX4_arm_X4_isArm rfl rfl rfl (by decide +kernel) ⟨Nat.le_of_ble_eq_true rfl, Nat.le_of_ble_eq_true rfl⟩) [0, 1, 2, 3, 4, 5, 6, 7] [] [0, 1, 2, 3, 4, 5, 6, 7] rfl rfl rfl rfl (by decide) rfl rfl 0 rfl rfl rfl hl.1 rfl rfl (Nat.le_of_ble_eq_true rfl) dX4_arm_2 (fun H locs hX => ?_)
  refine lv_if_ne (pc := 5) (tgt := 10) hx hb dX4_arm_5 (by decide) (fun c3 => ?_) (fun c3 => ?_)
  · replace hf := ite_f c3 hf
    refine lv_iload_n (pc := 10) hx hb dX4_arm_10 rfl (lv_at hl 2 rfl) ?_
    rcases Decidable.em (p2 = 0) with c4 | c4
    · replace hf := ite_t c4 hf
      refine lv_tableIn (pc := 11) (off := 37) (tgt := 48) hx hb dX4_arm_11 (by rw [c4]; decide) (by rw [c4]; decide) (by rw [c4]; decide) (by decide) ?_
      refine lv_aload_n (pc := 48) hx hb dX4_arm_48 rfl (lv_at hl 0 rfl) ?_
      refine x_getf (pc := 49) (Cn := RX4) (T := TX4) (N := 9) C hX 0 rfl rfl miX4_arm_X4 0 (by decide) mmX4_arm_1 rfl dX4_arm_49 ?_
      refine x_getf (pc := 52) (Cn := RX0) (T := TX0) (N := 12) C hX 1 rfl rfl miX4_arm_X0 0 (by decide) mmX4_arm_2 rfl dX4_arm_52 ?_
      refine lv_iload_n (pc := 55) hx hb dX4_arm_55 rfl (lv_at hl 1 rfl) ?_
      replace hf := chk_adv hf
      have i5 := hf.1
      replace hf := hf.2
      refine x_iald (pc := 56) C hX 2 0 rfl rfl i5 dX4_arm_56 ?_
      obtain ⟨rfl⟩ := re1 hf
      exact hret _ _ _ _ _ rfl rfl hX dX4_arm_57
    · replace hf := ite_f c4 hf
      rcases Decidable.em (p2 = 1) with c6 | c6
      · replace hf := ite_t c6 hf
        refine lv_tableIn (pc := 11) (off := 47) (tgt := 58) hx hb dX4_arm_11 (by rw [c6]; decide) (by rw [c6]; decide) (by rw [c6]; decide) (by decide) ?_
        refine lv_aload_n (pc := 58) hx hb dX4_arm_58 rfl (lv_at hl 0 rfl) ?_
        refine x_getf (pc := 59) (Cn := RX4) (T := TX4) (N := 9) C hX 0 rfl rfl miX4_arm_X4 0 (by decide) mmX4_arm_1 rfl dX4_arm_59 ?_
        refine x_getf (pc := 62) (Cn := RX0) (T := TX0) (N := 12) C hX 1 rfl rfl miX4_arm_X0 1 (by decide) mmX4_arm_3 rfl dX4_arm_62 ?_
        refine lv_iload_n (pc := 65) hx hb dX4_arm_65 rfl (lv_at hl 1 rfl) ?_
        replace hf := chk_adv hf
        have i7 := hf.1
        replace hf := hf.2
        refine x_iald (pc := 66) C hX 3 0 rfl rfl i7 dX4_arm_66 ?_
        obtain ⟨rfl⟩ := re1 hf
        exact hret _ _ _ _ _ rfl rfl hX dX4_arm_67
      · replace hf := ite_f c6 hf
        rcases Decidable.em (p2 = 2) with c8 | c8
        · replace hf := ite_t c8 hf
          refine lv_tableIn (pc := 11) (off := 57) (tgt := 68) hx hb dX4_arm_11 (by rw [c8]; decide) (by rw [c8]; decide) (by rw [c8]; decide) (by decide) ?_
          refine lv_ldc (pc := 68) hx hb C.1.2.2.2.1 (C.1.2.2.2.2 _ mmX4_arm_4) dX4_arm_68 ?_
          refine lv_aload_n (pc := 70) hx hb dX4_arm_70 rfl (lv_at hl 0 rfl) ?_
          refine x_getf (pc := 71) (Cn := RX4) (T := TX4) (N := 9) C hX 0 rfl rfl miX4_arm_X4 0 (by decide) mmX4_arm_1 rfl dX4_arm_71 ?_
          refine x_getf (pc := 74) (Cn := RX0) (T := TX0) (N := 12) C hX 1 rfl rfl miX4_arm_X0 2 (by decide) mmX4_arm_5 rfl dX4_arm_74 ?_
          refine lv_iload_n (pc := 77) hx hb dX4_arm_77 rfl (lv_at hl 1 rfl) ?_
          replace hf := chk_adv hf
          have i9 := hf.1
          replace hf := hf.2
          refine x_iald (pc := 78) C hX 4 0 rfl rfl i9 dX4_arm_78 ?_
          refine lv_iadd (pc := 79) hx hb dX4_arm_79 ?_
          obtain ⟨rfl⟩ := re1 hf
          exact hret _ _ _ _ _ rfl rfl hX dX4_arm_80
        · replace hf := ite_f c8 hf
          rcases Decidable.em (p2 = 3) with c10 | c10
          · replace hf := ite_t c10 hf
            refine lv_tableIn (pc := 11) (off := 70) (tgt := 81) hx hb dX4_arm_11 (by rw [c10]; decide) (by rw [c10]; decide) (by rw [c10]; decide) (by decide) ?_
            refine lv_aload_n (pc := 81) hx hb dX4_arm_81 rfl (lv_at hl 0 rfl) ?_
            refine x_getf (pc := 82) (Cn := RX4) (T := TX4) (N := 9) C hX 0 rfl rfl miX4_arm_X4 0 (by decide) mmX4_arm_1 rfl dX4_arm_82 ?_
            refine x_getf (pc := 85) (Cn := RX0) (T := TX0) (N := 12) C hX 1 rfl rfl miX4_arm_X0 3 (by decide) mmX4_arm_6 rfl dX4_arm_85 ?_
            refine lv_iload_n (pc := 88) hx hb dX4_arm_88 rfl (lv_at hl 1 rfl) ?_
            replace hf := chk_adv hf
            have i11 := hf.1
            replace hf := hf.2
            refine x_iald (pc := 89) C hX 5 0 rfl rfl i11 dX4_arm_89 ?_
            obtain ⟨rfl⟩ := re1 hf
            exact hret _ _ _ _ _ rfl rfl hX dX4_arm_90
          · replace hf := ite_f c10 hf
            rcases Decidable.em (p2 = 4) with c12 | c12
            · replace hf := ite_t c12 hf
              refine lv_tableIn (pc := 11) (off := 80) (tgt := 91) hx hb dX4_arm_11 (by rw [c12]; decide) (by rw [c12]; decide) (by rw [c12]; decide) (by decide) ?_
              refine lv_iconst (pc := 91) (v := 1) hx hb dX4_arm_91 (by decide) ?_
              refine lv_aload_n (pc := 92) hx hb dX4_arm_92 rfl (lv_at hl 0 rfl) ?_
              refine x_getf (pc := 93) (Cn := RX4) (T := TX4) (N := 9) C hX 0 rfl rfl miX4_arm_X4 0 (by decide) mmX4_arm_1 rfl dX4_arm_93 ?_
              refine x_getf (pc := 96) (Cn := RX0) (T := TX0) (N := 12) C hX 1 rfl rfl miX4_arm_X0 4 (by decide) mmX4_arm_7 rfl dX4_arm_96 ?_
              refine lv_iload_n (pc := 99) hx hb dX4_arm_99 rfl (lv_at hl 1 rfl) ?_
              replace hf := chk_adv hf
              have i13 := hf.1
              replace hf := hf.2
              refine x_iald (pc := 100) C hX 6 0 rfl rfl i13 dX4_arm_100 ?_
              refine lv_iadd (pc := 101) hx hb dX4_arm_101 ?_
              obtain ⟨rfl⟩ := re1 hf
              exact hret _ _ _ _ _ rfl rfl hX dX4_arm_102
            · replace hf := ite_f c12 hf
              rcases Decidable.em (p2 = 5) with c14 | c14
              · replace hf := ite_t c14 hf
                refine lv_tableIn (pc := 11) (off := 92) (tgt := 103) hx hb dX4_arm_11 (by rw [c14]; decide) (by rw [c14]; decide) (by rw [c14]; decide) (by decide) ?_
                refine lv_aload_n (pc := 103) hx hb dX4_arm_103 rfl (lv_at hl 0 rfl) ?_
                refine x_getf (pc := 104) (Cn := RX4) (T := TX4) (N := 9) C hX 0 rfl rfl miX4_arm_X4 0 (by decide) mmX4_arm_1 rfl dX4_arm_104 ?_
                refine lv_iload_n (pc := 107) hx hb dX4_arm_107 rfl (lv_at hl 1 rfl) ?_
                obtain ⟨r15, g16, hf⟩ := cl1_adv hf
                refine x_callVi (pc := 108) (rest := []) (w2 := [(h0, .inr (4, [.ref h_now, .ref h_trial, .ref h_images, .ref h_kept, .ref h_tape, .ref h_sights, .ref h_sheets, .ref h_looks, .int tornFault])), (h_now, .inr (0, [.ref h_now_kindRow, .ref h_now_slackRow, .ref h_now_placeRow, .ref h_now_turnRow, .ref h_now_wayRow, .ref h_now_strokeRow, .int now_arms, .int now_strokes, .int now_hand, .int now_step, .int now_travel, .int now_reversals])), (h_now_kindRow, .inl (cI, 4, .inl now_kindRow)), (h_now_slackRow, .inl (cI, 4, .inl now_slackRow)), (h_now_placeRow, .inl (cI, 4, .inl now_placeRow)), (h_now_turnRow, .inl (cI, 4, .inl now_turnRow)), (h_now_wayRow, .inl (cI, 4, .inl now_wayRow)), (h_now_strokeRow, .inl (cI, 16, .inl now_strokeRow))]) C hX (kX0_playOf ad l D cI cB cZ cG cS h_now h_now_kindRow h_now_slackRow h_now_placeRow h_now_turnRow h_now_wayRow h_now_strokeRow now_arms now_strokes now_hand now_step now_travel now_reversals now_kindRow now_slackRow now_placeRow now_turnRow now_wayRow now_strokeRow r15 p1 g16) (cwV 1 C.1.2.2.2.2 gX4_arm_X0_playOf rfl rfl rfl (by decide +kernel) ⟨Nat.le_of_ble_eq_true rfl, Nat.le_of_ble_eq_true rfl⟩) [1, 2, 3, 4, 5, 6, 7] [0] [0, 1, 2, 3, 4, 5, 6, 7] rfl rfl rfl rfl (by decide) rfl rfl 0 rfl rfl rfl hl.1 rfl rfl (Nat.le_of_ble_eq_true rfl) dX4_arm_108 (fun H locs hX => ?_)
                obtain ⟨rfl⟩ := re1 hf
                exact hret _ _ _ _ _ rfl rfl hX dX4_arm_111
              · replace hf := ite_f c14 hf
                refine lv_tableOut (pc := 11) (tgt := 112) hx hb dX4_arm_11 (by have := tbl_ne (n := 0) (by decide) c4; have := tbl_ne (n := 1) (by decide) c6; have := tbl_ne (n := 2) (by decide) c8; have := tbl_ne (n := 3) (by decide) c10; have := tbl_ne (n := 4) (by decide) c12; have := tbl_ne (n := 5) (by decide) c14; omega) (by decide) ?_
                refine lv_iconst (pc := 112) (v := -1) hx hb dX4_arm_112 (by decide) ?_
                obtain ⟨rfl⟩ := re1 hf
                exact hret _ _ _ _ _ rfl rfl hX dX4_arm_113
  · replace hf := ite_t c3 hf
    refine lv_iconst (pc := 8) (v := -1) hx hb dX4_arm_8 (by decide) ?_
    obtain ⟨rfl⟩ := re1 hf
    exact hret _ _ _ _ _ rfl rfl hX dX4_arm_9
theorem mmX4_isStroke_1 : Cond.fieldLink RX4 10 "SlackArms" "now" "LSlackArms$Gear;" ∈ wsX4_isStroke := List.mem_of_getElem? (i := 1) rfl
theorem miX4_isStroke_X4 : ∀ w ∈ u_ws RX4 TX4 9, w ∈ wsX4_isStroke := fun w h => List.mem_cons_of_mem _ (List.mem_append_left _ (List.mem_append_right _ h))
theorem mmX4_isStroke_2 : Cond.fieldLink RX4 87 "SlackArms$Gear" "strokes" "I" ∈ wsX4_isStroke := List.mem_of_getElem? (i := 2) rfl
theorem miX4_isStroke_X0 : ∀ w ∈ u_ws RX0 TX0 12, w ∈ wsX4_isStroke := fun w h => List.mem_cons_of_mem _ (List.mem_append_right _ h)
set_option maxHeartbeats 4000000 in
set_option maxRecDepth 100000 in
theorem kX4_isStroke (ad : xAd) (l : Launch) (D : va_G) (cI cB cZ cG cS : ClassId) (h0 h_now h_trial h_images h_kept h_tape h_sights h_sheets h_looks h_now_kindRow h_now_slackRow h_now_placeRow h_now_turnRow h_now_wayRow h_now_strokeRow : Nat) (tornFault : Int32) (now_arms : Int32) (now_strokes : Int32) (now_hand : Int32) (now_step : Int32) (now_travel : Int32) (now_reversals : Int32) (now_kindRow : (Nat → Int32)) (now_slackRow : (Nat → Int32)) (now_placeRow : (Nat → Int32)) (now_turnRow : (Nat → Int32)) (now_wayRow : (Nat → Int32)) (now_strokeRow : (Nat → Int32)) (r0 : Int32) (p1 : Int32) (hf : fX4_isStroke p1 now_strokes = some r0) : xMi ad l yX4_isStroke wsX4_isStroke ({ frames := 1, cells := 0, slots := 0, locals := 22 } : Room) D (xTY cI cB cZ cG cS) [.ref h0, .int p1] [(h0, .inr (4, [.ref h_now, .ref h_trial, .ref h_images, .ref h_kept, .ref h_tape, .ref h_sights, .ref h_sheets, .ref h_looks, .int tornFault])), (h_now, .inr (0, [.ref h_now_kindRow, .ref h_now_slackRow, .ref h_now_placeRow, .ref h_now_turnRow, .ref h_now_wayRow, .ref h_now_strokeRow, .int now_arms, .int now_strokes, .int now_hand, .int now_step, .int now_travel, .int now_reversals])), (h_now_kindRow, .inl (cI, 4, .inl now_kindRow)), (h_now_slackRow, .inl (cI, 4, .inl now_slackRow)), (h_now_placeRow, .inl (cI, 4, .inl now_placeRow)), (h_now_turnRow, .inl (cI, 4, .inl now_turnRow)), (h_now_wayRow, .inl (cI, 4, .inl now_wayRow)), (h_now_strokeRow, .inl (cI, 16, .inl now_strokeRow))] [(h0, .inr (4, [.ref h_now, .ref h_trial, .ref h_images, .ref h_kept, .ref h_tape, .ref h_sights, .ref h_sheets, .ref h_looks, .int tornFault])), (h_now, .inr (0, [.ref h_now_kindRow, .ref h_now_slackRow, .ref h_now_placeRow, .ref h_now_turnRow, .ref h_now_wayRow, .ref h_now_strokeRow, .int now_arms, .int now_strokes, .int now_hand, .int now_step, .int now_travel, .int now_reversals])), (h_now_kindRow, .inl (cI, 4, .inl now_kindRow)), (h_now_slackRow, .inl (cI, 4, .inl now_slackRow)), (h_now_placeRow, .inl (cI, 4, .inl now_placeRow)), (h_now_turnRow, .inl (cI, 4, .inl now_turnRow)), (h_now_wayRow, .inl (cI, 4, .inl now_wayRow)), (h_now_strokeRow, .inl (cI, 16, .inl now_strokeRow))] r0 := by
  refine xMi_of (cc := cX4_isStroke) (maxL := 2) (ty := .boolean) (by decide) rfl (Nat.le_of_ble_eq_true rfl) ?_
  intro p e s m args below meth c A Q ls C hX hl hret
  have hx := C.1.1
  have hb := C.1.2.1
  have hl : lv_has ls 2 [(0, .ref h0), (1, .int p1)] := hl
  unfold fX4_isStroke at hf
  refine lv_iload_n (pc := 0) hx hb dX4_isStroke_0 rfl (lv_at hl 1 rfl) ?_
  refine lv_iconst (pc := 1) (v := 0) hx hb dX4_isStroke_1 (by decide) ?_
  refine lv_aload_n (pc := 2) hx hb dX4_isStroke_2 rfl (lv_at hl 0 rfl) ?_
  refine x_getf (pc := 3) (Cn := RX4) (T := TX4) (N := 9) C hX 0 rfl rfl miX4_isStroke_X4 0 (by decide) mmX4_isStroke_1 rfl dX4_isStroke_3 ?_
  refine x_getf (pc := 6) (Cn := RX0) (T := TX0) (N := 12) C hX 1 rfl rfl miX4_isStroke_X0 7 (by decide) mmX4_isStroke_2 rfl dX4_isStroke_6 ?_
  refine lv_iconst (pc := 9) (v := 1) hx hb dX4_isStroke_9 (by decide) ?_
  refine lv_isub (pc := 10) hx hb dX4_isStroke_10 ?_
  obtain ⟨r1, g2, hf⟩ := cl1_adv hf
  refine x_callSi (pc := 11) (rest := []) C hX (kX4_within ad l D cI cB cZ cG cS r1 p1 (0 : Int32) (now_strokes - (1 : Int32)) g2) (va_cwS 3 C.1.2.2.2.2 gX4_isStroke_X4_within rfl rfl rfl (by decide +kernel) ⟨Nat.le_of_ble_eq_true rfl, Nat.le_of_ble_eq_true rfl⟩) hl.1 rfl rfl (Nat.le_of_ble_eq_true rfl) dX4_isStroke_11 (fun H locs hX => ?_)
  replace hf := chk_adv hf
  have i3 := hf.1
  replace hf := hf.2
  obtain ⟨rfl⟩ := re1 hf
  exact hret _ _ _ _ _ rfl (xbz_nar i3) hX dX4_isStroke_14
theorem mmX4_stroke_1 : Cond.fieldLink RX4 10 "SlackArms" "now" "LSlackArms$Gear;" ∈ wsX4_stroke := List.mem_of_getElem? (i := 1) rfl
theorem miX4_stroke_X4 : ∀ w ∈ u_ws RX4 TX4 9, w ∈ wsX4_stroke := fun w h => List.mem_cons_of_mem _ (List.mem_append_left _ (List.mem_append_right _ h))
theorem mmX4_stroke_2 : Cond.fieldLink RX4 101 "SlackArms$Gear" "strokeRow" "[I" ∈ wsX4_stroke := List.mem_of_getElem? (i := 2) rfl
theorem miX4_stroke_X0 : ∀ w ∈ u_ws RX0 TX0 12, w ∈ wsX4_stroke := fun w h => List.mem_cons_of_mem _ (List.mem_append_right _ h)
set_option maxHeartbeats 4000000 in
set_option maxRecDepth 100000 in
theorem kX4_stroke (ad : xAd) (l : Launch) (D : va_G) (cI cB cZ cG cS : ClassId) (h0 h_now h_trial h_images h_kept h_tape h_sights h_sheets h_looks h_now_kindRow h_now_slackRow h_now_placeRow h_now_turnRow h_now_wayRow h_now_strokeRow : Nat) (tornFault : Int32) (now_arms : Int32) (now_strokes : Int32) (now_hand : Int32) (now_step : Int32) (now_travel : Int32) (now_reversals : Int32) (now_kindRow : (Nat → Int32)) (now_slackRow : (Nat → Int32)) (now_placeRow : (Nat → Int32)) (now_turnRow : (Nat → Int32)) (now_wayRow : (Nat → Int32)) (now_strokeRow : (Nat → Int32)) (r0 : Int32) (p1 : Int32) (hf : fX4_stroke p1 now_strokes now_strokeRow = some r0) : xMi ad l yX4_stroke wsX4_stroke ({ frames := 2, cells := 0, slots := 0, locals := 43 } : Room) D (xTY cI cB cZ cG cS) [.ref h0, .int p1] [(h0, .inr (4, [.ref h_now, .ref h_trial, .ref h_images, .ref h_kept, .ref h_tape, .ref h_sights, .ref h_sheets, .ref h_looks, .int tornFault])), (h_now, .inr (0, [.ref h_now_kindRow, .ref h_now_slackRow, .ref h_now_placeRow, .ref h_now_turnRow, .ref h_now_wayRow, .ref h_now_strokeRow, .int now_arms, .int now_strokes, .int now_hand, .int now_step, .int now_travel, .int now_reversals])), (h_now_kindRow, .inl (cI, 4, .inl now_kindRow)), (h_now_slackRow, .inl (cI, 4, .inl now_slackRow)), (h_now_placeRow, .inl (cI, 4, .inl now_placeRow)), (h_now_turnRow, .inl (cI, 4, .inl now_turnRow)), (h_now_wayRow, .inl (cI, 4, .inl now_wayRow)), (h_now_strokeRow, .inl (cI, 16, .inl now_strokeRow))] [(h0, .inr (4, [.ref h_now, .ref h_trial, .ref h_images, .ref h_kept, .ref h_tape, .ref h_sights, .ref h_sheets, .ref h_looks, .int tornFault])), (h_now, .inr (0, [.ref h_now_kindRow, .ref h_now_slackRow, .ref h_now_placeRow, .ref h_now_turnRow, .ref h_now_wayRow, .ref h_now_strokeRow, .int now_arms, .int now_strokes, .int now_hand, .int now_step, .int now_travel, .int now_reversals])), (h_now_kindRow, .inl (cI, 4, .inl now_kindRow)), (h_now_slackRow, .inl (cI, 4, .inl now_slackRow)), (h_now_placeRow, .inl (cI, 4, .inl now_placeRow)), (h_now_turnRow, .inl (cI, 4, .inl now_turnRow)), (h_now_wayRow, .inl (cI, 4, .inl now_wayRow)), (h_now_strokeRow, .inl (cI, 16, .inl now_strokeRow))] r0 := by
  refine xMi_of (cc := cX4_stroke) (maxL := 2) (ty := .int) (by decide) rfl (Nat.le_of_ble_eq_true rfl) ?_
  intro p e s m args below meth c A Q ls C hX hl hret
  have hx := C.1.1
  have hb := C.1.2.1
  have hl : lv_has ls 2 [(0, .ref h0), (1, .int p1)] := hl
  unfold fX4_stroke at hf
  refine lv_aload_n (pc := 0) hx hb dX4_stroke_0 rfl (lv_at hl 0 rfl) ?_
  refine lv_iload_n (pc := 1) hx hb dX4_stroke_1 rfl (lv_at hl 1 rfl) ?_
  obtain ⟨r1, g2, hf⟩ := cl1_adv hf
  refine x_callVi (pc := 2) (rest := []) (w2 := [(h0, .inr (4, [.ref h_now, .ref h_trial, .ref h_images, .ref h_kept, .ref h_tape, .ref h_sights, .ref h_sheets, .ref h_looks, .int tornFault])), (h_now, .inr (0, [.ref h_now_kindRow, .ref h_now_slackRow, .ref h_now_placeRow, .ref h_now_turnRow, .ref h_now_wayRow, .ref h_now_strokeRow, .int now_arms, .int now_strokes, .int now_hand, .int now_step, .int now_travel, .int now_reversals])), (h_now_kindRow, .inl (cI, 4, .inl now_kindRow)), (h_now_slackRow, .inl (cI, 4, .inl now_slackRow)), (h_now_placeRow, .inl (cI, 4, .inl now_placeRow)), (h_now_turnRow, .inl (cI, 4, .inl now_turnRow)), (h_now_wayRow, .inl (cI, 4, .inl now_wayRow)), (h_now_strokeRow, .inl (cI, 16, .inl now_strokeRow))]) C hX (kX4_isStroke ad l D cI cB cZ cG cS h0 h_now h_trial h_images h_kept h_tape h_sights h_sheets h_looks h_now_kindRow h_now_slackRow h_now_placeRow h_now_turnRow h_now_wayRow h_now_strokeRow tornFault now_arms now_strokes now_hand now_step now_travel now_reversals now_kindRow now_slackRow now_placeRow now_turnRow now_wayRow now_strokeRow r1 p1 g2) (cwV 1 C.1.2.2.2.2 gX4_stroke_X4_isStroke rfl rfl rfl (by decide +kernel) ⟨Nat.le_of_ble_eq_true rfl, Nat.le_of_ble_eq_true rfl⟩) [0, 1, 2, 3, 4, 5, 6, 7] [] [0, 1, 2, 3, 4, 5, 6, 7] rfl rfl rfl rfl (by decide) rfl rfl 0 rfl rfl rfl hl.1 rfl rfl (Nat.le_of_ble_eq_true rfl) dX4_stroke_2 (fun H locs hX => ?_)
  refine lv_if_eq (pc := 5) (tgt := 23) hx hb dX4_stroke_5 (by decide) (fun c3 => ?_) (fun c3 => ?_)
  · replace hf := ite_t c3 hf
    refine lv_iconst (pc := 23) (v := -1) hx hb dX4_stroke_23 (by decide) ?_
    obtain ⟨rfl⟩ := re1 hf
    exact hret _ _ _ _ _ rfl rfl hX dX4_stroke_24
  · replace hf := ite_f c3 hf
    refine lv_bipush (pc := 8) (v := 10) hx hb dX4_stroke_8 (by decide) ?_
    refine lv_aload_n (pc := 10) hx hb dX4_stroke_10 rfl (lv_at hl 0 rfl) ?_
    refine x_getf (pc := 11) (Cn := RX4) (T := TX4) (N := 9) C hX 0 rfl rfl miX4_stroke_X4 0 (by decide) mmX4_stroke_1 rfl dX4_stroke_11 ?_
    refine x_getf (pc := 14) (Cn := RX0) (T := TX0) (N := 12) C hX 1 rfl rfl miX4_stroke_X0 5 (by decide) mmX4_stroke_2 rfl dX4_stroke_14 ?_
    refine lv_iload_n (pc := 17) hx hb dX4_stroke_17 rfl (lv_at hl 1 rfl) ?_
    replace hf := chk_adv hf
    have i4 := hf.1
    replace hf := hf.2
    refine x_iald (pc := 18) C hX 7 0 rfl rfl i4 dX4_stroke_18 ?_
    refine lv_iadd (pc := 19) hx hb dX4_stroke_19 ?_
    refine lv_goto (pc := 20) (tgt := 24) hx hb dX4_stroke_20 (by decide) ?_
    obtain ⟨rfl⟩ := re1 hf
    exact hret _ _ _ _ _ rfl rfl hX dX4_stroke_24
theorem mmX4_alter_1 : Cond.fieldLink RX4 10 "SlackArms" "now" "LSlackArms$Gear;" ∈ wsX4_alter := List.mem_of_getElem? (i := 1) rfl
theorem miX4_alter_X4 : ∀ w ∈ u_ws RX4 TX4 9, w ∈ wsX4_alter := fun w h => List.mem_cons_of_mem _ (List.mem_append_left _ (List.mem_append_right _ h))
set_option maxHeartbeats 4000000 in
set_option maxRecDepth 100000 in
theorem kX4_alter (ad : xAd) (l : Launch) (D : va_G) (cI cB cZ cG cS : ClassId) (h0 h_now h_trial h_images h_kept h_tape h_sights h_sheets h_looks h_now_kindRow h_now_slackRow h_now_placeRow h_now_turnRow h_now_wayRow h_now_strokeRow : Nat) (tornFault : Int32) (now_arms : Int32) (now_strokes : Int32) (now_hand : Int32) (now_step : Int32) (now_travel : Int32) (now_reversals : Int32) (now_kindRow : (Nat → Int32)) (now_slackRow : (Nat → Int32)) (now_placeRow : (Nat → Int32)) (now_turnRow : (Nat → Int32)) (now_wayRow : (Nat → Int32)) (now_strokeRow : (Nat → Int32)) (r0 : Int32) (o_now_kindRow' : (Nat → Int32)) (o_now_slackRow' : (Nat → Int32)) (o_now_turnRow' : (Nat → Int32)) (p1 : Int32) (p2 : Int32) (p3 : Int32) (hf : fX4_alter p1 p2 p3 now_arms now_kindRow now_slackRow now_turnRow = some (r0, o_now_kindRow', o_now_slackRow', o_now_turnRow')) : xMi ad l yX4_alter wsX4_alter ({ frames := 2, cells := 0, slots := 0, locals := 43 } : Room) D (xTY cI cB cZ cG cS) [.ref h0, .int p1, .int p2, .int p3] [(h0, .inr (4, [.ref h_now, .ref h_trial, .ref h_images, .ref h_kept, .ref h_tape, .ref h_sights, .ref h_sheets, .ref h_looks, .int tornFault])), (h_now, .inr (0, [.ref h_now_kindRow, .ref h_now_slackRow, .ref h_now_placeRow, .ref h_now_turnRow, .ref h_now_wayRow, .ref h_now_strokeRow, .int now_arms, .int now_strokes, .int now_hand, .int now_step, .int now_travel, .int now_reversals])), (h_now_kindRow, .inl (cI, 4, .inl now_kindRow)), (h_now_slackRow, .inl (cI, 4, .inl now_slackRow)), (h_now_placeRow, .inl (cI, 4, .inl now_placeRow)), (h_now_turnRow, .inl (cI, 4, .inl now_turnRow)), (h_now_wayRow, .inl (cI, 4, .inl now_wayRow)), (h_now_strokeRow, .inl (cI, 16, .inl now_strokeRow))] [(h0, .inr (4, [.ref h_now, .ref h_trial, .ref h_images, .ref h_kept, .ref h_tape, .ref h_sights, .ref h_sheets, .ref h_looks, .int tornFault])), (h_now, .inr (0, [.ref h_now_kindRow, .ref h_now_slackRow, .ref h_now_placeRow, .ref h_now_turnRow, .ref h_now_wayRow, .ref h_now_strokeRow, .int now_arms, .int now_strokes, .int now_hand, .int now_step, .int now_travel, .int now_reversals])), (h_now_kindRow, .inl (cI, 4, .inl o_now_kindRow')), (h_now_slackRow, .inl (cI, 4, .inl o_now_slackRow')), (h_now_placeRow, .inl (cI, 4, .inl now_placeRow)), (h_now_turnRow, .inl (cI, 4, .inl o_now_turnRow')), (h_now_wayRow, .inl (cI, 4, .inl now_wayRow)), (h_now_strokeRow, .inl (cI, 16, .inl now_strokeRow))] r0 := by
  refine xMi_of (cc := cX4_alter) (maxL := 5) (ty := .int) (by decide) rfl (Nat.le_of_ble_eq_true rfl) ?_
  intro p e s m args below meth c A Q ls C hX hl hret
  have hx := C.1.1
  have hb := C.1.2.1
  have hl : lv_has ls 5 [(0, .ref h0), (1, .int p1), (2, .int p2), (3, .int p3)] := hl
  unfold fX4_alter at hf
  refine lv_aload_n (pc := 0) hx hb dX4_alter_0 rfl (lv_at hl 0 rfl) ?_
  refine lv_iload_n (pc := 1) hx hb dX4_alter_1 rfl (lv_at hl 1 rfl) ?_
  obtain ⟨r1, g2, hf⟩ := cl1_adv hf
  refine x_callVi (pc := 2) (rest := []) (w2 := [(h0, .inr (4, [.ref h_now, .ref h_trial, .ref h_images, .ref h_kept, .ref h_tape, .ref h_sights, .ref h_sheets, .ref h_looks, .int tornFault])), (h_now, .inr (0, [.ref h_now_kindRow, .ref h_now_slackRow, .ref h_now_placeRow, .ref h_now_turnRow, .ref h_now_wayRow, .ref h_now_strokeRow, .int now_arms, .int now_strokes, .int now_hand, .int now_step, .int now_travel, .int now_reversals])), (h_now_kindRow, .inl (cI, 4, .inl now_kindRow)), (h_now_slackRow, .inl (cI, 4, .inl now_slackRow)), (h_now_placeRow, .inl (cI, 4, .inl now_placeRow)), (h_now_turnRow, .inl (cI, 4, .inl now_turnRow)), (h_now_wayRow, .inl (cI, 4, .inl now_wayRow)), (h_now_strokeRow, .inl (cI, 16, .inl now_strokeRow))]) C hX (kX4_isArm ad l D cI cB cZ cG cS h0 h_now h_trial h_images h_kept h_tape h_sights h_sheets h_looks h_now_kindRow h_now_slackRow h_now_placeRow h_now_turnRow h_now_wayRow h_now_strokeRow tornFault now_arms now_strokes now_hand now_step now_travel now_reversals now_kindRow now_slackRow now_placeRow now_turnRow now_wayRow now_strokeRow r1 p1 g2) (cwV 1 C.1.2.2.2.2 gX4_alter_X4_isArm rfl rfl rfl (by decide +kernel) ⟨Nat.le_of_ble_eq_true rfl, Nat.le_of_ble_eq_true rfl⟩) [0, 1, 2, 3, 4, 5, 6, 7] [] [0, 1, 2, 3, 4, 5, 6, 7] rfl rfl rfl rfl (by decide) rfl rfl 0 rfl rfl rfl hl.1 rfl rfl (Nat.le_of_ble_eq_true rfl) dX4_alter_2 (fun H locs hX => ?_)
  refine lv_if_eq (pc := 5) (tgt := 29) hx hb dX4_alter_5 (by decide) (fun c3 => ?_) (fun c3 => ?_)
  · replace hf := ite_t c3 hf
    refine lv_iconst (pc := 29) (v := -1) hx hb dX4_alter_29 (by decide) ?_
    obtain ⟨rfl, rfl, rfl, rfl⟩ := re4 hf
    exact hret _ _ _ _ _ rfl rfl hX dX4_alter_30
  · replace hf := ite_f c3 hf
    refine lv_iload_n (pc := 8) hx hb dX4_alter_8 rfl (lv_at hl 2 rfl) ?_
    refine lv_iconst (pc := 9) (v := 0) hx hb dX4_alter_9 (by decide) ?_
    refine lv_iconst (pc := 10) (v := 2) hx hb dX4_alter_10 (by decide) ?_
    obtain ⟨r4, g5, hf⟩ := cl1_adv hf
    refine x_callSi (pc := 11) (rest := []) C hX (kX4_within ad l D cI cB cZ cG cS r4 p2 (0 : Int32) (2 : Int32) g5) (va_cwS 3 C.1.2.2.2.2 gX4_alter_X4_within rfl rfl rfl (by decide +kernel) ⟨Nat.le_of_ble_eq_true rfl, Nat.le_of_ble_eq_true rfl⟩) hl.1 rfl rfl (Nat.le_of_ble_eq_true rfl) dX4_alter_11 (fun H locs hX => ?_)
    refine lv_if_eq (pc := 14) (tgt := 29) hx hb dX4_alter_14 (by decide) (fun c6 => ?_) (fun c6 => ?_)
    · replace hf := ite_t c6 hf
      refine lv_iconst (pc := 29) (v := -1) hx hb dX4_alter_29 (by decide) ?_
      obtain ⟨rfl, rfl, rfl, rfl⟩ := re4 hf
      exact hret _ _ _ _ _ rfl rfl hX dX4_alter_30
    · replace hf := ite_f c6 hf
      refine lv_iload_n (pc := 17) hx hb dX4_alter_17 rfl (lv_at hl 3 rfl) ?_
      refine lv_iconst (pc := 18) (v := 0) hx hb dX4_alter_18 (by decide) ?_
      refine lv_iload_n (pc := 19) hx hb dX4_alter_19 rfl (lv_at hl 2 rfl) ?_
      obtain ⟨r7, g8, hf⟩ := cl1_adv hf
      refine x_callSi (pc := 20) (rest := [.int (0 : Int32), .int p3]) C hX (kX4_mostOf ad l D cI cB cZ cG cS r7 p2 g8) (va_cwS 1 C.1.2.2.2.2 gX4_alter_X4_mostOf rfl rfl rfl (by decide +kernel) ⟨Nat.le_of_ble_eq_true rfl, Nat.le_of_ble_eq_true rfl⟩) hl.1 rfl rfl (Nat.le_of_ble_eq_true rfl) dX4_alter_20 (fun H locs hX => ?_)
      obtain ⟨r9, g10, hf⟩ := cl1_adv hf
      refine x_callSi (pc := 23) (rest := []) C hX (kX4_within ad l D cI cB cZ cG cS r9 p3 (0 : Int32) r7 g10) (va_cwS 3 C.1.2.2.2.2 gX4_alter_X4_within rfl rfl rfl (by decide +kernel) ⟨Nat.le_of_ble_eq_true rfl, Nat.le_of_ble_eq_true rfl⟩) hl.1 rfl rfl (Nat.le_of_ble_eq_true rfl) dX4_alter_23 (fun H locs hX => ?_)
      refine lv_if_ne (pc := 26) (tgt := 31) hx hb dX4_alter_26 (by decide) (fun c11 => ?_) (fun c11 => ?_)
      · replace hf := ite_f c11 hf
        refine lv_aload_n (pc := 31) hx hb dX4_alter_31 rfl (lv_at hl 0 rfl) ?_
        refine x_getf (pc := 32) (Cn := RX4) (T := TX4) (N := 9) C hX 0 rfl rfl miX4_alter_X4 0 (by decide) mmX4_alter_1 rfl dX4_alter_32 ?_
        refine lv_iload_n (pc := 35) hx hb dX4_alter_35 rfl (lv_at hl 1 rfl) ?_
        refine lv_iload_n (pc := 36) hx hb dX4_alter_36 rfl (lv_at hl 2 rfl) ?_
        obtain ⟨r12, g13, hf⟩ := cl1_adv hf
        refine x_callVi (pc := 37) (rest := []) (w2 := [(h0, .inr (4, [.ref h_now, .ref h_trial, .ref h_images, .ref h_kept, .ref h_tape, .ref h_sights, .ref h_sheets, .ref h_looks, .int tornFault])), (h_now, .inr (0, [.ref h_now_kindRow, .ref h_now_slackRow, .ref h_now_placeRow, .ref h_now_turnRow, .ref h_now_wayRow, .ref h_now_strokeRow, .int now_arms, .int now_strokes, .int now_hand, .int now_step, .int now_travel, .int now_reversals])), (h_now_kindRow, .inl (cI, 4, .inl now_kindRow)), (h_now_slackRow, .inl (cI, 4, .inl now_slackRow)), (h_now_placeRow, .inl (cI, 4, .inl now_placeRow)), (h_now_turnRow, .inl (cI, 4, .inl now_turnRow)), (h_now_wayRow, .inl (cI, 4, .inl now_wayRow)), (h_now_strokeRow, .inl (cI, 16, .inl now_strokeRow))]) C hX (kX0_settingOf ad l D cI cB cZ cG cS h_now h_now_kindRow h_now_slackRow h_now_placeRow h_now_turnRow h_now_wayRow h_now_strokeRow now_arms now_strokes now_hand now_step now_travel now_reversals now_kindRow now_slackRow now_placeRow now_turnRow now_wayRow now_strokeRow r12 p1 p2 g13) (cwV 2 C.1.2.2.2.2 gX4_alter_X0_settingOf rfl rfl rfl (by decide +kernel) ⟨Nat.le_of_ble_eq_true rfl, Nat.le_of_ble_eq_true rfl⟩) [1, 2, 3, 4, 5, 6, 7] [0] [0, 1, 2, 3, 4, 5, 6, 7] rfl rfl rfl rfl (by decide) rfl rfl 0 rfl rfl rfl hl.1 rfl rfl (Nat.le_of_ble_eq_true rfl) dX4_alter_37 (fun H locs hX => ?_)
        refine lv_istore (pc := 40) (lv' := [(4, .int r12), (0, .ref h0), (1, .int p1), (2, .int p2), (3, .int p3)]) hx hb dX4_alter_40 hl (by decide) rfl (fun ls hl => ?_)
        refine lv_aload_n (pc := 42) hx hb dX4_alter_42 rfl (lv_at hl 1 rfl) ?_
        refine x_getf (pc := 43) (Cn := RX4) (T := TX4) (N := 9) C hX 0 rfl rfl miX4_alter_X4 0 (by decide) mmX4_alter_1 rfl dX4_alter_43 ?_
        refine lv_iload_n (pc := 46) hx hb dX4_alter_46 rfl (lv_at hl 2 rfl) ?_
        refine lv_iload_n (pc := 47) hx hb dX4_alter_47 rfl (lv_at hl 3 rfl) ?_
        refine lv_iload_n (pc := 48) hx hb dX4_alter_48 rfl (lv_at hl 4 rfl) ?_
        obtain ⟨u14, u15, u16, g17, hf⟩ := cl3_adv hf
        refine x_callVv (pc := 49) (rest := []) (w2 := [(h0, .inr (4, [.ref h_now, .ref h_trial, .ref h_images, .ref h_kept, .ref h_tape, .ref h_sights, .ref h_sheets, .ref h_looks, .int tornFault])), (h_now, .inr (0, [.ref h_now_kindRow, .ref h_now_slackRow, .ref h_now_placeRow, .ref h_now_turnRow, .ref h_now_wayRow, .ref h_now_strokeRow, .int now_arms, .int now_strokes, .int now_hand, .int now_step, .int now_travel, .int now_reversals])), (h_now_kindRow, .inl (cI, 4, .inl u14)), (h_now_slackRow, .inl (cI, 4, .inl u15)), (h_now_placeRow, .inl (cI, 4, .inl now_placeRow)), (h_now_turnRow, .inl (cI, 4, .inl u16)), (h_now_wayRow, .inl (cI, 4, .inl now_wayRow)), (h_now_strokeRow, .inl (cI, 16, .inl now_strokeRow))]) C hX (kX0_changeSetting ad l D cI cB cZ cG cS h_now h_now_kindRow h_now_slackRow h_now_placeRow h_now_turnRow h_now_wayRow h_now_strokeRow now_arms now_strokes now_hand now_step now_travel now_reversals now_kindRow now_slackRow now_placeRow now_turnRow now_wayRow now_strokeRow u14 u15 u16 p1 p2 p3 g17) (cwV 3 C.1.2.2.2.2 gX4_alter_X0_changeSetting rfl rfl rfl (by decide +kernel) ⟨Nat.le_of_ble_eq_true rfl, Nat.le_of_ble_eq_true rfl⟩) [1, 2, 3, 4, 5, 6, 7] [0] [0, 1, 2, 3, 4, 5, 6, 7] rfl rfl rfl rfl (by decide) rfl rfl 0 rfl rfl rfl hl.1 rfl rfl (Nat.le_of_ble_eq_true rfl) dX4_alter_49 (fun H locs hX => ?_)
        refine lv_iload (pc := 52) hx hb dX4_alter_52 (lv_at hl 0 rfl) ?_
        obtain ⟨rfl, rfl, rfl, rfl⟩ := re4 hf
        exact hret _ _ _ _ _ rfl rfl hX dX4_alter_54
      · replace hf := ite_t c11 hf
        refine lv_iconst (pc := 29) (v := -1) hx hb dX4_alter_29 (by decide) ?_
        obtain ⟨rfl, rfl, rfl, rfl⟩ := re4 hf
        exact hret _ _ _ _ _ rfl rfl hX dX4_alter_30
theorem mmX4_hang_1 : Cond.fieldLink RX4 10 "SlackArms" "now" "LSlackArms$Gear;" ∈ wsX4_hang := List.mem_of_getElem? (i := 1) rfl
theorem miX4_hang_X4 : ∀ w ∈ u_ws RX4 TX4 9, w ∈ wsX4_hang := fun w h => List.mem_cons_of_mem _ (List.mem_append_left _ (List.mem_append_right _ h))
theorem mmX4_hang_2 : Cond.fieldLink RX4 84 "SlackArms$Gear" "arms" "I" ∈ wsX4_hang := List.mem_of_getElem? (i := 2) rfl
theorem miX4_hang_X0 : ∀ w ∈ u_ws RX0 TX0 12, w ∈ wsX4_hang := fun w h => List.mem_cons_of_mem _ (List.mem_append_right _ h)
set_option maxHeartbeats 4000000 in
set_option maxRecDepth 100000 in
theorem kX4_hang (ad : xAd) (l : Launch) (D : va_G) (cI cB cZ cG cS : ClassId) (h0 h_now h_trial h_images h_kept h_tape h_sights h_sheets h_looks h_now_kindRow h_now_slackRow h_now_placeRow h_now_turnRow h_now_wayRow h_now_strokeRow : Nat) (tornFault : Int32) (now_arms : Int32) (now_strokes : Int32) (now_hand : Int32) (now_step : Int32) (now_travel : Int32) (now_reversals : Int32) (now_kindRow : (Nat → Int32)) (now_slackRow : (Nat → Int32)) (now_placeRow : (Nat → Int32)) (now_turnRow : (Nat → Int32)) (now_wayRow : (Nat → Int32)) (now_strokeRow : (Nat → Int32)) (r0 : Int32) (o_now_arms' : Int32) (o_now_kindRow' : (Nat → Int32)) (o_now_slackRow' : (Nat → Int32)) (o_now_placeRow' : (Nat → Int32)) (o_now_turnRow' : (Nat → Int32)) (o_now_wayRow' : (Nat → Int32)) (p1 : Int32) (p2 : Int32) (hf : fX4_hang p1 p2 now_arms now_hand now_kindRow now_slackRow now_placeRow now_turnRow now_wayRow = some (r0, o_now_arms', o_now_kindRow', o_now_slackRow', o_now_placeRow', o_now_turnRow', o_now_wayRow')) : xMi ad l yX4_hang wsX4_hang ({ frames := 2, cells := 0, slots := 0, locals := 43 } : Room) D (xTY cI cB cZ cG cS) [.ref h0, .int p1, .int p2] [(h0, .inr (4, [.ref h_now, .ref h_trial, .ref h_images, .ref h_kept, .ref h_tape, .ref h_sights, .ref h_sheets, .ref h_looks, .int tornFault])), (h_now, .inr (0, [.ref h_now_kindRow, .ref h_now_slackRow, .ref h_now_placeRow, .ref h_now_turnRow, .ref h_now_wayRow, .ref h_now_strokeRow, .int now_arms, .int now_strokes, .int now_hand, .int now_step, .int now_travel, .int now_reversals])), (h_now_kindRow, .inl (cI, 4, .inl now_kindRow)), (h_now_slackRow, .inl (cI, 4, .inl now_slackRow)), (h_now_placeRow, .inl (cI, 4, .inl now_placeRow)), (h_now_turnRow, .inl (cI, 4, .inl now_turnRow)), (h_now_wayRow, .inl (cI, 4, .inl now_wayRow)), (h_now_strokeRow, .inl (cI, 16, .inl now_strokeRow))] [(h0, .inr (4, [.ref h_now, .ref h_trial, .ref h_images, .ref h_kept, .ref h_tape, .ref h_sights, .ref h_sheets, .ref h_looks, .int tornFault])), (h_now, .inr (0, [.ref h_now_kindRow, .ref h_now_slackRow, .ref h_now_placeRow, .ref h_now_turnRow, .ref h_now_wayRow, .ref h_now_strokeRow, .int o_now_arms', .int now_strokes, .int now_hand, .int now_step, .int now_travel, .int now_reversals])), (h_now_kindRow, .inl (cI, 4, .inl o_now_kindRow')), (h_now_slackRow, .inl (cI, 4, .inl o_now_slackRow')), (h_now_placeRow, .inl (cI, 4, .inl o_now_placeRow')), (h_now_turnRow, .inl (cI, 4, .inl o_now_turnRow')), (h_now_wayRow, .inl (cI, 4, .inl o_now_wayRow')), (h_now_strokeRow, .inl (cI, 16, .inl now_strokeRow))] r0 := by
  refine xMi_of (cc := cX4_hang) (maxL := 3) (ty := .int) (by decide) rfl (Nat.le_of_ble_eq_true rfl) ?_
  intro p e s m args below meth c A Q ls C hX hl hret
  have hx := C.1.1
  have hb := C.1.2.1
  have hl : lv_has ls 3 [(0, .ref h0), (1, .int p1), (2, .int p2)] := hl
  unfold fX4_hang at hf
  refine lv_iload_n (pc := 0) hx hb dX4_hang_0 rfl (lv_at hl 1 rfl) ?_
  refine lv_iconst (pc := 1) (v := 0) hx hb dX4_hang_1 (by decide) ?_
  refine lv_iconst (pc := 2) (v := 3) hx hb dX4_hang_2 (by decide) ?_
  obtain ⟨r1, g2, hf⟩ := cl1_adv hf
  refine x_callSi (pc := 3) (rest := []) C hX (kX4_within ad l D cI cB cZ cG cS r1 p1 (0 : Int32) (3 : Int32) g2) (va_cwS 3 C.1.2.2.2.2 gX4_hang_X4_within rfl rfl rfl (by decide +kernel) ⟨Nat.le_of_ble_eq_true rfl, Nat.le_of_ble_eq_true rfl⟩) hl.1 rfl rfl (Nat.le_of_ble_eq_true rfl) dX4_hang_3 (fun H locs hX => ?_)
  refine lv_if_eq (pc := 6) (tgt := 19) hx hb dX4_hang_6 (by decide) (fun c3 => ?_) (fun c3 => ?_)
  · replace hf := ite_t c3 hf
    refine lv_iconst (pc := 19) (v := -1) hx hb dX4_hang_19 (by decide) ?_
    obtain ⟨rfl, rfl, rfl, rfl, rfl, rfl, rfl⟩ := re7 hf
    exact hret _ _ _ _ _ rfl rfl hX dX4_hang_20
  · replace hf := ite_f c3 hf
    refine lv_iload_n (pc := 9) hx hb dX4_hang_9 rfl (lv_at hl 2 rfl) ?_
    refine lv_iconst (pc := 10) (v := 0) hx hb dX4_hang_10 (by decide) ?_
    refine lv_bipush (pc := 11) (v := 9) hx hb dX4_hang_11 (by decide) ?_
    obtain ⟨r4, g5, hf⟩ := cl1_adv hf
    refine x_callSi (pc := 13) (rest := []) C hX (kX4_within ad l D cI cB cZ cG cS r4 p2 (0 : Int32) (9 : Int32) g5) (va_cwS 3 C.1.2.2.2.2 gX4_hang_X4_within rfl rfl rfl (by decide +kernel) ⟨Nat.le_of_ble_eq_true rfl, Nat.le_of_ble_eq_true rfl⟩) hl.1 rfl rfl (Nat.le_of_ble_eq_true rfl) dX4_hang_13 (fun H locs hX => ?_)
    refine lv_if_ne (pc := 16) (tgt := 21) hx hb dX4_hang_16 (by decide) (fun c6 => ?_) (fun c6 => ?_)
    · replace hf := ite_f c6 hf
      refine lv_aload_n (pc := 21) hx hb dX4_hang_21 rfl (lv_at hl 0 rfl) ?_
      refine x_getf (pc := 22) (Cn := RX4) (T := TX4) (N := 9) C hX 0 rfl rfl miX4_hang_X4 0 (by decide) mmX4_hang_1 rfl dX4_hang_22 ?_
      refine lv_iload_n (pc := 25) hx hb dX4_hang_25 rfl (lv_at hl 1 rfl) ?_
      refine lv_iload_n (pc := 26) hx hb dX4_hang_26 rfl (lv_at hl 2 rfl) ?_
      obtain ⟨r7, u8, u9, u10, u11, u12, u13, g14, hf⟩ := cl7_adv hf
      refine x_callVi (pc := 27) (rest := []) (w2 := [(h0, .inr (4, [.ref h_now, .ref h_trial, .ref h_images, .ref h_kept, .ref h_tape, .ref h_sights, .ref h_sheets, .ref h_looks, .int tornFault])), (h_now, .inr (0, [.ref h_now_kindRow, .ref h_now_slackRow, .ref h_now_placeRow, .ref h_now_turnRow, .ref h_now_wayRow, .ref h_now_strokeRow, .int u8, .int now_strokes, .int now_hand, .int now_step, .int now_travel, .int now_reversals])), (h_now_kindRow, .inl (cI, 4, .inl u9)), (h_now_slackRow, .inl (cI, 4, .inl u10)), (h_now_placeRow, .inl (cI, 4, .inl u11)), (h_now_turnRow, .inl (cI, 4, .inl u12)), (h_now_wayRow, .inl (cI, 4, .inl u13)), (h_now_strokeRow, .inl (cI, 16, .inl now_strokeRow))]) C hX (kX0_appendArm ad l D cI cB cZ cG cS h_now h_now_kindRow h_now_slackRow h_now_placeRow h_now_turnRow h_now_wayRow h_now_strokeRow now_arms now_strokes now_hand now_step now_travel now_reversals now_kindRow now_slackRow now_placeRow now_turnRow now_wayRow now_strokeRow r7 u8 u9 u10 u11 u12 u13 p1 p2 g14) (cwV 2 C.1.2.2.2.2 gX4_hang_X0_appendArm rfl rfl rfl (by decide +kernel) ⟨Nat.le_of_ble_eq_true rfl, Nat.le_of_ble_eq_true rfl⟩) [1, 2, 3, 4, 5, 6, 7] [0] [0, 1, 2, 3, 4, 5, 6, 7] rfl rfl rfl rfl (by decide) rfl rfl 0 rfl rfl rfl hl.1 rfl rfl (Nat.le_of_ble_eq_true rfl) dX4_hang_27 (fun H locs hX => ?_)
      refine lv_if_eq (pc := 30) (tgt := 43) hx hb dX4_hang_30 (by decide) (fun c15 => ?_) (fun c15 => ?_)
      · replace hf := ite_t c15 hf
        refine lv_bipush (pc := 43) (v := -3) hx hb dX4_hang_43 (by decide) ?_
        obtain ⟨rfl, rfl, rfl, rfl, rfl, rfl, rfl⟩ := re7 hf
        exact hret _ _ _ _ _ rfl rfl hX dX4_hang_45
      · replace hf := ite_f c15 hf
        refine lv_aload_n (pc := 33) hx hb dX4_hang_33 rfl (lv_at hl 0 rfl) ?_
        refine x_getf (pc := 34) (Cn := RX4) (T := TX4) (N := 9) C hX 0 rfl rfl miX4_hang_X4 0 (by decide) mmX4_hang_1 rfl dX4_hang_34 ?_
        refine x_getf (pc := 37) (Cn := RX0) (T := TX0) (N := 12) C hX 1 rfl rfl miX4_hang_X0 6 (by decide) mmX4_hang_2 rfl dX4_hang_37 ?_
        refine lv_goto (pc := 40) (tgt := 45) hx hb dX4_hang_40 (by decide) ?_
        obtain ⟨rfl, rfl, rfl, rfl, rfl, rfl, rfl⟩ := re7 hf
        exact hret _ _ _ _ _ rfl rfl hX dX4_hang_45
    · replace hf := ite_t c6 hf
      refine lv_iconst (pc := 19) (v := -1) hx hb dX4_hang_19 (by decide) ?_
      obtain ⟨rfl, rfl, rfl, rfl, rfl, rfl, rfl⟩ := re7 hf
      exact hret _ _ _ _ _ rfl rfl hX dX4_hang_20
theorem mmX4_cut_1 : Cond.fieldLink RX4 10 "SlackArms" "now" "LSlackArms$Gear;" ∈ wsX4_cut := List.mem_of_getElem? (i := 1) rfl
theorem miX4_cut_X4 : ∀ w ∈ u_ws RX4 TX4 9, w ∈ wsX4_cut := fun w h => List.mem_cons_of_mem _ (List.mem_append_left _ (List.mem_append_right _ h))
theorem mmX4_cut_2 : Cond.fieldLink RX4 84 "SlackArms$Gear" "arms" "I" ∈ wsX4_cut := List.mem_of_getElem? (i := 2) rfl
theorem miX4_cut_X0 : ∀ w ∈ u_ws RX0 TX0 12, w ∈ wsX4_cut := fun w h => List.mem_cons_of_mem _ (List.mem_append_right _ h)
set_option maxHeartbeats 4000000 in
set_option maxRecDepth 100000 in
theorem kX4_cut (ad : xAd) (l : Launch) (D : va_G) (cI cB cZ cG cS : ClassId) (h0 h_now h_trial h_images h_kept h_tape h_sights h_sheets h_looks h_now_kindRow h_now_slackRow h_now_placeRow h_now_turnRow h_now_wayRow h_now_strokeRow : Nat) (tornFault : Int32) (now_arms : Int32) (now_strokes : Int32) (now_hand : Int32) (now_step : Int32) (now_travel : Int32) (now_reversals : Int32) (now_kindRow : (Nat → Int32)) (now_slackRow : (Nat → Int32)) (now_placeRow : (Nat → Int32)) (now_turnRow : (Nat → Int32)) (now_wayRow : (Nat → Int32)) (now_strokeRow : (Nat → Int32)) (r0 : Int32) (o_now_arms' : Int32) (p1 : Int32) (hf : fX4_cut p1 now_arms = some (r0, o_now_arms')) : xMi ad l yX4_cut wsX4_cut ({ frames := 1, cells := 0, slots := 0, locals := 22 } : Room) D (xTY cI cB cZ cG cS) [.ref h0, .int p1] [(h0, .inr (4, [.ref h_now, .ref h_trial, .ref h_images, .ref h_kept, .ref h_tape, .ref h_sights, .ref h_sheets, .ref h_looks, .int tornFault])), (h_now, .inr (0, [.ref h_now_kindRow, .ref h_now_slackRow, .ref h_now_placeRow, .ref h_now_turnRow, .ref h_now_wayRow, .ref h_now_strokeRow, .int now_arms, .int now_strokes, .int now_hand, .int now_step, .int now_travel, .int now_reversals])), (h_now_kindRow, .inl (cI, 4, .inl now_kindRow)), (h_now_slackRow, .inl (cI, 4, .inl now_slackRow)), (h_now_placeRow, .inl (cI, 4, .inl now_placeRow)), (h_now_turnRow, .inl (cI, 4, .inl now_turnRow)), (h_now_wayRow, .inl (cI, 4, .inl now_wayRow)), (h_now_strokeRow, .inl (cI, 16, .inl now_strokeRow))] [(h0, .inr (4, [.ref h_now, .ref h_trial, .ref h_images, .ref h_kept, .ref h_tape, .ref h_sights, .ref h_sheets, .ref h_looks, .int tornFault])), (h_now, .inr (0, [.ref h_now_kindRow, .ref h_now_slackRow, .ref h_now_placeRow, .ref h_now_turnRow, .ref h_now_wayRow, .ref h_now_strokeRow, .int o_now_arms', .int now_strokes, .int now_hand, .int now_step, .int now_travel, .int now_reversals])), (h_now_kindRow, .inl (cI, 4, .inl now_kindRow)), (h_now_slackRow, .inl (cI, 4, .inl now_slackRow)), (h_now_placeRow, .inl (cI, 4, .inl now_placeRow)), (h_now_turnRow, .inl (cI, 4, .inl now_turnRow)), (h_now_wayRow, .inl (cI, 4, .inl now_wayRow)), (h_now_strokeRow, .inl (cI, 16, .inl now_strokeRow))] r0 := by
  refine xMi_of (cc := cX4_cut) (maxL := 3) (ty := .int) (by decide) rfl (Nat.le_of_ble_eq_true rfl) ?_
  intro p e s m args below meth c A Q ls C hX hl hret
  have hx := C.1.1
  have hb := C.1.2.1
  have hl : lv_has ls 3 [(0, .ref h0), (1, .int p1)] := hl
  unfold fX4_cut at hf
  refine lv_iload_n (pc := 0) hx hb dX4_cut_0 rfl (lv_at hl 1 rfl) ?_
  refine lv_iconst (pc := 1) (v := 0) hx hb dX4_cut_1 (by decide) ?_
  refine lv_aload_n (pc := 2) hx hb dX4_cut_2 rfl (lv_at hl 0 rfl) ?_
  refine x_getf (pc := 3) (Cn := RX4) (T := TX4) (N := 9) C hX 0 rfl rfl miX4_cut_X4 0 (by decide) mmX4_cut_1 rfl dX4_cut_3 ?_
  refine x_getf (pc := 6) (Cn := RX0) (T := TX0) (N := 12) C hX 1 rfl rfl miX4_cut_X0 6 (by decide) mmX4_cut_2 rfl dX4_cut_6 ?_
  obtain ⟨r1, g2, hf⟩ := cl1_adv hf
  refine x_callSi (pc := 9) (rest := []) C hX (kX4_within ad l D cI cB cZ cG cS r1 p1 (0 : Int32) now_arms g2) (va_cwS 3 C.1.2.2.2.2 gX4_cut_X4_within rfl rfl rfl (by decide +kernel) ⟨Nat.le_of_ble_eq_true rfl, Nat.le_of_ble_eq_true rfl⟩) hl.1 rfl rfl (Nat.le_of_ble_eq_true rfl) dX4_cut_9 (fun H locs hX => ?_)
  refine lv_if_ne (pc := 12) (tgt := 17) hx hb dX4_cut_12 (by decide) (fun c3 => ?_) (fun c3 => ?_)
  · replace hf := ite_f c3 hf
    refine lv_aload_n (pc := 17) hx hb dX4_cut_17 rfl (lv_at hl 0 rfl) ?_
    refine x_getf (pc := 18) (Cn := RX4) (T := TX4) (N := 9) C hX 0 rfl rfl miX4_cut_X4 0 (by decide) mmX4_cut_1 rfl dX4_cut_18 ?_
    refine x_getf (pc := 21) (Cn := RX0) (T := TX0) (N := 12) C hX 1 rfl rfl miX4_cut_X0 6 (by decide) mmX4_cut_2 rfl dX4_cut_21 ?_
    refine lv_istore_n (pc := 24) (lv' := [(2, .int now_arms), (0, .ref h0), (1, .int p1)]) hx hb dX4_cut_24 rfl hl (by decide) rfl (fun ls hl => ?_)
    refine lv_aload_n (pc := 25) hx hb dX4_cut_25 rfl (lv_at hl 1 rfl) ?_
    refine x_getf (pc := 26) (Cn := RX4) (T := TX4) (N := 9) C hX 0 rfl rfl miX4_cut_X4 0 (by decide) mmX4_cut_1 rfl dX4_cut_26 ?_
    refine lv_iload_n (pc := 29) hx hb dX4_cut_29 rfl (lv_at hl 2 rfl) ?_
    refine x_putf (pc := 30) (Cn := RX0) (T := TX0) (N := 12) C hX tyX0 tyX0_ok nmX0 1 rfl rfl miX4_cut_X0 6 (by decide) mmX4_cut_2 rfl rfl (Nat.le_of_ble_eq_true rfl) [(h0, .inr (4, [.ref h_now, .ref h_trial, .ref h_images, .ref h_kept, .ref h_tape, .ref h_sights, .ref h_sheets, .ref h_looks, .int tornFault])), (h_now, .inr (0, [.ref h_now_kindRow, .ref h_now_slackRow, .ref h_now_placeRow, .ref h_now_turnRow, .ref h_now_wayRow, .ref h_now_strokeRow, .int p1, .int now_strokes, .int now_hand, .int now_step, .int now_travel, .int now_reversals])), (h_now_kindRow, .inl (cI, 4, .inl now_kindRow)), (h_now_slackRow, .inl (cI, 4, .inl now_slackRow)), (h_now_placeRow, .inl (cI, 4, .inl now_placeRow)), (h_now_turnRow, .inl (cI, 4, .inl now_turnRow)), (h_now_wayRow, .inl (cI, 4, .inl now_wayRow)), (h_now_strokeRow, .inl (cI, 16, .inl now_strokeRow))] rfl dX4_cut_30 (fun H locs hX => ?_)
    refine lv_iload_n (pc := 33) hx hb dX4_cut_33 rfl (lv_at hl 0 rfl) ?_
    obtain ⟨rfl, rfl⟩ := re2 hf
    exact hret _ _ _ _ _ rfl rfl hX dX4_cut_34
  · replace hf := ite_t c3 hf
    refine lv_iconst (pc := 15) (v := -1) hx hb dX4_cut_15 (by decide) ?_
    obtain ⟨rfl, rfl⟩ := re2 hf
    exact hret _ _ _ _ _ rfl rfl hX dX4_cut_16
theorem mmX4_set_1 : Cond.fieldLink RX4 10 "SlackArms" "now" "LSlackArms$Gear;" ∈ wsX4_set := List.mem_of_getElem? (i := 1) rfl
theorem miX4_set_X4 : ∀ w ∈ u_ws RX4 TX4 9, w ∈ wsX4_set := fun w h => List.mem_cons_of_mem _ (List.mem_append_left _ (List.mem_append_right _ h))
theorem mmX4_set_2 : Cond.fieldLink RX4 101 "SlackArms$Gear" "strokeRow" "[I" ∈ wsX4_set := List.mem_of_getElem? (i := 2) rfl
theorem miX4_set_X0 : ∀ w ∈ u_ws RX0 TX0 12, w ∈ wsX4_set := fun w h => List.mem_cons_of_mem _ (List.mem_append_right _ h)
set_option maxHeartbeats 4000000 in
set_option maxRecDepth 100000 in
theorem kX4_set (ad : xAd) (l : Launch) (D : va_G) (cI cB cZ cG cS : ClassId) (h0 h_now h_trial h_images h_kept h_tape h_sights h_sheets h_looks h_now_kindRow h_now_slackRow h_now_placeRow h_now_turnRow h_now_wayRow h_now_strokeRow : Nat) (tornFault : Int32) (now_arms : Int32) (now_strokes : Int32) (now_hand : Int32) (now_step : Int32) (now_travel : Int32) (now_reversals : Int32) (now_kindRow : (Nat → Int32)) (now_slackRow : (Nat → Int32)) (now_placeRow : (Nat → Int32)) (now_turnRow : (Nat → Int32)) (now_wayRow : (Nat → Int32)) (now_strokeRow : (Nat → Int32)) (r0 : Int32) (o_now_strokeRow' : (Nat → Int32)) (p1 : Int32) (p2 : Int32) (hf : fX4_set p1 p2 now_strokes now_strokeRow = some (r0, o_now_strokeRow')) : xMi ad l yX4_set wsX4_set ({ frames := 2, cells := 0, slots := 0, locals := 43 } : Room) D (xTY cI cB cZ cG cS) [.ref h0, .int p1, .int p2] [(h0, .inr (4, [.ref h_now, .ref h_trial, .ref h_images, .ref h_kept, .ref h_tape, .ref h_sights, .ref h_sheets, .ref h_looks, .int tornFault])), (h_now, .inr (0, [.ref h_now_kindRow, .ref h_now_slackRow, .ref h_now_placeRow, .ref h_now_turnRow, .ref h_now_wayRow, .ref h_now_strokeRow, .int now_arms, .int now_strokes, .int now_hand, .int now_step, .int now_travel, .int now_reversals])), (h_now_kindRow, .inl (cI, 4, .inl now_kindRow)), (h_now_slackRow, .inl (cI, 4, .inl now_slackRow)), (h_now_placeRow, .inl (cI, 4, .inl now_placeRow)), (h_now_turnRow, .inl (cI, 4, .inl now_turnRow)), (h_now_wayRow, .inl (cI, 4, .inl now_wayRow)), (h_now_strokeRow, .inl (cI, 16, .inl now_strokeRow))] [(h0, .inr (4, [.ref h_now, .ref h_trial, .ref h_images, .ref h_kept, .ref h_tape, .ref h_sights, .ref h_sheets, .ref h_looks, .int tornFault])), (h_now, .inr (0, [.ref h_now_kindRow, .ref h_now_slackRow, .ref h_now_placeRow, .ref h_now_turnRow, .ref h_now_wayRow, .ref h_now_strokeRow, .int now_arms, .int now_strokes, .int now_hand, .int now_step, .int now_travel, .int now_reversals])), (h_now_kindRow, .inl (cI, 4, .inl now_kindRow)), (h_now_slackRow, .inl (cI, 4, .inl now_slackRow)), (h_now_placeRow, .inl (cI, 4, .inl now_placeRow)), (h_now_turnRow, .inl (cI, 4, .inl now_turnRow)), (h_now_wayRow, .inl (cI, 4, .inl now_wayRow)), (h_now_strokeRow, .inl (cI, 16, .inl o_now_strokeRow'))] r0 := by
  refine xMi_of (cc := cX4_set) (maxL := 4) (ty := .int) (by decide) rfl (Nat.le_of_ble_eq_true rfl) ?_
  intro p e s m args below meth c A Q ls C hX hl hret
  have hx := C.1.1
  have hb := C.1.2.1
  have hl : lv_has ls 4 [(0, .ref h0), (1, .int p1), (2, .int p2)] := hl
  unfold fX4_set at hf
  refine lv_aload_n (pc := 0) hx hb dX4_set_0 rfl (lv_at hl 0 rfl) ?_
  refine lv_iload_n (pc := 1) hx hb dX4_set_1 rfl (lv_at hl 1 rfl) ?_
  obtain ⟨r1, g2, hf⟩ := cl1_adv hf
  refine x_callVi (pc := 2) (rest := []) (w2 := [(h0, .inr (4, [.ref h_now, .ref h_trial, .ref h_images, .ref h_kept, .ref h_tape, .ref h_sights, .ref h_sheets, .ref h_looks, .int tornFault])), (h_now, .inr (0, [.ref h_now_kindRow, .ref h_now_slackRow, .ref h_now_placeRow, .ref h_now_turnRow, .ref h_now_wayRow, .ref h_now_strokeRow, .int now_arms, .int now_strokes, .int now_hand, .int now_step, .int now_travel, .int now_reversals])), (h_now_kindRow, .inl (cI, 4, .inl now_kindRow)), (h_now_slackRow, .inl (cI, 4, .inl now_slackRow)), (h_now_placeRow, .inl (cI, 4, .inl now_placeRow)), (h_now_turnRow, .inl (cI, 4, .inl now_turnRow)), (h_now_wayRow, .inl (cI, 4, .inl now_wayRow)), (h_now_strokeRow, .inl (cI, 16, .inl now_strokeRow))]) C hX (kX4_isStroke ad l D cI cB cZ cG cS h0 h_now h_trial h_images h_kept h_tape h_sights h_sheets h_looks h_now_kindRow h_now_slackRow h_now_placeRow h_now_turnRow h_now_wayRow h_now_strokeRow tornFault now_arms now_strokes now_hand now_step now_travel now_reversals now_kindRow now_slackRow now_placeRow now_turnRow now_wayRow now_strokeRow r1 p1 g2) (cwV 1 C.1.2.2.2.2 gX4_set_X4_isStroke rfl rfl rfl (by decide +kernel) ⟨Nat.le_of_ble_eq_true rfl, Nat.le_of_ble_eq_true rfl⟩) [0, 1, 2, 3, 4, 5, 6, 7] [] [0, 1, 2, 3, 4, 5, 6, 7] rfl rfl rfl rfl (by decide) rfl rfl 0 rfl rfl rfl hl.1 rfl rfl (Nat.le_of_ble_eq_true rfl) dX4_set_2 (fun H locs hX => ?_)
  refine lv_if_eq (pc := 5) (tgt := 15) hx hb dX4_set_5 (by decide) (fun c3 => ?_) (fun c3 => ?_)
  · replace hf := ite_t c3 hf
    refine lv_iconst (pc := 15) (v := -1) hx hb dX4_set_15 (by decide) ?_
    obtain ⟨rfl, rfl⟩ := re2 hf
    exact hret _ _ _ _ _ rfl rfl hX dX4_set_16
  · replace hf := ite_f c3 hf
    refine lv_iload_n (pc := 8) hx hb dX4_set_8 rfl (lv_at hl 2 rfl) ?_
    obtain ⟨r4, g5, hf⟩ := cl1_adv hf
    refine x_callSi (pc := 9) (rest := []) C hX (kX4_isShiftedStroke ad l D cI cB cZ cG cS r4 p2 g5) (va_cwS 1 C.1.2.2.2.2 gX4_set_X4_isShiftedStroke rfl rfl rfl (by decide +kernel) ⟨Nat.le_of_ble_eq_true rfl, Nat.le_of_ble_eq_true rfl⟩) hl.1 rfl rfl (Nat.le_of_ble_eq_true rfl) dX4_set_9 (fun H locs hX => ?_)
    refine lv_if_ne (pc := 12) (tgt := 17) hx hb dX4_set_12 (by decide) (fun c6 => ?_) (fun c6 => ?_)
    · replace hf := ite_f c6 hf
      refine lv_aload_n (pc := 17) hx hb dX4_set_17 rfl (lv_at hl 0 rfl) ?_
      refine x_getf (pc := 18) (Cn := RX4) (T := TX4) (N := 9) C hX 0 rfl rfl miX4_set_X4 0 (by decide) mmX4_set_1 rfl dX4_set_18 ?_
      refine x_getf (pc := 21) (Cn := RX0) (T := TX0) (N := 12) C hX 1 rfl rfl miX4_set_X0 5 (by decide) mmX4_set_2 rfl dX4_set_21 ?_
      refine lv_iload_n (pc := 24) hx hb dX4_set_24 rfl (lv_at hl 1 rfl) ?_
      replace hf := chk_adv hf
      have i7 := hf.1
      replace hf := hf.2
      refine x_iald (pc := 25) C hX 7 0 rfl rfl i7 dX4_set_25 ?_
      refine lv_bipush (pc := 26) (v := 9) hx hb dX4_set_26 (by decide) ?_
      refine lv_iadd (pc := 28) hx hb dX4_set_28 ?_
      refine lv_topi (fun v8 ev8 => ?_)
      replace hf := bnd_use ev8 hf
      refine lv_istore_n (pc := 29) (lv' := [(3, .int v8), (0, .ref h0), (1, .int p1), (2, .int p2)]) hx hb dX4_set_29 rfl hl (by decide) rfl (fun ls hl => ?_)
      refine lv_aload_n (pc := 30) hx hb dX4_set_30 rfl (lv_at hl 1 rfl) ?_
      refine x_getf (pc := 31) (Cn := RX4) (T := TX4) (N := 9) C hX 0 rfl rfl miX4_set_X4 0 (by decide) mmX4_set_1 rfl dX4_set_31 ?_
      refine x_getf (pc := 34) (Cn := RX0) (T := TX0) (N := 12) C hX 1 rfl rfl miX4_set_X0 5 (by decide) mmX4_set_2 rfl dX4_set_34 ?_
      refine lv_iload_n (pc := 37) hx hb dX4_set_37 rfl (lv_at hl 2 rfl) ?_
      refine lv_iload_n (pc := 38) hx hb dX4_set_38 rfl (lv_at hl 3 rfl) ?_
      refine lv_bipush (pc := 39) (v := 9) hx hb dX4_set_39 (by decide) ?_
      refine lv_isub (pc := 41) hx hb dX4_set_41 ?_
      refine lv_topi (fun v9 ev9 => ?_)
      replace hf := bnd_use ev9 hf
      replace hf := chk_adv hf
      have i10 := hf.1
      replace hf := hf.2
      obtain ⟨f11, ef11⟩ : ∃ y : Nat → Int32, y = (upd now_strokeRow (p1).toNatClampNeg v9) := ⟨_, rfl⟩
      replace hf := bnd_use ef11 hf
      refine x_iast (pc := 42) C hX 7 0 rfl rfl i10 [(h0, .inr (4, [.ref h_now, .ref h_trial, .ref h_images, .ref h_kept, .ref h_tape, .ref h_sights, .ref h_sheets, .ref h_looks, .int tornFault])), (h_now, .inr (0, [.ref h_now_kindRow, .ref h_now_slackRow, .ref h_now_placeRow, .ref h_now_turnRow, .ref h_now_wayRow, .ref h_now_strokeRow, .int now_arms, .int now_strokes, .int now_hand, .int now_step, .int now_travel, .int now_reversals])), (h_now_kindRow, .inl (cI, 4, .inl now_kindRow)), (h_now_slackRow, .inl (cI, 4, .inl now_slackRow)), (h_now_placeRow, .inl (cI, 4, .inl now_placeRow)), (h_now_turnRow, .inl (cI, 4, .inl now_turnRow)), (h_now_wayRow, .inl (cI, 4, .inl now_wayRow)), (h_now_strokeRow, .inl (cI, 16, .inl f11))] (by subst ef11; rfl) dX4_set_42 (fun H locs hX => ?_)
      refine lv_iload_n (pc := 43) hx hb dX4_set_43 rfl (lv_at hl 0 rfl) ?_
      obtain ⟨rfl, rfl⟩ := re2 hf
      exact hret _ _ _ _ _ rfl rfl hX dX4_set_44
    · replace hf := ite_t c6 hf
      refine lv_iconst (pc := 15) (v := -1) hx hb dX4_set_15 (by decide) ?_
      obtain ⟨rfl, rfl⟩ := re2 hf
      exact hret _ _ _ _ _ rfl rfl hX dX4_set_16
theorem mmX4_add_1 : Cond.fieldLink RX4 10 "SlackArms" "now" "LSlackArms$Gear;" ∈ wsX4_add := List.mem_of_getElem? (i := 1) rfl
theorem miX4_add_X4 : ∀ w ∈ u_ws RX4 TX4 9, w ∈ wsX4_add := fun w h => List.mem_cons_of_mem _ (List.mem_append_left _ (List.mem_append_right _ h))
theorem mmX4_add_2 : Cond.fieldLink RX4 87 "SlackArms$Gear" "strokes" "I" ∈ wsX4_add := List.mem_of_getElem? (i := 2) rfl
theorem miX4_add_X0 : ∀ w ∈ u_ws RX0 TX0 12, w ∈ wsX4_add := fun w h => List.mem_cons_of_mem _ (List.mem_append_right _ h)
set_option maxHeartbeats 4000000 in
set_option maxRecDepth 100000 in
theorem kX4_add (ad : xAd) (l : Launch) (D : va_G) (cI cB cZ cG cS : ClassId) (h0 h_now h_trial h_images h_kept h_tape h_sights h_sheets h_looks h_now_kindRow h_now_slackRow h_now_placeRow h_now_turnRow h_now_wayRow h_now_strokeRow : Nat) (tornFault : Int32) (now_arms : Int32) (now_strokes : Int32) (now_hand : Int32) (now_step : Int32) (now_travel : Int32) (now_reversals : Int32) (now_kindRow : (Nat → Int32)) (now_slackRow : (Nat → Int32)) (now_placeRow : (Nat → Int32)) (now_turnRow : (Nat → Int32)) (now_wayRow : (Nat → Int32)) (now_strokeRow : (Nat → Int32)) (r0 : Int32) (o_now_strokes' : Int32) (o_now_strokeRow' : (Nat → Int32)) (p1 : Int32) (hf : fX4_add p1 now_strokes now_strokeRow = some (r0, o_now_strokes', o_now_strokeRow')) : xMi ad l yX4_add wsX4_add ({ frames := 2, cells := 0, slots := 0, locals := 42 } : Room) D (xTY cI cB cZ cG cS) [.ref h0, .int p1] [(h0, .inr (4, [.ref h_now, .ref h_trial, .ref h_images, .ref h_kept, .ref h_tape, .ref h_sights, .ref h_sheets, .ref h_looks, .int tornFault])), (h_now, .inr (0, [.ref h_now_kindRow, .ref h_now_slackRow, .ref h_now_placeRow, .ref h_now_turnRow, .ref h_now_wayRow, .ref h_now_strokeRow, .int now_arms, .int now_strokes, .int now_hand, .int now_step, .int now_travel, .int now_reversals])), (h_now_kindRow, .inl (cI, 4, .inl now_kindRow)), (h_now_slackRow, .inl (cI, 4, .inl now_slackRow)), (h_now_placeRow, .inl (cI, 4, .inl now_placeRow)), (h_now_turnRow, .inl (cI, 4, .inl now_turnRow)), (h_now_wayRow, .inl (cI, 4, .inl now_wayRow)), (h_now_strokeRow, .inl (cI, 16, .inl now_strokeRow))] [(h0, .inr (4, [.ref h_now, .ref h_trial, .ref h_images, .ref h_kept, .ref h_tape, .ref h_sights, .ref h_sheets, .ref h_looks, .int tornFault])), (h_now, .inr (0, [.ref h_now_kindRow, .ref h_now_slackRow, .ref h_now_placeRow, .ref h_now_turnRow, .ref h_now_wayRow, .ref h_now_strokeRow, .int now_arms, .int o_now_strokes', .int now_hand, .int now_step, .int now_travel, .int now_reversals])), (h_now_kindRow, .inl (cI, 4, .inl now_kindRow)), (h_now_slackRow, .inl (cI, 4, .inl now_slackRow)), (h_now_placeRow, .inl (cI, 4, .inl now_placeRow)), (h_now_turnRow, .inl (cI, 4, .inl now_turnRow)), (h_now_wayRow, .inl (cI, 4, .inl now_wayRow)), (h_now_strokeRow, .inl (cI, 16, .inl o_now_strokeRow'))] r0 := by
  refine xMi_of (cc := cX4_add) (maxL := 2) (ty := .int) (by decide) rfl (Nat.le_of_ble_eq_true rfl) ?_
  intro p e s m args below meth c A Q ls C hX hl hret
  have hx := C.1.1
  have hb := C.1.2.1
  have hl : lv_has ls 2 [(0, .ref h0), (1, .int p1)] := hl
  unfold fX4_add at hf
  refine lv_iload_n (pc := 0) hx hb dX4_add_0 rfl (lv_at hl 1 rfl) ?_
  obtain ⟨r1, g2, hf⟩ := cl1_adv hf
  refine x_callSi (pc := 1) (rest := []) C hX (kX4_isShiftedStroke ad l D cI cB cZ cG cS r1 p1 g2) (va_cwS 1 C.1.2.2.2.2 gX4_add_X4_isShiftedStroke rfl rfl rfl (by decide +kernel) ⟨Nat.le_of_ble_eq_true rfl, Nat.le_of_ble_eq_true rfl⟩) hl.1 rfl rfl (Nat.le_of_ble_eq_true rfl) dX4_add_1 (fun H locs hX => ?_)
  refine lv_if_ne (pc := 4) (tgt := 9) hx hb dX4_add_4 (by decide) (fun c3 => ?_) (fun c3 => ?_)
  · replace hf := ite_f c3 hf
    refine lv_aload_n (pc := 9) hx hb dX4_add_9 rfl (lv_at hl 0 rfl) ?_
    refine x_getf (pc := 10) (Cn := RX4) (T := TX4) (N := 9) C hX 0 rfl rfl miX4_add_X4 0 (by decide) mmX4_add_1 rfl dX4_add_10 ?_
    refine lv_iload_n (pc := 13) hx hb dX4_add_13 rfl (lv_at hl 1 rfl) ?_
    refine lv_bipush (pc := 14) (v := 9) hx hb dX4_add_14 (by decide) ?_
    refine lv_isub (pc := 16) hx hb dX4_add_16 ?_
    obtain ⟨r4, u5, u6, g7, hf⟩ := cl3_adv hf
    refine x_callVi (pc := 17) (rest := []) (w2 := [(h0, .inr (4, [.ref h_now, .ref h_trial, .ref h_images, .ref h_kept, .ref h_tape, .ref h_sights, .ref h_sheets, .ref h_looks, .int tornFault])), (h_now, .inr (0, [.ref h_now_kindRow, .ref h_now_slackRow, .ref h_now_placeRow, .ref h_now_turnRow, .ref h_now_wayRow, .ref h_now_strokeRow, .int now_arms, .int u5, .int now_hand, .int now_step, .int now_travel, .int now_reversals])), (h_now_kindRow, .inl (cI, 4, .inl now_kindRow)), (h_now_slackRow, .inl (cI, 4, .inl now_slackRow)), (h_now_placeRow, .inl (cI, 4, .inl now_placeRow)), (h_now_turnRow, .inl (cI, 4, .inl now_turnRow)), (h_now_wayRow, .inl (cI, 4, .inl now_wayRow)), (h_now_strokeRow, .inl (cI, 16, .inl u6))]) C hX (kX0_appendStroke ad l D cI cB cZ cG cS h_now h_now_kindRow h_now_slackRow h_now_placeRow h_now_turnRow h_now_wayRow h_now_strokeRow now_arms now_strokes now_hand now_step now_travel now_reversals now_kindRow now_slackRow now_placeRow now_turnRow now_wayRow now_strokeRow r4 u5 u6 (p1 - (9 : Int32)) g7) (cwV 1 C.1.2.2.2.2 gX4_add_X0_appendStroke rfl rfl rfl (by decide +kernel) ⟨Nat.le_of_ble_eq_true rfl, Nat.le_of_ble_eq_true rfl⟩) [1, 2, 3, 4, 5, 6, 7] [0] [0, 1, 2, 3, 4, 5, 6, 7] rfl rfl rfl rfl (by decide) rfl rfl 0 rfl rfl rfl hl.1 rfl rfl (Nat.le_of_ble_eq_true rfl) dX4_add_17 (fun H locs hX => ?_)
    refine lv_if_eq (pc := 20) (tgt := 33) hx hb dX4_add_20 (by decide) (fun c8 => ?_) (fun c8 => ?_)
    · replace hf := ite_t c8 hf
      refine lv_bipush (pc := 33) (v := -3) hx hb dX4_add_33 (by decide) ?_
      obtain ⟨rfl, rfl, rfl⟩ := re3 hf
      exact hret _ _ _ _ _ rfl rfl hX dX4_add_35
    · replace hf := ite_f c8 hf
      refine lv_aload_n (pc := 23) hx hb dX4_add_23 rfl (lv_at hl 0 rfl) ?_
      refine x_getf (pc := 24) (Cn := RX4) (T := TX4) (N := 9) C hX 0 rfl rfl miX4_add_X4 0 (by decide) mmX4_add_1 rfl dX4_add_24 ?_
      refine x_getf (pc := 27) (Cn := RX0) (T := TX0) (N := 12) C hX 1 rfl rfl miX4_add_X0 7 (by decide) mmX4_add_2 rfl dX4_add_27 ?_
      refine lv_goto (pc := 30) (tgt := 35) hx hb dX4_add_30 (by decide) ?_
      obtain ⟨rfl, rfl, rfl⟩ := re3 hf
      exact hret _ _ _ _ _ rfl rfl hX dX4_add_35
  · replace hf := ite_t c3 hf
    refine lv_iconst (pc := 7) (v := -1) hx hb dX4_add_7 (by decide) ?_
    obtain ⟨rfl, rfl, rfl⟩ := re3 hf
    exact hret _ _ _ _ _ rfl rfl hX dX4_add_8
theorem mmX4_drop_1 : Cond.fieldLink RX4 10 "SlackArms" "now" "LSlackArms$Gear;" ∈ wsX4_drop := List.mem_of_getElem? (i := 1) rfl
theorem miX4_drop_X4 : ∀ w ∈ u_ws RX4 TX4 9, w ∈ wsX4_drop := fun w h => List.mem_cons_of_mem _ (List.mem_append_left _ (List.mem_append_right _ h))
theorem mmX4_drop_2 : Cond.fieldLink RX4 87 "SlackArms$Gear" "strokes" "I" ∈ wsX4_drop := List.mem_of_getElem? (i := 2) rfl
theorem miX4_drop_X0 : ∀ w ∈ u_ws RX0 TX0 12, w ∈ wsX4_drop := fun w h => List.mem_cons_of_mem _ (List.mem_append_right _ h)
set_option maxHeartbeats 4000000 in
set_option maxRecDepth 100000 in
theorem kX4_drop (ad : xAd) (l : Launch) (D : va_G) (cI cB cZ cG cS : ClassId) (h0 h_now h_trial h_images h_kept h_tape h_sights h_sheets h_looks h_now_kindRow h_now_slackRow h_now_placeRow h_now_turnRow h_now_wayRow h_now_strokeRow : Nat) (tornFault : Int32) (now_arms : Int32) (now_strokes : Int32) (now_hand : Int32) (now_step : Int32) (now_travel : Int32) (now_reversals : Int32) (now_kindRow : (Nat → Int32)) (now_slackRow : (Nat → Int32)) (now_placeRow : (Nat → Int32)) (now_turnRow : (Nat → Int32)) (now_wayRow : (Nat → Int32)) (now_strokeRow : (Nat → Int32)) (r0 : Int32) (o_now_strokes' : Int32) (p1 : Int32) (hf : fX4_drop p1 now_strokes = some (r0, o_now_strokes')) : xMi ad l yX4_drop wsX4_drop ({ frames := 1, cells := 0, slots := 0, locals := 22 } : Room) D (xTY cI cB cZ cG cS) [.ref h0, .int p1] [(h0, .inr (4, [.ref h_now, .ref h_trial, .ref h_images, .ref h_kept, .ref h_tape, .ref h_sights, .ref h_sheets, .ref h_looks, .int tornFault])), (h_now, .inr (0, [.ref h_now_kindRow, .ref h_now_slackRow, .ref h_now_placeRow, .ref h_now_turnRow, .ref h_now_wayRow, .ref h_now_strokeRow, .int now_arms, .int now_strokes, .int now_hand, .int now_step, .int now_travel, .int now_reversals])), (h_now_kindRow, .inl (cI, 4, .inl now_kindRow)), (h_now_slackRow, .inl (cI, 4, .inl now_slackRow)), (h_now_placeRow, .inl (cI, 4, .inl now_placeRow)), (h_now_turnRow, .inl (cI, 4, .inl now_turnRow)), (h_now_wayRow, .inl (cI, 4, .inl now_wayRow)), (h_now_strokeRow, .inl (cI, 16, .inl now_strokeRow))] [(h0, .inr (4, [.ref h_now, .ref h_trial, .ref h_images, .ref h_kept, .ref h_tape, .ref h_sights, .ref h_sheets, .ref h_looks, .int tornFault])), (h_now, .inr (0, [.ref h_now_kindRow, .ref h_now_slackRow, .ref h_now_placeRow, .ref h_now_turnRow, .ref h_now_wayRow, .ref h_now_strokeRow, .int now_arms, .int o_now_strokes', .int now_hand, .int now_step, .int now_travel, .int now_reversals])), (h_now_kindRow, .inl (cI, 4, .inl now_kindRow)), (h_now_slackRow, .inl (cI, 4, .inl now_slackRow)), (h_now_placeRow, .inl (cI, 4, .inl now_placeRow)), (h_now_turnRow, .inl (cI, 4, .inl now_turnRow)), (h_now_wayRow, .inl (cI, 4, .inl now_wayRow)), (h_now_strokeRow, .inl (cI, 16, .inl now_strokeRow))] r0 := by
  refine xMi_of (cc := cX4_drop) (maxL := 3) (ty := .int) (by decide) rfl (Nat.le_of_ble_eq_true rfl) ?_
  intro p e s m args below meth c A Q ls C hX hl hret
  have hx := C.1.1
  have hb := C.1.2.1
  have hl : lv_has ls 3 [(0, .ref h0), (1, .int p1)] := hl
  unfold fX4_drop at hf
  refine lv_iload_n (pc := 0) hx hb dX4_drop_0 rfl (lv_at hl 1 rfl) ?_
  refine lv_iconst (pc := 1) (v := 0) hx hb dX4_drop_1 (by decide) ?_
  refine lv_aload_n (pc := 2) hx hb dX4_drop_2 rfl (lv_at hl 0 rfl) ?_
  refine x_getf (pc := 3) (Cn := RX4) (T := TX4) (N := 9) C hX 0 rfl rfl miX4_drop_X4 0 (by decide) mmX4_drop_1 rfl dX4_drop_3 ?_
  refine x_getf (pc := 6) (Cn := RX0) (T := TX0) (N := 12) C hX 1 rfl rfl miX4_drop_X0 7 (by decide) mmX4_drop_2 rfl dX4_drop_6 ?_
  obtain ⟨r1, g2, hf⟩ := cl1_adv hf
  refine x_callSi (pc := 9) (rest := []) C hX (kX4_within ad l D cI cB cZ cG cS r1 p1 (0 : Int32) now_strokes g2) (va_cwS 3 C.1.2.2.2.2 gX4_drop_X4_within rfl rfl rfl (by decide +kernel) ⟨Nat.le_of_ble_eq_true rfl, Nat.le_of_ble_eq_true rfl⟩) hl.1 rfl rfl (Nat.le_of_ble_eq_true rfl) dX4_drop_9 (fun H locs hX => ?_)
  refine lv_if_ne (pc := 12) (tgt := 17) hx hb dX4_drop_12 (by decide) (fun c3 => ?_) (fun c3 => ?_)
  · replace hf := ite_f c3 hf
    refine lv_aload_n (pc := 17) hx hb dX4_drop_17 rfl (lv_at hl 0 rfl) ?_
    refine x_getf (pc := 18) (Cn := RX4) (T := TX4) (N := 9) C hX 0 rfl rfl miX4_drop_X4 0 (by decide) mmX4_drop_1 rfl dX4_drop_18 ?_
    refine x_getf (pc := 21) (Cn := RX0) (T := TX0) (N := 12) C hX 1 rfl rfl miX4_drop_X0 7 (by decide) mmX4_drop_2 rfl dX4_drop_21 ?_
    refine lv_istore_n (pc := 24) (lv' := [(2, .int now_strokes), (0, .ref h0), (1, .int p1)]) hx hb dX4_drop_24 rfl hl (by decide) rfl (fun ls hl => ?_)
    refine lv_aload_n (pc := 25) hx hb dX4_drop_25 rfl (lv_at hl 1 rfl) ?_
    refine x_getf (pc := 26) (Cn := RX4) (T := TX4) (N := 9) C hX 0 rfl rfl miX4_drop_X4 0 (by decide) mmX4_drop_1 rfl dX4_drop_26 ?_
    refine lv_iload_n (pc := 29) hx hb dX4_drop_29 rfl (lv_at hl 2 rfl) ?_
    refine x_putf (pc := 30) (Cn := RX0) (T := TX0) (N := 12) C hX tyX0 tyX0_ok nmX0 1 rfl rfl miX4_drop_X0 7 (by decide) mmX4_drop_2 rfl rfl (Nat.le_of_ble_eq_true rfl) [(h0, .inr (4, [.ref h_now, .ref h_trial, .ref h_images, .ref h_kept, .ref h_tape, .ref h_sights, .ref h_sheets, .ref h_looks, .int tornFault])), (h_now, .inr (0, [.ref h_now_kindRow, .ref h_now_slackRow, .ref h_now_placeRow, .ref h_now_turnRow, .ref h_now_wayRow, .ref h_now_strokeRow, .int now_arms, .int p1, .int now_hand, .int now_step, .int now_travel, .int now_reversals])), (h_now_kindRow, .inl (cI, 4, .inl now_kindRow)), (h_now_slackRow, .inl (cI, 4, .inl now_slackRow)), (h_now_placeRow, .inl (cI, 4, .inl now_placeRow)), (h_now_turnRow, .inl (cI, 4, .inl now_turnRow)), (h_now_wayRow, .inl (cI, 4, .inl now_wayRow)), (h_now_strokeRow, .inl (cI, 16, .inl now_strokeRow))] rfl dX4_drop_30 (fun H locs hX => ?_)
    refine lv_iload_n (pc := 33) hx hb dX4_drop_33 rfl (lv_at hl 0 rfl) ?_
    obtain ⟨rfl, rfl⟩ := re2 hf
    exact hret _ _ _ _ _ rfl rfl hX dX4_drop_34
  · replace hf := ite_t c3 hf
    refine lv_iconst (pc := 15) (v := -1) hx hb dX4_drop_15 (by decide) ?_
    obtain ⟨rfl, rfl⟩ := re2 hf
    exact hret _ _ _ _ _ rfl rfl hX dX4_drop_16
theorem mmX4_pull_1 : Cond.fieldLink RX4 10 "SlackArms" "now" "LSlackArms$Gear;" ∈ wsX4_pull := List.mem_of_getElem? (i := 1) rfl
theorem miX4_pull_X4 : ∀ w ∈ u_ws RX4 TX4 9, w ∈ wsX4_pull := fun w h => List.mem_cons_of_mem _ (List.mem_append_left _ (List.mem_append_right _ h))
set_option maxHeartbeats 4000000 in
set_option maxRecDepth 100000 in
theorem kX4_pull (ad : xAd) (l : Launch) (D : va_G) (cI cB cZ cG cS : ClassId) (h0 h_now h_trial h_images h_kept h_tape h_sights h_sheets h_looks h_now_kindRow h_now_slackRow h_now_placeRow h_now_turnRow h_now_wayRow h_now_strokeRow : Nat) (tornFault : Int32) (now_arms : Int32) (now_strokes : Int32) (now_hand : Int32) (now_step : Int32) (now_travel : Int32) (now_reversals : Int32) (now_kindRow : (Nat → Int32)) (now_slackRow : (Nat → Int32)) (now_placeRow : (Nat → Int32)) (now_turnRow : (Nat → Int32)) (now_wayRow : (Nat → Int32)) (now_strokeRow : (Nat → Int32)) (r0 : Int32) (o_now_hand' : Int32) (o_now_travel' : Int32) (o_now_reversals' : Int32) (o_now_placeRow' : (Nat → Int32)) (o_now_turnRow' : (Nat → Int32)) (o_now_wayRow' : (Nat → Int32)) (p1 : Int32) (hf : fX4_pull p1 now_arms now_hand now_travel now_reversals now_kindRow now_slackRow now_placeRow now_turnRow now_wayRow = some (r0, o_now_hand', o_now_travel', o_now_reversals', o_now_placeRow', o_now_turnRow', o_now_wayRow')) : xMi ad l yX4_pull wsX4_pull ({ frames := 3, cells := 0, slots := 0, locals := 67 } : Room) D (xTY cI cB cZ cG cS) [.ref h0, .int p1] [(h0, .inr (4, [.ref h_now, .ref h_trial, .ref h_images, .ref h_kept, .ref h_tape, .ref h_sights, .ref h_sheets, .ref h_looks, .int tornFault])), (h_now, .inr (0, [.ref h_now_kindRow, .ref h_now_slackRow, .ref h_now_placeRow, .ref h_now_turnRow, .ref h_now_wayRow, .ref h_now_strokeRow, .int now_arms, .int now_strokes, .int now_hand, .int now_step, .int now_travel, .int now_reversals])), (h_now_kindRow, .inl (cI, 4, .inl now_kindRow)), (h_now_slackRow, .inl (cI, 4, .inl now_slackRow)), (h_now_placeRow, .inl (cI, 4, .inl now_placeRow)), (h_now_turnRow, .inl (cI, 4, .inl now_turnRow)), (h_now_wayRow, .inl (cI, 4, .inl now_wayRow)), (h_now_strokeRow, .inl (cI, 16, .inl now_strokeRow))] [(h0, .inr (4, [.ref h_now, .ref h_trial, .ref h_images, .ref h_kept, .ref h_tape, .ref h_sights, .ref h_sheets, .ref h_looks, .int tornFault])), (h_now, .inr (0, [.ref h_now_kindRow, .ref h_now_slackRow, .ref h_now_placeRow, .ref h_now_turnRow, .ref h_now_wayRow, .ref h_now_strokeRow, .int now_arms, .int now_strokes, .int o_now_hand', .int now_step, .int o_now_travel', .int o_now_reversals'])), (h_now_kindRow, .inl (cI, 4, .inl now_kindRow)), (h_now_slackRow, .inl (cI, 4, .inl now_slackRow)), (h_now_placeRow, .inl (cI, 4, .inl o_now_placeRow')), (h_now_turnRow, .inl (cI, 4, .inl o_now_turnRow')), (h_now_wayRow, .inl (cI, 4, .inl o_now_wayRow')), (h_now_strokeRow, .inl (cI, 16, .inl now_strokeRow))] r0 := by
  refine xMi_of (cc := cX4_pull) (maxL := 2) (ty := .int) (by decide) rfl (Nat.le_of_ble_eq_true rfl) ?_
  intro p e s m args below meth c A Q ls C hX hl hret
  have hx := C.1.1
  have hb := C.1.2.1
  have hl : lv_has ls 2 [(0, .ref h0), (1, .int p1)] := hl
  unfold fX4_pull at hf
  refine lv_iload_n (pc := 0) hx hb dX4_pull_0 rfl (lv_at hl 1 rfl) ?_
  obtain ⟨r1, g2, hf⟩ := cl1_adv hf
  refine x_callSi (pc := 1) (rest := []) C hX (kX4_isShiftedStroke ad l D cI cB cZ cG cS r1 p1 g2) (va_cwS 1 C.1.2.2.2.2 gX4_pull_X4_isShiftedStroke rfl rfl rfl (by decide +kernel) ⟨Nat.le_of_ble_eq_true rfl, Nat.le_of_ble_eq_true rfl⟩) hl.1 rfl rfl (Nat.le_of_ble_eq_true rfl) dX4_pull_1 (fun H locs hX => ?_)
  refine lv_if_ne (pc := 4) (tgt := 9) hx hb dX4_pull_4 (by decide) (fun c3 => ?_) (fun c3 => ?_)
  · replace hf := ite_f c3 hf
    refine lv_aload_n (pc := 9) hx hb dX4_pull_9 rfl (lv_at hl 0 rfl) ?_
    refine x_getf (pc := 10) (Cn := RX4) (T := TX4) (N := 9) C hX 0 rfl rfl miX4_pull_X4 0 (by decide) mmX4_pull_1 rfl dX4_pull_10 ?_
    refine lv_iload_n (pc := 13) hx hb dX4_pull_13 rfl (lv_at hl 1 rfl) ?_
    refine lv_bipush (pc := 14) (v := 9) hx hb dX4_pull_14 (by decide) ?_
    refine lv_isub (pc := 16) hx hb dX4_pull_16 ?_
    obtain ⟨u4, u5, u6, u7, u8, u9, g10, hf⟩ := cl6_adv hf
    refine x_callVv (pc := 17) (rest := []) (w2 := [(h0, .inr (4, [.ref h_now, .ref h_trial, .ref h_images, .ref h_kept, .ref h_tape, .ref h_sights, .ref h_sheets, .ref h_looks, .int tornFault])), (h_now, .inr (0, [.ref h_now_kindRow, .ref h_now_slackRow, .ref h_now_placeRow, .ref h_now_turnRow, .ref h_now_wayRow, .ref h_now_strokeRow, .int now_arms, .int now_strokes, .int u4, .int now_step, .int u5, .int u6])), (h_now_kindRow, .inl (cI, 4, .inl now_kindRow)), (h_now_slackRow, .inl (cI, 4, .inl now_slackRow)), (h_now_placeRow, .inl (cI, 4, .inl u7)), (h_now_turnRow, .inl (cI, 4, .inl u8)), (h_now_wayRow, .inl (cI, 4, .inl u9)), (h_now_strokeRow, .inl (cI, 16, .inl now_strokeRow))]) C hX (kX0_moveHand ad l D cI cB cZ cG cS h_now h_now_kindRow h_now_slackRow h_now_placeRow h_now_turnRow h_now_wayRow h_now_strokeRow now_arms now_strokes now_hand now_step now_travel now_reversals now_kindRow now_slackRow now_placeRow now_turnRow now_wayRow now_strokeRow u4 u5 u6 u7 u8 u9 (p1 - (9 : Int32)) g10) (cwV 1 C.1.2.2.2.2 gX4_pull_X0_moveHand rfl rfl rfl (by decide +kernel) ⟨Nat.le_of_ble_eq_true rfl, Nat.le_of_ble_eq_true rfl⟩) [1, 2, 3, 4, 5, 6, 7] [0] [0, 1, 2, 3, 4, 5, 6, 7] rfl rfl rfl rfl (by decide) rfl rfl 0 rfl rfl rfl hl.1 rfl rfl (Nat.le_of_ble_eq_true rfl) dX4_pull_17 (fun H locs hX => ?_)
    refine lv_aload_n (pc := 20) hx hb dX4_pull_20 rfl (lv_at hl 0 rfl) ?_
    refine x_getf (pc := 21) (Cn := RX4) (T := TX4) (N := 9) C hX 0 rfl rfl miX4_pull_X4 0 (by decide) mmX4_pull_1 rfl dX4_pull_21 ?_
    obtain ⟨r11, g12, hf⟩ := cl1_adv hf
    refine x_callVi (pc := 24) (rest := []) (w2 := [(h0, .inr (4, [.ref h_now, .ref h_trial, .ref h_images, .ref h_kept, .ref h_tape, .ref h_sights, .ref h_sheets, .ref h_looks, .int tornFault])), (h_now, .inr (0, [.ref h_now_kindRow, .ref h_now_slackRow, .ref h_now_placeRow, .ref h_now_turnRow, .ref h_now_wayRow, .ref h_now_strokeRow, .int now_arms, .int now_strokes, .int u4, .int now_step, .int u5, .int u6])), (h_now_kindRow, .inl (cI, 4, .inl now_kindRow)), (h_now_slackRow, .inl (cI, 4, .inl now_slackRow)), (h_now_placeRow, .inl (cI, 4, .inl u7)), (h_now_turnRow, .inl (cI, 4, .inl u8)), (h_now_wayRow, .inl (cI, 4, .inl u9)), (h_now_strokeRow, .inl (cI, 16, .inl now_strokeRow))]) C hX (kX0_error ad l D cI cB cZ cG cS h_now h_now_kindRow h_now_slackRow h_now_placeRow h_now_turnRow h_now_wayRow h_now_strokeRow now_arms now_strokes u4 now_step u5 u6 now_kindRow now_slackRow u7 u8 u9 now_strokeRow r11 g12) (cwV 0 C.1.2.2.2.2 gX4_pull_X0_error rfl rfl rfl (by decide +kernel) ⟨Nat.le_of_ble_eq_true rfl, Nat.le_of_ble_eq_true rfl⟩) [1, 2, 3, 4, 5, 6, 7] [0] [0, 1, 2, 3, 4, 5, 6, 7] rfl rfl rfl rfl (by decide) rfl rfl 0 rfl rfl rfl hl.1 rfl rfl (Nat.le_of_ble_eq_true rfl) dX4_pull_24 (fun H locs hX => ?_)
    obtain ⟨rfl, rfl, rfl, rfl, rfl, rfl, rfl⟩ := re7 hf
    exact hret _ _ _ _ _ rfl rfl hX dX4_pull_27
  · replace hf := ite_t c3 hf
    refine lv_iconst (pc := 7) (v := -1) hx hb dX4_pull_7 (by decide) ?_
    obtain ⟨rfl, rfl, rfl, rfl, rfl, rfl, rfl⟩ := re7 hf
    exact hret _ _ _ _ _ rfl rfl hX dX4_pull_8
theorem mmX4_steps_1 : Cond.fieldLink RX4 10 "SlackArms" "now" "LSlackArms$Gear;" ∈ wsX4_steps := List.mem_of_getElem? (i := 1) rfl
theorem miX4_steps_X4 : ∀ w ∈ u_ws RX4 TX4 9, w ∈ wsX4_steps := fun w h => List.mem_cons_of_mem _ (List.mem_append_left _ (List.mem_append_right _ h))
theorem mmX4_steps_2 : Cond.fieldLink RX4 90 "SlackArms$Gear" "step" "I" ∈ wsX4_steps := List.mem_of_getElem? (i := 2) rfl
theorem miX4_steps_X0 : ∀ w ∈ u_ws RX0 TX0 12, w ∈ wsX4_steps := fun w h => List.mem_cons_of_mem _ (List.mem_append_right _ h)
theorem mmX4_steps_3 : Cond.fieldLink RX4 163 "SlackArms$Gear" "travel" "I" ∈ wsX4_steps := List.mem_of_getElem? (i := 3) rfl
set_option maxHeartbeats 4000000 in
set_option maxRecDepth 100000 in
theorem kX4_steps (ad : xAd) (l : Launch) (D : va_G) (cI cB cZ cG cS : ClassId) (h0 h_now h_trial h_images h_kept h_tape h_sights h_sheets h_looks h_now_kindRow h_now_slackRow h_now_placeRow h_now_turnRow h_now_wayRow h_now_strokeRow : Nat) (tornFault : Int32) (now_arms : Int32) (now_strokes : Int32) (now_hand : Int32) (now_step : Int32) (now_travel : Int32) (now_reversals : Int32) (now_kindRow : (Nat → Int32)) (now_slackRow : (Nat → Int32)) (now_placeRow : (Nat → Int32)) (now_turnRow : (Nat → Int32)) (now_wayRow : (Nat → Int32)) (now_strokeRow : (Nat → Int32)) (r0 : Int32) (o_now_hand' : Int32) (o_now_step' : Int32) (o_now_travel' : Int32) (o_now_reversals' : Int32) (o_now_placeRow' : (Nat → Int32)) (o_now_turnRow' : (Nat → Int32)) (o_now_wayRow' : (Nat → Int32)) (p1 : Int32) (hf : fX4_steps p1 now_arms now_strokes now_hand now_step now_travel now_reversals now_kindRow now_slackRow now_placeRow now_turnRow now_wayRow now_strokeRow = some (r0, o_now_hand', o_now_step', o_now_travel', o_now_reversals', o_now_placeRow', o_now_turnRow', o_now_wayRow')) : xMi ad l yX4_steps wsX4_steps ({ frames := 5, cells := 0, slots := 0, locals := 109 } : Room) D (xTY cI cB cZ cG cS) [.ref h0, .int p1] [(h0, .inr (4, [.ref h_now, .ref h_trial, .ref h_images, .ref h_kept, .ref h_tape, .ref h_sights, .ref h_sheets, .ref h_looks, .int tornFault])), (h_now, .inr (0, [.ref h_now_kindRow, .ref h_now_slackRow, .ref h_now_placeRow, .ref h_now_turnRow, .ref h_now_wayRow, .ref h_now_strokeRow, .int now_arms, .int now_strokes, .int now_hand, .int now_step, .int now_travel, .int now_reversals])), (h_now_kindRow, .inl (cI, 4, .inl now_kindRow)), (h_now_slackRow, .inl (cI, 4, .inl now_slackRow)), (h_now_placeRow, .inl (cI, 4, .inl now_placeRow)), (h_now_turnRow, .inl (cI, 4, .inl now_turnRow)), (h_now_wayRow, .inl (cI, 4, .inl now_wayRow)), (h_now_strokeRow, .inl (cI, 16, .inl now_strokeRow))] [(h0, .inr (4, [.ref h_now, .ref h_trial, .ref h_images, .ref h_kept, .ref h_tape, .ref h_sights, .ref h_sheets, .ref h_looks, .int tornFault])), (h_now, .inr (0, [.ref h_now_kindRow, .ref h_now_slackRow, .ref h_now_placeRow, .ref h_now_turnRow, .ref h_now_wayRow, .ref h_now_strokeRow, .int now_arms, .int now_strokes, .int o_now_hand', .int o_now_step', .int o_now_travel', .int o_now_reversals'])), (h_now_kindRow, .inl (cI, 4, .inl now_kindRow)), (h_now_slackRow, .inl (cI, 4, .inl now_slackRow)), (h_now_placeRow, .inl (cI, 4, .inl o_now_placeRow')), (h_now_turnRow, .inl (cI, 4, .inl o_now_turnRow')), (h_now_wayRow, .inl (cI, 4, .inl o_now_wayRow')), (h_now_strokeRow, .inl (cI, 16, .inl now_strokeRow))] r0 := by
  refine xMi_of (cc := cX4_steps) (maxL := 2) (ty := .int) (by decide) rfl (Nat.le_of_ble_eq_true rfl) ?_
  intro p e s m args below meth c A Q ls C hX hl hret
  have hx := C.1.1
  have hb := C.1.2.1
  have hl : lv_has ls 2 [(0, .ref h0), (1, .int p1)] := hl
  unfold fX4_steps at hf
  refine lv_iload_n (pc := 0) hx hb dX4_steps_0 rfl (lv_at hl 1 rfl) ?_
  refine lv_iconst (pc := 1) (v := 0) hx hb dX4_steps_1 (by decide) ?_
  refine lv_bipush (pc := 2) (v := 100) hx hb dX4_steps_2 (by decide) ?_
  obtain ⟨r1, g2, hf⟩ := cl1_adv hf
  refine x_callSi (pc := 4) (rest := []) C hX (kX4_within ad l D cI cB cZ cG cS r1 p1 (0 : Int32) (100 : Int32) g2) (va_cwS 3 C.1.2.2.2.2 gX4_steps_X4_within rfl rfl rfl (by decide +kernel) ⟨Nat.le_of_ble_eq_true rfl, Nat.le_of_ble_eq_true rfl⟩) hl.1 rfl rfl (Nat.le_of_ble_eq_true rfl) dX4_steps_4 (fun H locs hX => ?_)
  refine lv_if_ne (pc := 7) (tgt := 12) hx hb dX4_steps_7 (by decide) (fun c3 => ?_) (fun c3 => ?_)
  · replace hf := ite_f c3 hf
    refine lv_aload_n (pc := 12) hx hb dX4_steps_12 rfl (lv_at hl 0 rfl) ?_
    refine x_getf (pc := 13) (Cn := RX4) (T := TX4) (N := 9) C hX 0 rfl rfl miX4_steps_X4 0 (by decide) mmX4_steps_1 rfl dX4_steps_13 ?_
    refine x_getf (pc := 16) (Cn := RX0) (T := TX0) (N := 12) C hX 1 rfl rfl miX4_steps_X0 9 (by decide) mmX4_steps_2 rfl dX4_steps_16 ?_
    refine lv_iload_n (pc := 19) hx hb dX4_steps_19 rfl (lv_at hl 1 rfl) ?_
    refine lv_iadd (pc := 20) hx hb dX4_steps_20 ?_
    refine lv_sipush (pc := 21) (v := 10000) hx hb dX4_steps_21 (by decide) ?_
    refine lv_icmp_lt (pc := 24) (tgt := 30) hx hb dX4_steps_24 (by decide) (fun c4 => ?_) (fun c4 => ?_)
    · replace hf := ite_t c4 hf
      refine lv_aload_n (pc := 30) hx hb dX4_steps_30 rfl (lv_at hl 0 rfl) ?_
      refine x_getf (pc := 31) (Cn := RX4) (T := TX4) (N := 9) C hX 0 rfl rfl miX4_steps_X4 0 (by decide) mmX4_steps_1 rfl dX4_steps_31 ?_
      obtain ⟨u5, u6, g7, hf⟩ := cl2_adv hf
      refine x_callVv (pc := 34) (rest := []) (w2 := [(h0, .inr (4, [.ref h_now, .ref h_trial, .ref h_images, .ref h_kept, .ref h_tape, .ref h_sights, .ref h_sheets, .ref h_looks, .int tornFault])), (h_now, .inr (0, [.ref h_now_kindRow, .ref h_now_slackRow, .ref h_now_placeRow, .ref h_now_turnRow, .ref h_now_wayRow, .ref h_now_strokeRow, .int now_arms, .int now_strokes, .int now_hand, .int now_step, .int u5, .int u6])), (h_now_kindRow, .inl (cI, 4, .inl now_kindRow)), (h_now_slackRow, .inl (cI, 4, .inl now_slackRow)), (h_now_placeRow, .inl (cI, 4, .inl now_placeRow)), (h_now_turnRow, .inl (cI, 4, .inl now_turnRow)), (h_now_wayRow, .inl (cI, 4, .inl now_wayRow)), (h_now_strokeRow, .inl (cI, 16, .inl now_strokeRow))]) C hX (kX0_clearTallies ad l D cI cB cZ cG cS h_now h_now_kindRow h_now_slackRow h_now_placeRow h_now_turnRow h_now_wayRow h_now_strokeRow now_arms now_strokes now_hand now_step now_travel now_reversals now_kindRow now_slackRow now_placeRow now_turnRow now_wayRow now_strokeRow u5 u6 g7) (cwV 0 C.1.2.2.2.2 gX4_steps_X0_clearTallies rfl rfl rfl (by decide +kernel) ⟨Nat.le_of_ble_eq_true rfl, Nat.le_of_ble_eq_true rfl⟩) [1, 2, 3, 4, 5, 6, 7] [0] [0, 1, 2, 3, 4, 5, 6, 7] rfl rfl rfl rfl (by decide) rfl rfl 0 rfl rfl rfl hl.1 rfl rfl (Nat.le_of_ble_eq_true rfl) dX4_steps_34 (fun H locs hX => ?_)
      refine lv_aload_n (pc := 37) hx hb dX4_steps_37 rfl (lv_at hl 0 rfl) ?_
      refine x_getf (pc := 38) (Cn := RX4) (T := TX4) (N := 9) C hX 0 rfl rfl miX4_steps_X4 0 (by decide) mmX4_steps_1 rfl dX4_steps_38 ?_
      refine lv_iload_n (pc := 41) hx hb dX4_steps_41 rfl (lv_at hl 1 rfl) ?_
      obtain ⟨u8, u9, u10, u11, u12, u13, u14, g15, hf⟩ := cl7_adv hf
      refine x_callVv (pc := 42) (rest := []) (w2 := [(h0, .inr (4, [.ref h_now, .ref h_trial, .ref h_images, .ref h_kept, .ref h_tape, .ref h_sights, .ref h_sheets, .ref h_looks, .int tornFault])), (h_now, .inr (0, [.ref h_now_kindRow, .ref h_now_slackRow, .ref h_now_placeRow, .ref h_now_turnRow, .ref h_now_wayRow, .ref h_now_strokeRow, .int now_arms, .int now_strokes, .int u8, .int u9, .int u10, .int u11])), (h_now_kindRow, .inl (cI, 4, .inl now_kindRow)), (h_now_slackRow, .inl (cI, 4, .inl now_slackRow)), (h_now_placeRow, .inl (cI, 4, .inl u12)), (h_now_turnRow, .inl (cI, 4, .inl u13)), (h_now_wayRow, .inl (cI, 4, .inl u14)), (h_now_strokeRow, .inl (cI, 16, .inl now_strokeRow))]) C hX (kX0_takeSteps ad l D cI cB cZ cG cS h_now h_now_kindRow h_now_slackRow h_now_placeRow h_now_turnRow h_now_wayRow h_now_strokeRow now_arms now_strokes now_hand now_step u5 u6 now_kindRow now_slackRow now_placeRow now_turnRow now_wayRow now_strokeRow u8 u9 u10 u11 u12 u13 u14 p1 g15) (cwV 1 C.1.2.2.2.2 gX4_steps_X0_takeSteps rfl rfl rfl (by decide +kernel) ⟨Nat.le_of_ble_eq_true rfl, Nat.le_of_ble_eq_true rfl⟩) [1, 2, 3, 4, 5, 6, 7] [0] [0, 1, 2, 3, 4, 5, 6, 7] rfl rfl rfl rfl (by decide) rfl rfl 0 rfl rfl rfl hl.1 rfl rfl (Nat.le_of_ble_eq_true rfl) dX4_steps_42 (fun H locs hX => ?_)
      refine lv_aload_n (pc := 45) hx hb dX4_steps_45 rfl (lv_at hl 0 rfl) ?_
      refine x_getf (pc := 46) (Cn := RX4) (T := TX4) (N := 9) C hX 0 rfl rfl miX4_steps_X4 0 (by decide) mmX4_steps_1 rfl dX4_steps_46 ?_
      refine x_getf (pc := 49) (Cn := RX0) (T := TX0) (N := 12) C hX 1 rfl rfl miX4_steps_X0 10 (by decide) mmX4_steps_3 rfl dX4_steps_49 ?_
      obtain ⟨rfl, rfl, rfl, rfl, rfl, rfl, rfl, rfl⟩ := re8 hf
      exact hret _ _ _ _ _ rfl rfl hX dX4_steps_52
    · replace hf := ite_f c4 hf
      refine lv_bipush (pc := 27) (v := -3) hx hb dX4_steps_27 (by decide) ?_
      obtain ⟨rfl, rfl, rfl, rfl, rfl, rfl, rfl, rfl⟩ := re8 hf
      exact hret _ _ _ _ _ rfl rfl hX dX4_steps_29
  · replace hf := ite_t c3 hf
    refine lv_iconst (pc := 10) (v := -1) hx hb dX4_steps_10 (by decide) ?_
    obtain ⟨rfl, rfl, rfl, rfl, rfl, rfl, rfl, rfl⟩ := re8 hf
    exact hret _ _ _ _ _ rfl rfl hX dX4_steps_11
theorem mmX4_runs_1 : Cond.fieldLink RX4 16 "SlackArms" "trial" "LSlackArms$Gear;" ∈ wsX4_runs := List.mem_of_getElem? (i := 1) rfl
theorem miX4_runs_X4 : ∀ w ∈ u_ws RX4 TX4 9, w ∈ wsX4_runs := fun w h => List.mem_cons_of_mem _ (List.mem_append_left _ (List.mem_append_right _ h))
theorem mmX4_runs_2 : Cond.fieldLink RX4 10 "SlackArms" "now" "LSlackArms$Gear;" ∈ wsX4_runs := List.mem_of_getElem? (i := 2) rfl
theorem mmX4_runs_3 : Cond.methodLink RX4 172 yJ9_max_7cf53 ∈ wsX4_runs := List.mem_of_getElem? (i := 3) rfl
theorem mmX4_runs_4 : Cond.static yJ9_max_7cf53 ∈ wsX4_runs := List.mem_of_getElem? (i := 4) rfl
theorem mmX4_runs_5 : Cond.initialized RJ9 ∈ wsX4_runs := List.mem_of_getElem? (i := 5) rfl
theorem mmX4_runs_6 : Cond.code Lib.Math.max.name Lib.Math.max.code 2 (some .int) ∈ wsX4_runs := List.mem_of_getElem? (i := 6) rfl
theorem mmX4_runs_7 : Cond.fieldLink RX4 163 "SlackArms$Gear" "travel" "I" ∈ wsX4_runs := List.mem_of_getElem? (i := 7) rfl
theorem miX4_runs_X0 : ∀ w ∈ u_ws RX0 TX0 12, w ∈ wsX4_runs := fun w h => List.mem_cons_of_mem _ (List.mem_append_right _ h)
theorem mmX4_runs_8 : Cond.constant RX4 93 (200000) ∈ wsX4_runs := List.mem_of_getElem? (i := 8) rfl
theorem mmX4_runs_9 : Cond.fieldLink RX4 94 "SlackArms$Gear" "hand" "I" ∈ wsX4_runs := List.mem_of_getElem? (i := 9) rfl
theorem mmX4_runs_10 : Cond.fieldLink RX4 177 "SlackArms$Gear" "reversals" "I" ∈ wsX4_runs := List.mem_of_getElem? (i := 10) rfl
set_option maxHeartbeats 4000000 in
set_option maxRecDepth 100000 in
theorem kX4_runs (ad : xAd) (l : Launch) (D : va_G) (cI cB cZ cG cS : ClassId) (h0 h_now h_trial h_images h_kept h_tape h_sights h_sheets h_looks h_now_kindRow h_now_slackRow h_now_placeRow h_now_turnRow h_now_wayRow h_now_strokeRow h_trial_kindRow h_trial_slackRow h_trial_placeRow h_trial_turnRow h_trial_wayRow h_trial_strokeRow : Nat) (tornFault : Int32) (now_arms : Int32) (now_strokes : Int32) (now_hand : Int32) (now_step : Int32) (now_travel : Int32) (now_reversals : Int32) (now_kindRow : (Nat → Int32)) (now_slackRow : (Nat → Int32)) (now_placeRow : (Nat → Int32)) (now_turnRow : (Nat → Int32)) (now_wayRow : (Nat → Int32)) (now_strokeRow : (Nat → Int32)) (trial_arms : Int32) (trial_strokes : Int32) (trial_hand : Int32) (trial_step : Int32) (trial_travel : Int32) (trial_reversals : Int32) (trial_kindRow : (Nat → Int32)) (trial_slackRow : (Nat → Int32)) (trial_placeRow : (Nat → Int32)) (trial_turnRow : (Nat → Int32)) (trial_wayRow : (Nat → Int32)) (trial_strokeRow : (Nat → Int32)) (r0 : Int32) (o_trial_arms' : Int32) (o_trial_strokes' : Int32) (o_trial_hand' : Int32) (o_trial_step' : Int32) (o_trial_travel' : Int32) (o_trial_reversals' : Int32) (o_trial_kindRow' : (Nat → Int32)) (o_trial_slackRow' : (Nat → Int32)) (o_trial_placeRow' : (Nat → Int32)) (o_trial_turnRow' : (Nat → Int32)) (o_trial_wayRow' : (Nat → Int32)) (o_trial_strokeRow' : (Nat → Int32)) (p1 : Int32) (p2 : Int32) (hf : fX4_runs p1 p2 now_arms now_strokes now_hand now_step now_kindRow now_slackRow now_placeRow now_turnRow now_wayRow now_strokeRow trial_arms trial_strokes trial_hand trial_step trial_travel trial_reversals trial_kindRow trial_slackRow trial_placeRow trial_turnRow trial_wayRow trial_strokeRow = some (r0, o_trial_arms', o_trial_strokes', o_trial_hand', o_trial_step', o_trial_travel', o_trial_reversals', o_trial_kindRow', o_trial_slackRow', o_trial_placeRow', o_trial_turnRow', o_trial_wayRow', o_trial_strokeRow')) : xMi ad l yX4_runs wsX4_runs ({ frames := 5, cells := 0, slots := 0, locals := 110 } : Room) D (xTY cI cB cZ cG cS) [.ref h0, .int p1, .int p2] [(h0, .inr (4, [.ref h_now, .ref h_trial, .ref h_images, .ref h_kept, .ref h_tape, .ref h_sights, .ref h_sheets, .ref h_looks, .int tornFault])), (h_now, .inr (0, [.ref h_now_kindRow, .ref h_now_slackRow, .ref h_now_placeRow, .ref h_now_turnRow, .ref h_now_wayRow, .ref h_now_strokeRow, .int now_arms, .int now_strokes, .int now_hand, .int now_step, .int now_travel, .int now_reversals])), (h_now_kindRow, .inl (cI, 4, .inl now_kindRow)), (h_now_slackRow, .inl (cI, 4, .inl now_slackRow)), (h_now_placeRow, .inl (cI, 4, .inl now_placeRow)), (h_now_turnRow, .inl (cI, 4, .inl now_turnRow)), (h_now_wayRow, .inl (cI, 4, .inl now_wayRow)), (h_now_strokeRow, .inl (cI, 16, .inl now_strokeRow)), (h_trial, .inr (0, [.ref h_trial_kindRow, .ref h_trial_slackRow, .ref h_trial_placeRow, .ref h_trial_turnRow, .ref h_trial_wayRow, .ref h_trial_strokeRow, .int trial_arms, .int trial_strokes, .int trial_hand, .int trial_step, .int trial_travel, .int trial_reversals])), (h_trial_kindRow, .inl (cI, 4, .inl trial_kindRow)), (h_trial_slackRow, .inl (cI, 4, .inl trial_slackRow)), (h_trial_placeRow, .inl (cI, 4, .inl trial_placeRow)), (h_trial_turnRow, .inl (cI, 4, .inl trial_turnRow)), (h_trial_wayRow, .inl (cI, 4, .inl trial_wayRow)), (h_trial_strokeRow, .inl (cI, 16, .inl trial_strokeRow))] [(h0, .inr (4, [.ref h_now, .ref h_trial, .ref h_images, .ref h_kept, .ref h_tape, .ref h_sights, .ref h_sheets, .ref h_looks, .int tornFault])), (h_now, .inr (0, [.ref h_now_kindRow, .ref h_now_slackRow, .ref h_now_placeRow, .ref h_now_turnRow, .ref h_now_wayRow, .ref h_now_strokeRow, .int now_arms, .int now_strokes, .int now_hand, .int now_step, .int now_travel, .int now_reversals])), (h_now_kindRow, .inl (cI, 4, .inl now_kindRow)), (h_now_slackRow, .inl (cI, 4, .inl now_slackRow)), (h_now_placeRow, .inl (cI, 4, .inl now_placeRow)), (h_now_turnRow, .inl (cI, 4, .inl now_turnRow)), (h_now_wayRow, .inl (cI, 4, .inl now_wayRow)), (h_now_strokeRow, .inl (cI, 16, .inl now_strokeRow)), (h_trial, .inr (0, [.ref h_trial_kindRow, .ref h_trial_slackRow, .ref h_trial_placeRow, .ref h_trial_turnRow, .ref h_trial_wayRow, .ref h_trial_strokeRow, .int o_trial_arms', .int o_trial_strokes', .int o_trial_hand', .int o_trial_step', .int o_trial_travel', .int o_trial_reversals'])), (h_trial_kindRow, .inl (cI, 4, .inl o_trial_kindRow')), (h_trial_slackRow, .inl (cI, 4, .inl o_trial_slackRow')), (h_trial_placeRow, .inl (cI, 4, .inl o_trial_placeRow')), (h_trial_turnRow, .inl (cI, 4, .inl o_trial_turnRow')), (h_trial_wayRow, .inl (cI, 4, .inl o_trial_wayRow')), (h_trial_strokeRow, .inl (cI, 16, .inl o_trial_strokeRow'))] r0 := by
  refine xMi_of (cc := cX4_runs) (maxL := 4) (ty := .int) (by decide) rfl (Nat.le_of_ble_eq_true rfl) ?_
  intro p e s m args below meth c A Q ls C hX hl hret
  have hx := C.1.1
  have hb := C.1.2.1
  have hl : lv_has ls 4 [(0, .ref h0), (1, .int p1), (2, .int p2)] := hl
  unfold fX4_runs at hf
  refine lv_iload_n (pc := 0) hx hb dX4_runs_0 rfl (lv_at hl 1 rfl) ?_
  obtain ⟨r1, g2, hf⟩ := cl1_adv hf
  refine x_callSi (pc := 1) (rest := []) C hX (kX4_isAhead ad l D cI cB cZ cG cS r1 p1 g2) (va_cwS 1 C.1.2.2.2.2 gX4_runs_X4_isAhead rfl rfl rfl (by decide +kernel) ⟨Nat.le_of_ble_eq_true rfl, Nat.le_of_ble_eq_true rfl⟩) hl.1 rfl rfl (Nat.le_of_ble_eq_true rfl) dX4_runs_1 (fun H locs hX => ?_)
  refine lv_if_eq (pc := 4) (tgt := 16) hx hb dX4_runs_4 (by decide) (fun c3 => ?_) (fun c3 => ?_)
  · replace hf := ite_t c3 hf
    refine lv_iconst (pc := 16) (v := -1) hx hb dX4_runs_16 (by decide) ?_
    obtain ⟨rfl, rfl, rfl, rfl, rfl, rfl, rfl, rfl, rfl, rfl, rfl, rfl, rfl⟩ := re13 hf
    exact hret _ _ _ _ _ rfl rfl hX dX4_runs_17
  · replace hf := ite_f c3 hf
    refine lv_iload_n (pc := 7) hx hb dX4_runs_7 rfl (lv_at hl 2 rfl) ?_
    refine lv_iconst (pc := 8) (v := 0) hx hb dX4_runs_8 (by decide) ?_
    refine lv_iconst (pc := 9) (v := 4) hx hb dX4_runs_9 (by decide) ?_
    obtain ⟨r4, g5, hf⟩ := cl1_adv hf
    refine x_callSi (pc := 10) (rest := []) C hX (kX4_within ad l D cI cB cZ cG cS r4 p2 (0 : Int32) (4 : Int32) g5) (va_cwS 3 C.1.2.2.2.2 gX4_runs_X4_within rfl rfl rfl (by decide +kernel) ⟨Nat.le_of_ble_eq_true rfl, Nat.le_of_ble_eq_true rfl⟩) hl.1 rfl rfl (Nat.le_of_ble_eq_true rfl) dX4_runs_10 (fun H locs hX => ?_)
    refine lv_if_ne (pc := 13) (tgt := 18) hx hb dX4_runs_13 (by decide) (fun c6 => ?_) (fun c6 => ?_)
    · replace hf := ite_f c6 hf
      refine lv_aload_n (pc := 18) hx hb dX4_runs_18 rfl (lv_at hl 0 rfl) ?_
      refine x_getf (pc := 19) (Cn := RX4) (T := TX4) (N := 9) C hX 0 rfl rfl miX4_runs_X4 1 (by decide) mmX4_runs_1 rfl dX4_runs_19 ?_
      refine lv_aload_n (pc := 22) hx hb dX4_runs_22 rfl (lv_at hl 0 rfl) ?_
      refine x_getf (pc := 23) (Cn := RX4) (T := TX4) (N := 9) C hX 0 rfl rfl miX4_runs_X4 0 (by decide) mmX4_runs_2 rfl dX4_runs_23 ?_
      obtain ⟨u7, u8, u9, u10, u11, u12, u13, u14, u15, u16, u17, u18, g19, hf⟩ := cl12_adv hf
      refine x_callVv (pc := 26) (rest := []) (w2 := [(h0, .inr (4, [.ref h_now, .ref h_trial, .ref h_images, .ref h_kept, .ref h_tape, .ref h_sights, .ref h_sheets, .ref h_looks, .int tornFault])), (h_now, .inr (0, [.ref h_now_kindRow, .ref h_now_slackRow, .ref h_now_placeRow, .ref h_now_turnRow, .ref h_now_wayRow, .ref h_now_strokeRow, .int now_arms, .int now_strokes, .int now_hand, .int now_step, .int now_travel, .int now_reversals])), (h_now_kindRow, .inl (cI, 4, .inl now_kindRow)), (h_now_slackRow, .inl (cI, 4, .inl now_slackRow)), (h_now_placeRow, .inl (cI, 4, .inl now_placeRow)), (h_now_turnRow, .inl (cI, 4, .inl now_turnRow)), (h_now_wayRow, .inl (cI, 4, .inl now_wayRow)), (h_now_strokeRow, .inl (cI, 16, .inl now_strokeRow)), (h_trial, .inr (0, [.ref h_trial_kindRow, .ref h_trial_slackRow, .ref h_trial_placeRow, .ref h_trial_turnRow, .ref h_trial_wayRow, .ref h_trial_strokeRow, .int u7, .int u8, .int u9, .int u10, .int u11, .int u12])), (h_trial_kindRow, .inl (cI, 4, .inl u13)), (h_trial_slackRow, .inl (cI, 4, .inl u14)), (h_trial_placeRow, .inl (cI, 4, .inl u15)), (h_trial_turnRow, .inl (cI, 4, .inl u16)), (h_trial_wayRow, .inl (cI, 4, .inl u17)), (h_trial_strokeRow, .inl (cI, 16, .inl u18))]) C hX (kX0_copyFrom ad l D cI cB cZ cG cS h_trial h_trial_kindRow h_trial_slackRow h_trial_placeRow h_trial_turnRow h_trial_wayRow h_trial_strokeRow h_now h_now_kindRow h_now_slackRow h_now_placeRow h_now_turnRow h_now_wayRow h_now_strokeRow trial_arms trial_strokes trial_hand trial_step trial_travel trial_reversals trial_kindRow trial_slackRow trial_placeRow trial_turnRow trial_wayRow trial_strokeRow now_arms now_strokes now_hand now_step now_travel now_reversals now_kindRow now_slackRow now_placeRow now_turnRow now_wayRow now_strokeRow u7 u8 u9 u10 u11 u12 u13 u14 u15 u16 u17 u18 g19) (cwV 1 C.1.2.2.2.2 gX4_runs_X0_copyFrom rfl rfl rfl (by decide +kernel) ⟨Nat.le_of_ble_eq_true rfl, Nat.le_of_ble_eq_true rfl⟩) [8, 9, 10, 11, 12, 13, 14, 1, 2, 3, 4, 5, 6, 7] [0] [0, 8, 9, 10, 11, 12, 13, 14, 1, 2, 3, 4, 5, 6, 7] rfl rfl rfl rfl (by decide) rfl rfl 0 rfl rfl rfl hl.1 rfl rfl (Nat.le_of_ble_eq_true rfl) dX4_runs_26 (fun H locs hX => ?_)
      refine lv_aload_n (pc := 29) hx hb dX4_runs_29 rfl (lv_at hl 0 rfl) ?_
      refine x_getf (pc := 30) (Cn := RX4) (T := TX4) (N := 9) C hX 0 rfl rfl miX4_runs_X4 1 (by decide) mmX4_runs_1 rfl dX4_runs_30 ?_
      obtain ⟨r20, g21, hf⟩ := cl1_adv hf
      refine x_callVi (pc := 33) (rest := []) (w2 := [(h0, .inr (4, [.ref h_now, .ref h_trial, .ref h_images, .ref h_kept, .ref h_tape, .ref h_sights, .ref h_sheets, .ref h_looks, .int tornFault])), (h_now, .inr (0, [.ref h_now_kindRow, .ref h_now_slackRow, .ref h_now_placeRow, .ref h_now_turnRow, .ref h_now_wayRow, .ref h_now_strokeRow, .int now_arms, .int now_strokes, .int now_hand, .int now_step, .int now_travel, .int now_reversals])), (h_now_kindRow, .inl (cI, 4, .inl now_kindRow)), (h_now_slackRow, .inl (cI, 4, .inl now_slackRow)), (h_now_placeRow, .inl (cI, 4, .inl now_placeRow)), (h_now_turnRow, .inl (cI, 4, .inl now_turnRow)), (h_now_wayRow, .inl (cI, 4, .inl now_wayRow)), (h_now_strokeRow, .inl (cI, 16, .inl now_strokeRow)), (h_trial, .inr (0, [.ref h_trial_kindRow, .ref h_trial_slackRow, .ref h_trial_placeRow, .ref h_trial_turnRow, .ref h_trial_wayRow, .ref h_trial_strokeRow, .int u7, .int u8, .int u9, .int u10, .int u11, .int u12])), (h_trial_kindRow, .inl (cI, 4, .inl u13)), (h_trial_slackRow, .inl (cI, 4, .inl u14)), (h_trial_placeRow, .inl (cI, 4, .inl u15)), (h_trial_turnRow, .inl (cI, 4, .inl u16)), (h_trial_wayRow, .inl (cI, 4, .inl u17)), (h_trial_strokeRow, .inl (cI, 16, .inl u18))]) C hX (kX0_error ad l D cI cB cZ cG cS h_trial h_trial_kindRow h_trial_slackRow h_trial_placeRow h_trial_turnRow h_trial_wayRow h_trial_strokeRow u7 u8 u9 u10 u11 u12 u13 u14 u15 u16 u17 u18 r20 g21) (cwV 0 C.1.2.2.2.2 gX4_runs_X0_error rfl rfl rfl (by decide +kernel) ⟨Nat.le_of_ble_eq_true rfl, Nat.le_of_ble_eq_true rfl⟩) [8, 9, 10, 11, 12, 13, 14] [0, 1, 2, 3, 4, 5, 6, 7] [0, 1, 2, 3, 4, 5, 6, 7, 8, 9, 10, 11, 12, 13, 14] rfl rfl rfl rfl (by decide) rfl rfl 0 rfl rfl rfl hl.1 rfl rfl (Nat.le_of_ble_eq_true rfl) dX4_runs_33 (fun H locs hX => ?_)
      refine lv_aload_n (pc := 36) hx hb dX4_runs_36 rfl (lv_at hl 0 rfl) ?_
      refine x_getf (pc := 37) (Cn := RX4) (T := TX4) (N := 9) C hX 0 rfl rfl miX4_runs_X4 1 (by decide) mmX4_runs_1 rfl dX4_runs_37 ?_
      refine lv_iload_n (pc := 40) hx hb dX4_runs_40 rfl (lv_at hl 1 rfl) ?_
      obtain ⟨r22, u23, u24, u25, u26, u27, u28, u29, g30, hf⟩ := cl8_adv hf
      refine x_callVi (pc := 41) (rest := [.int r20]) (w2 := [(h0, .inr (4, [.ref h_now, .ref h_trial, .ref h_images, .ref h_kept, .ref h_tape, .ref h_sights, .ref h_sheets, .ref h_looks, .int tornFault])), (h_now, .inr (0, [.ref h_now_kindRow, .ref h_now_slackRow, .ref h_now_placeRow, .ref h_now_turnRow, .ref h_now_wayRow, .ref h_now_strokeRow, .int now_arms, .int now_strokes, .int now_hand, .int now_step, .int now_travel, .int now_reversals])), (h_now_kindRow, .inl (cI, 4, .inl now_kindRow)), (h_now_slackRow, .inl (cI, 4, .inl now_slackRow)), (h_now_placeRow, .inl (cI, 4, .inl now_placeRow)), (h_now_turnRow, .inl (cI, 4, .inl now_turnRow)), (h_now_wayRow, .inl (cI, 4, .inl now_wayRow)), (h_now_strokeRow, .inl (cI, 16, .inl now_strokeRow)), (h_trial, .inr (0, [.ref h_trial_kindRow, .ref h_trial_slackRow, .ref h_trial_placeRow, .ref h_trial_turnRow, .ref h_trial_wayRow, .ref h_trial_strokeRow, .int u7, .int u8, .int u23, .int u24, .int u25, .int u26])), (h_trial_kindRow, .inl (cI, 4, .inl u13)), (h_trial_slackRow, .inl (cI, 4, .inl u14)), (h_trial_placeRow, .inl (cI, 4, .inl u27)), (h_trial_turnRow, .inl (cI, 4, .inl u28)), (h_trial_wayRow, .inl (cI, 4, .inl u29)), (h_trial_strokeRow, .inl (cI, 16, .inl u18))]) C hX (kX0_greatestError ad l D cI cB cZ cG cS h_trial h_trial_kindRow h_trial_slackRow h_trial_placeRow h_trial_turnRow h_trial_wayRow h_trial_strokeRow u7 u8 u9 u10 u11 u12 u13 u14 u15 u16 u17 u18 r22 u23 u24 u25 u26 u27 u28 u29 p1 g30) (cwV 1 C.1.2.2.2.2 gX4_runs_X0_greatestError rfl rfl rfl (by decide +kernel) ⟨Nat.le_of_ble_eq_true rfl, Nat.le_of_ble_eq_true rfl⟩) [8, 9, 10, 11, 12, 13, 14] [0, 1, 2, 3, 4, 5, 6, 7] [0, 1, 2, 3, 4, 5, 6, 7, 8, 9, 10, 11, 12, 13, 14] rfl rfl rfl rfl (by decide) rfl rfl 0 rfl rfl rfl hl.1 rfl rfl (Nat.le_of_ble_eq_true rfl) dX4_runs_41 (fun H locs hX => ?_)
      refine va_mmax (pc := 44) hx hb (C.1.2.2.1.trans hl.1.symm) C.1.2.2.2.1 (C.1.2.2.2.2 _ mmX4_runs_3) (C.1.2.2.2.2 _ mmX4_runs_4) (C.1.2.2.2.2 _ mmX4_runs_5) (C.1.2.2.2.2 _ mmX4_runs_6) (Nat.le_of_ble_eq_true rfl) (Nat.le_of_ble_eq_true rfl) (Nat.zero_le _) (Nat.zero_le _) dX4_runs_44 ?_
      refine lv_topi (fun v31 ev31 => ?_)
      replace hf := bnd_use (e := (imax r20 r22)) ev31 hf
      refine lv_istore_n (pc := 47) (lv' := [(3, .int v31), (0, .ref h0), (1, .int p1), (2, .int p2)]) hx hb dX4_runs_47 rfl hl (by decide) rfl (fun ls hl => ?_)
      refine lv_iload_n (pc := 48) hx hb dX4_runs_48 rfl (lv_at hl 3 rfl) ?_
      rcases Decidable.em (p2 = 0) with c32 | c32
      · replace hf := ite_t c32 hf
        refine lv_tableIn (pc := 49) (off := 31) (tgt := 80) hx hb dX4_runs_49 (by rw [c32]; decide) (by rw [c32]; decide) (by rw [c32]; decide) (by decide) ?_
        refine lv_aload_n (pc := 80) hx hb dX4_runs_80 rfl (lv_at hl 1 rfl) ?_
        refine x_getf (pc := 81) (Cn := RX4) (T := TX4) (N := 9) C hX 0 rfl rfl miX4_runs_X4 1 (by decide) mmX4_runs_1 rfl dX4_runs_81 ?_
        refine x_getf (pc := 84) (Cn := RX0) (T := TX0) (N := 12) C hX 8 rfl rfl miX4_runs_X0 10 (by decide) mmX4_runs_7 rfl dX4_runs_84 ?_
        obtain ⟨rfl, rfl, rfl, rfl, rfl, rfl, rfl, rfl, rfl, rfl, rfl, rfl, rfl⟩ := re13 hf
        exact hret _ _ _ _ _ rfl rfl hX dX4_runs_87
      · replace hf := ite_f c32 hf
        rcases Decidable.em (p2 = 1) with c33 | c33
        · replace hf := ite_t c33 hf
          refine lv_tableIn (pc := 49) (off := 39) (tgt := 88) hx hb dX4_runs_49 (by rw [c33]; decide) (by rw [c33]; decide) (by rw [c33]; decide) (by decide) ?_
          refine lv_ldc (pc := 88) hx hb C.1.2.2.2.1 (C.1.2.2.2.2 _ mmX4_runs_8) dX4_runs_88 ?_
          refine lv_aload_n (pc := 90) hx hb dX4_runs_90 rfl (lv_at hl 1 rfl) ?_
          refine x_getf (pc := 91) (Cn := RX4) (T := TX4) (N := 9) C hX 0 rfl rfl miX4_runs_X4 1 (by decide) mmX4_runs_1 rfl dX4_runs_91 ?_
          refine x_getf (pc := 94) (Cn := RX0) (T := TX0) (N := 12) C hX 8 rfl rfl miX4_runs_X0 8 (by decide) mmX4_runs_9 rfl dX4_runs_94 ?_
          refine lv_iadd (pc := 97) hx hb dX4_runs_97 ?_
          obtain ⟨rfl, rfl, rfl, rfl, rfl, rfl, rfl, rfl, rfl, rfl, rfl, rfl, rfl⟩ := re13 hf
          exact hret _ _ _ _ _ rfl rfl hX dX4_runs_98
        · replace hf := ite_f c33 hf
          rcases Decidable.em (p2 = 2) with c34 | c34
          · replace hf := ite_t c34 hf
            refine lv_tableIn (pc := 49) (off := 50) (tgt := 99) hx hb dX4_runs_49 (by rw [c34]; decide) (by rw [c34]; decide) (by rw [c34]; decide) (by decide) ?_
            refine lv_aload_n (pc := 99) hx hb dX4_runs_99 rfl (lv_at hl 1 rfl) ?_
            refine x_getf (pc := 100) (Cn := RX4) (T := TX4) (N := 9) C hX 0 rfl rfl miX4_runs_X4 1 (by decide) mmX4_runs_1 rfl dX4_runs_100 ?_
            obtain ⟨r35, g36, hf⟩ := cl1_adv hf
            refine x_callVi (pc := 103) (rest := []) (w2 := [(h0, .inr (4, [.ref h_now, .ref h_trial, .ref h_images, .ref h_kept, .ref h_tape, .ref h_sights, .ref h_sheets, .ref h_looks, .int tornFault])), (h_now, .inr (0, [.ref h_now_kindRow, .ref h_now_slackRow, .ref h_now_placeRow, .ref h_now_turnRow, .ref h_now_wayRow, .ref h_now_strokeRow, .int now_arms, .int now_strokes, .int now_hand, .int now_step, .int now_travel, .int now_reversals])), (h_now_kindRow, .inl (cI, 4, .inl now_kindRow)), (h_now_slackRow, .inl (cI, 4, .inl now_slackRow)), (h_now_placeRow, .inl (cI, 4, .inl now_placeRow)), (h_now_turnRow, .inl (cI, 4, .inl now_turnRow)), (h_now_wayRow, .inl (cI, 4, .inl now_wayRow)), (h_now_strokeRow, .inl (cI, 16, .inl now_strokeRow)), (h_trial, .inr (0, [.ref h_trial_kindRow, .ref h_trial_slackRow, .ref h_trial_placeRow, .ref h_trial_turnRow, .ref h_trial_wayRow, .ref h_trial_strokeRow, .int u7, .int u8, .int u23, .int u24, .int u25, .int u26])), (h_trial_kindRow, .inl (cI, 4, .inl u13)), (h_trial_slackRow, .inl (cI, 4, .inl u14)), (h_trial_placeRow, .inl (cI, 4, .inl u27)), (h_trial_turnRow, .inl (cI, 4, .inl u28)), (h_trial_wayRow, .inl (cI, 4, .inl u29)), (h_trial_strokeRow, .inl (cI, 16, .inl u18))]) C hX (kX0_error ad l D cI cB cZ cG cS h_trial h_trial_kindRow h_trial_slackRow h_trial_placeRow h_trial_turnRow h_trial_wayRow h_trial_strokeRow u7 u8 u23 u24 u25 u26 u13 u14 u27 u28 u29 u18 r35 g36) (cwV 0 C.1.2.2.2.2 gX4_runs_X0_error rfl rfl rfl (by decide +kernel) ⟨Nat.le_of_ble_eq_true rfl, Nat.le_of_ble_eq_true rfl⟩) [8, 9, 10, 11, 12, 13, 14] [0, 1, 2, 3, 4, 5, 6, 7] [0, 1, 2, 3, 4, 5, 6, 7, 8, 9, 10, 11, 12, 13, 14] rfl rfl rfl rfl (by decide) rfl rfl 0 rfl rfl rfl hl.1 rfl rfl (Nat.le_of_ble_eq_true rfl) dX4_runs_103 (fun H locs hX => ?_)
            obtain ⟨rfl, rfl, rfl, rfl, rfl, rfl, rfl, rfl, rfl, rfl, rfl, rfl, rfl⟩ := re13 hf
            exact hret _ _ _ _ _ rfl rfl hX dX4_runs_106
          · replace hf := ite_f c34 hf
            rcases Decidable.em (p2 = 3) with c37 | c37
            · replace hf := ite_t c37 hf
              refine lv_tableIn (pc := 49) (off := 58) (tgt := 107) hx hb dX4_runs_49 (by rw [c37]; decide) (by rw [c37]; decide) (by rw [c37]; decide) (by decide) ?_
              refine lv_iload_n (pc := 107) hx hb dX4_runs_107 rfl (lv_at hl 0 rfl) ?_
              obtain ⟨rfl, rfl, rfl, rfl, rfl, rfl, rfl, rfl, rfl, rfl, rfl, rfl, rfl⟩ := re13 hf
              exact hret _ _ _ _ _ rfl rfl hX dX4_runs_108
            · replace hf := ite_f c37 hf
              refine lv_tableOut (pc := 49) (tgt := 109) hx hb dX4_runs_49 (by have := tbl_ne (n := 0) (by decide) c32; have := tbl_ne (n := 1) (by decide) c33; have := tbl_ne (n := 2) (by decide) c34; have := tbl_ne (n := 3) (by decide) c37; omega) (by decide) ?_
              refine lv_aload_n (pc := 109) hx hb dX4_runs_109 rfl (lv_at hl 1 rfl) ?_
              refine x_getf (pc := 110) (Cn := RX4) (T := TX4) (N := 9) C hX 0 rfl rfl miX4_runs_X4 1 (by decide) mmX4_runs_1 rfl dX4_runs_110 ?_
              refine x_getf (pc := 113) (Cn := RX0) (T := TX0) (N := 12) C hX 8 rfl rfl miX4_runs_X0 11 (by decide) mmX4_runs_10 rfl dX4_runs_113 ?_
              obtain ⟨rfl, rfl, rfl, rfl, rfl, rfl, rfl, rfl, rfl, rfl, rfl, rfl, rfl⟩ := re13 hf
              exact hret _ _ _ _ _ rfl rfl hX dX4_runs_116
    · replace hf := ite_t c6 hf
      refine lv_iconst (pc := 16) (v := -1) hx hb dX4_runs_16 (by decide) ?_
      obtain ⟨rfl, rfl, rfl, rfl, rfl, rfl, rfl, rfl, rfl, rfl, rfl, rfl, rfl⟩ := re13 hf
      exact hret _ _ _ _ _ rfl rfl hX dX4_runs_17
theorem mmX4_ahead_1 : Cond.fieldLink RX4 16 "SlackArms" "trial" "LSlackArms$Gear;" ∈ wsX4_ahead := List.mem_of_getElem? (i := 1) rfl
theorem miX4_ahead_X4 : ∀ w ∈ u_ws RX4 TX4 9, w ∈ wsX4_ahead := fun w h => List.mem_cons_of_mem _ (List.mem_append_left _ (List.mem_append_right _ h))
theorem mmX4_ahead_2 : Cond.fieldLink RX4 10 "SlackArms" "now" "LSlackArms$Gear;" ∈ wsX4_ahead := List.mem_of_getElem? (i := 2) rfl
theorem mmX4_ahead_3 : Cond.constant RX4 93 (200000) ∈ wsX4_ahead := List.mem_of_getElem? (i := 3) rfl
theorem mmX4_ahead_4 : Cond.fieldLink RX4 116 "SlackArms$Gear" "placeRow" "[I" ∈ wsX4_ahead := List.mem_of_getElem? (i := 4) rfl
theorem miX4_ahead_X0 : ∀ w ∈ u_ws RX0 TX0 12, w ∈ wsX4_ahead := fun w h => List.mem_cons_of_mem _ (List.mem_append_right _ h)
set_option maxHeartbeats 4000000 in
set_option maxRecDepth 100000 in
theorem kX4_ahead (ad : xAd) (l : Launch) (D : va_G) (cI cB cZ cG cS : ClassId) (h0 h_now h_trial h_images h_kept h_tape h_sights h_sheets h_looks h_now_kindRow h_now_slackRow h_now_placeRow h_now_turnRow h_now_wayRow h_now_strokeRow h_trial_kindRow h_trial_slackRow h_trial_placeRow h_trial_turnRow h_trial_wayRow h_trial_strokeRow : Nat) (tornFault : Int32) (now_arms : Int32) (now_strokes : Int32) (now_hand : Int32) (now_step : Int32) (now_travel : Int32) (now_reversals : Int32) (now_kindRow : (Nat → Int32)) (now_slackRow : (Nat → Int32)) (now_placeRow : (Nat → Int32)) (now_turnRow : (Nat → Int32)) (now_wayRow : (Nat → Int32)) (now_strokeRow : (Nat → Int32)) (trial_arms : Int32) (trial_strokes : Int32) (trial_hand : Int32) (trial_step : Int32) (trial_travel : Int32) (trial_reversals : Int32) (trial_kindRow : (Nat → Int32)) (trial_slackRow : (Nat → Int32)) (trial_placeRow : (Nat → Int32)) (trial_turnRow : (Nat → Int32)) (trial_wayRow : (Nat → Int32)) (trial_strokeRow : (Nat → Int32)) (r0 : Int32) (o_trial_arms' : Int32) (o_trial_strokes' : Int32) (o_trial_hand' : Int32) (o_trial_step' : Int32) (o_trial_travel' : Int32) (o_trial_reversals' : Int32) (o_trial_kindRow' : (Nat → Int32)) (o_trial_slackRow' : (Nat → Int32)) (o_trial_placeRow' : (Nat → Int32)) (o_trial_turnRow' : (Nat → Int32)) (o_trial_wayRow' : (Nat → Int32)) (o_trial_strokeRow' : (Nat → Int32)) (p1 : Int32) (p2 : Int32) (hf : fX4_ahead p1 p2 now_arms now_strokes now_hand now_step now_kindRow now_slackRow now_placeRow now_turnRow now_wayRow now_strokeRow trial_arms trial_strokes trial_hand trial_step trial_travel trial_reversals trial_kindRow trial_slackRow trial_placeRow trial_turnRow trial_wayRow trial_strokeRow = some (r0, o_trial_arms', o_trial_strokes', o_trial_hand', o_trial_step', o_trial_travel', o_trial_reversals', o_trial_kindRow', o_trial_slackRow', o_trial_placeRow', o_trial_turnRow', o_trial_wayRow', o_trial_strokeRow')) : xMi ad l yX4_ahead wsX4_ahead ({ frames := 5, cells := 0, slots := 0, locals := 109 } : Room) D (xTY cI cB cZ cG cS) [.ref h0, .int p1, .int p2] [(h0, .inr (4, [.ref h_now, .ref h_trial, .ref h_images, .ref h_kept, .ref h_tape, .ref h_sights, .ref h_sheets, .ref h_looks, .int tornFault])), (h_now, .inr (0, [.ref h_now_kindRow, .ref h_now_slackRow, .ref h_now_placeRow, .ref h_now_turnRow, .ref h_now_wayRow, .ref h_now_strokeRow, .int now_arms, .int now_strokes, .int now_hand, .int now_step, .int now_travel, .int now_reversals])), (h_now_kindRow, .inl (cI, 4, .inl now_kindRow)), (h_now_slackRow, .inl (cI, 4, .inl now_slackRow)), (h_now_placeRow, .inl (cI, 4, .inl now_placeRow)), (h_now_turnRow, .inl (cI, 4, .inl now_turnRow)), (h_now_wayRow, .inl (cI, 4, .inl now_wayRow)), (h_now_strokeRow, .inl (cI, 16, .inl now_strokeRow)), (h_trial, .inr (0, [.ref h_trial_kindRow, .ref h_trial_slackRow, .ref h_trial_placeRow, .ref h_trial_turnRow, .ref h_trial_wayRow, .ref h_trial_strokeRow, .int trial_arms, .int trial_strokes, .int trial_hand, .int trial_step, .int trial_travel, .int trial_reversals])), (h_trial_kindRow, .inl (cI, 4, .inl trial_kindRow)), (h_trial_slackRow, .inl (cI, 4, .inl trial_slackRow)), (h_trial_placeRow, .inl (cI, 4, .inl trial_placeRow)), (h_trial_turnRow, .inl (cI, 4, .inl trial_turnRow)), (h_trial_wayRow, .inl (cI, 4, .inl trial_wayRow)), (h_trial_strokeRow, .inl (cI, 16, .inl trial_strokeRow))] [(h0, .inr (4, [.ref h_now, .ref h_trial, .ref h_images, .ref h_kept, .ref h_tape, .ref h_sights, .ref h_sheets, .ref h_looks, .int tornFault])), (h_now, .inr (0, [.ref h_now_kindRow, .ref h_now_slackRow, .ref h_now_placeRow, .ref h_now_turnRow, .ref h_now_wayRow, .ref h_now_strokeRow, .int now_arms, .int now_strokes, .int now_hand, .int now_step, .int now_travel, .int now_reversals])), (h_now_kindRow, .inl (cI, 4, .inl now_kindRow)), (h_now_slackRow, .inl (cI, 4, .inl now_slackRow)), (h_now_placeRow, .inl (cI, 4, .inl now_placeRow)), (h_now_turnRow, .inl (cI, 4, .inl now_turnRow)), (h_now_wayRow, .inl (cI, 4, .inl now_wayRow)), (h_now_strokeRow, .inl (cI, 16, .inl now_strokeRow)), (h_trial, .inr (0, [.ref h_trial_kindRow, .ref h_trial_slackRow, .ref h_trial_placeRow, .ref h_trial_turnRow, .ref h_trial_wayRow, .ref h_trial_strokeRow, .int o_trial_arms', .int o_trial_strokes', .int o_trial_hand', .int o_trial_step', .int o_trial_travel', .int o_trial_reversals'])), (h_trial_kindRow, .inl (cI, 4, .inl o_trial_kindRow')), (h_trial_slackRow, .inl (cI, 4, .inl o_trial_slackRow')), (h_trial_placeRow, .inl (cI, 4, .inl o_trial_placeRow')), (h_trial_turnRow, .inl (cI, 4, .inl o_trial_turnRow')), (h_trial_wayRow, .inl (cI, 4, .inl o_trial_wayRow')), (h_trial_strokeRow, .inl (cI, 16, .inl o_trial_strokeRow'))] r0 := by
  refine xMi_of (cc := cX4_ahead) (maxL := 3) (ty := .int) (by decide) rfl (Nat.le_of_ble_eq_true rfl) ?_
  intro p e s m args below meth c A Q ls C hX hl hret
  have hx := C.1.1
  have hb := C.1.2.1
  have hl : lv_has ls 3 [(0, .ref h0), (1, .int p1), (2, .int p2)] := hl
  unfold fX4_ahead at hf
  refine lv_aload_n (pc := 0) hx hb dX4_ahead_0 rfl (lv_at hl 0 rfl) ?_
  refine lv_iload_n (pc := 1) hx hb dX4_ahead_1 rfl (lv_at hl 1 rfl) ?_
  obtain ⟨r1, g2, hf⟩ := cl1_adv hf
  refine x_callVi (pc := 2) (rest := []) (w2 := [(h0, .inr (4, [.ref h_now, .ref h_trial, .ref h_images, .ref h_kept, .ref h_tape, .ref h_sights, .ref h_sheets, .ref h_looks, .int tornFault])), (h_now, .inr (0, [.ref h_now_kindRow, .ref h_now_slackRow, .ref h_now_placeRow, .ref h_now_turnRow, .ref h_now_wayRow, .ref h_now_strokeRow, .int now_arms, .int now_strokes, .int now_hand, .int now_step, .int now_travel, .int now_reversals])), (h_now_kindRow, .inl (cI, 4, .inl now_kindRow)), (h_now_slackRow, .inl (cI, 4, .inl now_slackRow)), (h_now_placeRow, .inl (cI, 4, .inl now_placeRow)), (h_now_turnRow, .inl (cI, 4, .inl now_turnRow)), (h_now_wayRow, .inl (cI, 4, .inl now_wayRow)), (h_now_strokeRow, .inl (cI, 16, .inl now_strokeRow)), (h_trial, .inr (0, [.ref h_trial_kindRow, .ref h_trial_slackRow, .ref h_trial_placeRow, .ref h_trial_turnRow, .ref h_trial_wayRow, .ref h_trial_strokeRow, .int trial_arms, .int trial_strokes, .int trial_hand, .int trial_step, .int trial_travel, .int trial_reversals])), (h_trial_kindRow, .inl (cI, 4, .inl trial_kindRow)), (h_trial_slackRow, .inl (cI, 4, .inl trial_slackRow)), (h_trial_placeRow, .inl (cI, 4, .inl trial_placeRow)), (h_trial_turnRow, .inl (cI, 4, .inl trial_turnRow)), (h_trial_wayRow, .inl (cI, 4, .inl trial_wayRow)), (h_trial_strokeRow, .inl (cI, 16, .inl trial_strokeRow))]) C hX (kX4_isArm ad l D cI cB cZ cG cS h0 h_now h_trial h_images h_kept h_tape h_sights h_sheets h_looks h_now_kindRow h_now_slackRow h_now_placeRow h_now_turnRow h_now_wayRow h_now_strokeRow tornFault now_arms now_strokes now_hand now_step now_travel now_reversals now_kindRow now_slackRow now_placeRow now_turnRow now_wayRow now_strokeRow r1 p1 g2) (cwV 1 C.1.2.2.2.2 gX4_ahead_X4_isArm rfl rfl rfl (by decide +kernel) ⟨Nat.le_of_ble_eq_true rfl, Nat.le_of_ble_eq_true rfl⟩) [0, 1, 2, 3, 4, 5, 6, 7] [8, 9, 10, 11, 12, 13, 14] [7, 8, 9, 10, 11, 12, 13, 14, 0, 1, 2, 3, 4, 5, 6] rfl rfl rfl rfl (by decide) rfl rfl 0 rfl rfl rfl hl.1 rfl rfl (Nat.le_of_ble_eq_true rfl) dX4_ahead_2 (fun H locs hX => ?_)
  refine lv_if_eq (pc := 5) (tgt := 15) hx hb dX4_ahead_5 (by decide) (fun c3 => ?_) (fun c3 => ?_)
  · replace hf := ite_t c3 hf
    refine lv_iconst (pc := 15) (v := -1) hx hb dX4_ahead_15 (by decide) ?_
    obtain ⟨rfl, rfl, rfl, rfl, rfl, rfl, rfl, rfl, rfl, rfl, rfl, rfl, rfl⟩ := re13 hf
    exact hret _ _ _ _ _ rfl rfl hX dX4_ahead_16
  · replace hf := ite_f c3 hf
    refine lv_iload_n (pc := 8) hx hb dX4_ahead_8 rfl (lv_at hl 2 rfl) ?_
    obtain ⟨r4, g5, hf⟩ := cl1_adv hf
    refine x_callSi (pc := 9) (rest := []) C hX (kX4_isAhead ad l D cI cB cZ cG cS r4 p2 g5) (va_cwS 1 C.1.2.2.2.2 gX4_ahead_X4_isAhead rfl rfl rfl (by decide +kernel) ⟨Nat.le_of_ble_eq_true rfl, Nat.le_of_ble_eq_true rfl⟩) hl.1 rfl rfl (Nat.le_of_ble_eq_true rfl) dX4_ahead_9 (fun H locs hX => ?_)
    refine lv_if_ne (pc := 12) (tgt := 17) hx hb dX4_ahead_12 (by decide) (fun c6 => ?_) (fun c6 => ?_)
    · replace hf := ite_f c6 hf
      refine lv_aload_n (pc := 17) hx hb dX4_ahead_17 rfl (lv_at hl 0 rfl) ?_
      refine x_getf (pc := 18) (Cn := RX4) (T := TX4) (N := 9) C hX 0 rfl rfl miX4_ahead_X4 1 (by decide) mmX4_ahead_1 rfl dX4_ahead_18 ?_
      refine lv_aload_n (pc := 21) hx hb dX4_ahead_21 rfl (lv_at hl 0 rfl) ?_
      refine x_getf (pc := 22) (Cn := RX4) (T := TX4) (N := 9) C hX 0 rfl rfl miX4_ahead_X4 0 (by decide) mmX4_ahead_2 rfl dX4_ahead_22 ?_
      obtain ⟨u7, u8, u9, u10, u11, u12, u13, u14, u15, u16, u17, u18, g19, hf⟩ := cl12_adv hf
      refine x_callVv (pc := 25) (rest := []) (w2 := [(h0, .inr (4, [.ref h_now, .ref h_trial, .ref h_images, .ref h_kept, .ref h_tape, .ref h_sights, .ref h_sheets, .ref h_looks, .int tornFault])), (h_now, .inr (0, [.ref h_now_kindRow, .ref h_now_slackRow, .ref h_now_placeRow, .ref h_now_turnRow, .ref h_now_wayRow, .ref h_now_strokeRow, .int now_arms, .int now_strokes, .int now_hand, .int now_step, .int now_travel, .int now_reversals])), (h_now_kindRow, .inl (cI, 4, .inl now_kindRow)), (h_now_slackRow, .inl (cI, 4, .inl now_slackRow)), (h_now_placeRow, .inl (cI, 4, .inl now_placeRow)), (h_now_turnRow, .inl (cI, 4, .inl now_turnRow)), (h_now_wayRow, .inl (cI, 4, .inl now_wayRow)), (h_now_strokeRow, .inl (cI, 16, .inl now_strokeRow)), (h_trial, .inr (0, [.ref h_trial_kindRow, .ref h_trial_slackRow, .ref h_trial_placeRow, .ref h_trial_turnRow, .ref h_trial_wayRow, .ref h_trial_strokeRow, .int u7, .int u8, .int u9, .int u10, .int u11, .int u12])), (h_trial_kindRow, .inl (cI, 4, .inl u13)), (h_trial_slackRow, .inl (cI, 4, .inl u14)), (h_trial_placeRow, .inl (cI, 4, .inl u15)), (h_trial_turnRow, .inl (cI, 4, .inl u16)), (h_trial_wayRow, .inl (cI, 4, .inl u17)), (h_trial_strokeRow, .inl (cI, 16, .inl u18))]) C hX (kX0_copyFrom ad l D cI cB cZ cG cS h_trial h_trial_kindRow h_trial_slackRow h_trial_placeRow h_trial_turnRow h_trial_wayRow h_trial_strokeRow h_now h_now_kindRow h_now_slackRow h_now_placeRow h_now_turnRow h_now_wayRow h_now_strokeRow trial_arms trial_strokes trial_hand trial_step trial_travel trial_reversals trial_kindRow trial_slackRow trial_placeRow trial_turnRow trial_wayRow trial_strokeRow now_arms now_strokes now_hand now_step now_travel now_reversals now_kindRow now_slackRow now_placeRow now_turnRow now_wayRow now_strokeRow u7 u8 u9 u10 u11 u12 u13 u14 u15 u16 u17 u18 g19) (cwV 1 C.1.2.2.2.2 gX4_ahead_X0_copyFrom rfl rfl rfl (by decide +kernel) ⟨Nat.le_of_ble_eq_true rfl, Nat.le_of_ble_eq_true rfl⟩) [8, 9, 10, 11, 12, 13, 14, 1, 2, 3, 4, 5, 6, 7] [0] [0, 8, 9, 10, 11, 12, 13, 14, 1, 2, 3, 4, 5, 6, 7] rfl rfl rfl rfl (by decide) rfl rfl 0 rfl rfl rfl hl.1 rfl rfl (Nat.le_of_ble_eq_true rfl) dX4_ahead_25 (fun H locs hX => ?_)
      refine lv_aload_n (pc := 28) hx hb dX4_ahead_28 rfl (lv_at hl 0 rfl) ?_
      refine x_getf (pc := 29) (Cn := RX4) (T := TX4) (N := 9) C hX 0 rfl rfl miX4_ahead_X4 1 (by decide) mmX4_ahead_1 rfl dX4_ahead_29 ?_
      refine lv_iload_n (pc := 32) hx hb dX4_ahead_32 rfl (lv_at hl 2 rfl) ?_
      obtain ⟨u20, u21, u22, u23, u24, u25, u26, g27, hf⟩ := cl7_adv hf
      refine x_callVv (pc := 33) (rest := []) (w2 := [(h0, .inr (4, [.ref h_now, .ref h_trial, .ref h_images, .ref h_kept, .ref h_tape, .ref h_sights, .ref h_sheets, .ref h_looks, .int tornFault])), (h_now, .inr (0, [.ref h_now_kindRow, .ref h_now_slackRow, .ref h_now_placeRow, .ref h_now_turnRow, .ref h_now_wayRow, .ref h_now_strokeRow, .int now_arms, .int now_strokes, .int now_hand, .int now_step, .int now_travel, .int now_reversals])), (h_now_kindRow, .inl (cI, 4, .inl now_kindRow)), (h_now_slackRow, .inl (cI, 4, .inl now_slackRow)), (h_now_placeRow, .inl (cI, 4, .inl now_placeRow)), (h_now_turnRow, .inl (cI, 4, .inl now_turnRow)), (h_now_wayRow, .inl (cI, 4, .inl now_wayRow)), (h_now_strokeRow, .inl (cI, 16, .inl now_strokeRow)), (h_trial, .inr (0, [.ref h_trial_kindRow, .ref h_trial_slackRow, .ref h_trial_placeRow, .ref h_trial_turnRow, .ref h_trial_wayRow, .ref h_trial_strokeRow, .int u7, .int u8, .int u20, .int u21, .int u22, .int u23])), (h_trial_kindRow, .inl (cI, 4, .inl u13)), (h_trial_slackRow, .inl (cI, 4, .inl u14)), (h_trial_placeRow, .inl (cI, 4, .inl u24)), (h_trial_turnRow, .inl (cI, 4, .inl u25)), (h_trial_wayRow, .inl (cI, 4, .inl u26)), (h_trial_strokeRow, .inl (cI, 16, .inl u18))]) C hX (kX0_takeSteps ad l D cI cB cZ cG cS h_trial h_trial_kindRow h_trial_slackRow h_trial_placeRow h_trial_turnRow h_trial_wayRow h_trial_strokeRow u7 u8 u9 u10 u11 u12 u13 u14 u15 u16 u17 u18 u20 u21 u22 u23 u24 u25 u26 p2 g27) (cwV 1 C.1.2.2.2.2 gX4_ahead_X0_takeSteps rfl rfl rfl (by decide +kernel) ⟨Nat.le_of_ble_eq_true rfl, Nat.le_of_ble_eq_true rfl⟩) [8, 9, 10, 11, 12, 13, 14] [0, 1, 2, 3, 4, 5, 6, 7] [0, 1, 2, 3, 4, 5, 6, 7, 8, 9, 10, 11, 12, 13, 14] rfl rfl rfl rfl (by decide) rfl rfl 0 rfl rfl rfl hl.1 rfl rfl (Nat.le_of_ble_eq_true rfl) dX4_ahead_33 (fun H locs hX => ?_)
      refine lv_ldc (pc := 36) hx hb C.1.2.2.2.1 (C.1.2.2.2.2 _ mmX4_ahead_3) dX4_ahead_36 ?_
      refine lv_aload_n (pc := 38) hx hb dX4_ahead_38 rfl (lv_at hl 0 rfl) ?_
      refine x_getf (pc := 39) (Cn := RX4) (T := TX4) (N := 9) C hX 0 rfl rfl miX4_ahead_X4 1 (by decide) mmX4_ahead_1 rfl dX4_ahead_39 ?_
      refine x_getf (pc := 42) (Cn := RX0) (T := TX0) (N := 12) C hX 8 rfl rfl miX4_ahead_X0 2 (by decide) mmX4_ahead_4 rfl dX4_ahead_42 ?_
      refine lv_iload_n (pc := 45) hx hb dX4_ahead_45 rfl (lv_at hl 1 rfl) ?_
      replace hf := chk_adv hf
      have i28 := hf.1
      replace hf := hf.2
      refine x_iald (pc := 46) C hX 11 0 rfl rfl i28 dX4_ahead_46 ?_
      refine lv_iadd (pc := 47) hx hb dX4_ahead_47 ?_
      obtain ⟨rfl, rfl, rfl, rfl, rfl, rfl, rfl, rfl, rfl, rfl, rfl, rfl, rfl⟩ := re13 hf
      exact hret _ _ _ _ _ rfl rfl hX dX4_ahead_48
    · replace hf := ite_t c6 hf
      refine lv_iconst (pc := 15) (v := -1) hx hb dX4_ahead_15 (by decide) ?_
      obtain ⟨rfl, rfl, rfl, rfl, rfl, rfl, rfl, rfl, rfl, rfl, rfl, rfl, rfl⟩ := re13 hf
      exact hret _ _ _ _ _ rfl rfl hX dX4_ahead_16
