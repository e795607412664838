theorem mmX0_clearTallies_1 : Cond.fieldLink RX0 43 "SlackArms$Gear" "travel" "I" ∈ wsX0_clearTallies := List.mem_of_getElem? (i := 1) rfl
theorem miX0_clearTallies_X0 : ∀ w ∈ u_ws RX0 TX0 12, w ∈ wsX0_clearTallies := fun w h => List.mem_cons_of_mem _ (List.mem_append_right _ h)
theorem mmX0_clearTallies_2 : Cond.fieldLink RX0 46 "SlackArms$Gear" "reversals" "I" ∈ wsX0_clearTallies := List.mem_of_getElem? (i := 2) rfl
set_option maxHeartbeats 4000000 in
set_option maxRecDepth 100000 in
theorem kX0_clearTallies (ad : xAd) (l : Launch) (D : va_G) (cI cB cZ cG cS : ClassId) (h0 h_kindRow h_slackRow h_placeRow h_turnRow h_wayRow h_strokeRow : Nat) (arms : Int32) (strokes : Int32) (hand : Int32) (step : Int32) (travel : Int32) (reversals : Int32) (kindRow : (Nat → Int32)) (slackRow : (Nat → Int32)) (placeRow : (Nat → Int32)) (turnRow : (Nat → Int32)) (wayRow : (Nat → Int32)) (strokeRow : (Nat → Int32)) (o_travel' : Int32) (o_reversals' : Int32)  (hf : fX0_clearTallies  travel reversals = some (o_travel', o_reversals')) : xMv ad l yX0_clearTallies wsX0_clearTallies ({ frames := 0, cells := 0, slots := 0, locals := 0 } : Room) D (xTY cI cB cZ cG cS) [.ref h0] [(h0, .inr (0, [.ref h_kindRow, .ref h_slackRow, .ref h_placeRow, .ref h_turnRow, .ref h_wayRow, .ref h_strokeRow, .int arms, .int strokes, .int hand, .int step, .int travel, .int reversals])), (h_kindRow, .inl (cI, 4, .inl kindRow)), (h_slackRow, .inl (cI, 4, .inl slackRow)), (h_placeRow, .inl (cI, 4, .inl placeRow)), (h_turnRow, .inl (cI, 4, .inl turnRow)), (h_wayRow, .inl (cI, 4, .inl wayRow)), (h_strokeRow, .inl (cI, 16, .inl strokeRow))] [(h0, .inr (0, [.ref h_kindRow, .ref h_slackRow, .ref h_placeRow, .ref h_turnRow, .ref h_wayRow, .ref h_strokeRow, .int arms, .int strokes, .int hand, .int step, .int o_travel', .int o_reversals'])), (h_kindRow, .inl (cI, 4, .inl kindRow)), (h_slackRow, .inl (cI, 4, .inl slackRow)), (h_placeRow, .inl (cI, 4, .inl placeRow)), (h_turnRow, .inl (cI, 4, .inl turnRow)), (h_wayRow, .inl (cI, 4, .inl wayRow)), (h_strokeRow, .inl (cI, 16, .inl strokeRow))] := by
  refine xMv_of (cc := cX0_clearTallies) (maxL := 1) (by decide) rfl (Nat.le_of_ble_eq_true rfl) ?_
  intro p e s m args below meth c A Q ls C hX hl hret
  have hx := C.1.1
  have hb := C.1.2.1
  have hl : lv_has ls 1 [(0, .ref h0)] := hl
  unfold fX0_clearTallies at hf
  refine lv_aload_n (pc := 0) hx hb dX0_clearTallies_0 rfl (lv_at hl 0 rfl) ?_
  refine lv_iconst (pc := 1) (v := 0) hx hb dX0_clearTallies_1 (by decide) ?_
  refine x_putf (pc := 2) (Cn := RX0) (T := TX0) (N := 12) C hX tyX0 tyX0_ok nmX0 0 rfl rfl miX0_clearTallies_X0 10 (by decide) mmX0_clearTallies_1 rfl rfl (Nat.le_of_ble_eq_true rfl) [(h0, .inr (0, [.ref h_kindRow, .ref h_slackRow, .ref h_placeRow, .ref h_turnRow, .ref h_wayRow, .ref h_strokeRow, .int arms, .int strokes, .int hand, .int step, .int (0 : Int32), .int reversals])), (h_kindRow, .inl (cI, 4, .inl kindRow)), (h_slackRow, .inl (cI, 4, .inl slackRow)), (h_placeRow, .inl (cI, 4, .inl placeRow)), (h_turnRow, .inl (cI, 4, .inl turnRow)), (h_wayRow, .inl (cI, 4, .inl wayRow)), (h_strokeRow, .inl (cI, 16, .inl strokeRow))] rfl dX0_clearTallies_2 (fun H locs hX => ?_)
  refine lv_aload_n (pc := 5) hx hb dX0_clearTallies_5 rfl (lv_at hl 0 rfl) ?_
  refine lv_iconst (pc := 6) (v := 0) hx hb dX0_clearTallies_6 (by decide) ?_
  refine x_putf (pc := 7) (Cn := RX0) (T := TX0) (N := 12) C hX tyX0 tyX0_ok nmX0 0 rfl rfl miX0_clearTallies_X0 11 (by decide) mmX0_clearTallies_2 rfl rfl (Nat.le_of_ble_eq_true rfl) [(h0, .inr (0, [.ref h_kindRow, .ref h_slackRow, .ref h_placeRow, .ref h_turnRow, .ref h_wayRow, .ref h_strokeRow, .int arms, .int strokes, .int hand, .int step, .int (0 : Int32), .int (0 : Int32)])), (h_kindRow, .inl (cI, 4, .inl kindRow)), (h_slackRow, .inl (cI, 4, .inl slackRow)), (h_placeRow, .inl (cI, 4, .inl placeRow)), (h_turnRow, .inl (cI, 4, .inl turnRow)), (h_wayRow, .inl (cI, 4, .inl wayRow)), (h_strokeRow, .inl (cI, 16, .inl strokeRow))] rfl dX0_clearTallies_7 (fun H locs hX => ?_)
  obtain ⟨rfl, rfl⟩ := re2 hf
  exact hret _ _ _ _ hX dX0_clearTallies_10
theorem mmX0_empty_1 : Cond.fieldLink RX0 30 "SlackArms$Gear" "arms" "I" ∈ wsX0_empty := List.mem_of_getElem? (i := 1) rfl
theorem miX0_empty_X0 : ∀ w ∈ u_ws RX0 TX0 12, w ∈ wsX0_empty := fun w h => List.mem_cons_of_mem _ (List.mem_append_right _ h)
theorem mmX0_empty_2 : Cond.fieldLink RX0 34 "SlackArms$Gear" "strokes" "I" ∈ wsX0_empty := List.mem_of_getElem? (i := 2) rfl
theorem mmX0_empty_3 : Cond.fieldLink RX0 37 "SlackArms$Gear" "hand" "I" ∈ wsX0_empty := List.mem_of_getElem? (i := 3) rfl
theorem mmX0_empty_4 : Cond.fieldLink RX0 40 "SlackArms$Gear" "step" "I" ∈ wsX0_empty := List.mem_of_getElem? (i := 4) rfl
set_option maxHeartbeats 4000000 in
set_option maxRecDepth 100000 in
theorem kX0_empty (ad : xAd) (l : Launch) (D : va_G) (cI cB cZ cG cS : ClassId) (h0 h_kindRow h_slackRow h_placeRow h_turnRow h_wayRow h_strokeRow : Nat) (arms : Int32) (strokes : Int32) (hand : Int32) (step : Int32) (travel : Int32) (reversals : Int32) (kindRow : (Nat → Int32)) (slackRow : (Nat → Int32)) (placeRow : (Nat → Int32)) (turnRow : (Nat → Int32)) (wayRow : (Nat → Int32)) (strokeRow : (Nat → Int32)) (o_arms' : Int32) (o_strokes' : Int32) (o_hand' : Int32) (o_step' : Int32) (o_travel' : Int32) (o_reversals' : Int32)  (hf : fX0_empty  arms strokes hand step travel reversals = some (o_arms', o_strokes', o_hand', o_step', o_travel', o_reversals')) : xMv ad l yX0_empty wsX0_empty ({ frames := 1, cells := 0, slots := 0, locals := 20 } : Room) D (xTY cI cB cZ cG cS) [.ref h0] [(h0, .inr (0, [.ref h_kindRow, .ref h_slackRow, .ref h_placeRow, .ref h_turnRow, .ref h_wayRow, .ref h_strokeRow, .int arms, .int strokes, .int hand, .int step, .int travel, .int reversals])), (h_kindRow, .inl (cI, 4, .inl kindRow)), (h_slackRow, .inl (cI, 4, .inl slackRow)), (h_placeRow, .inl (cI, 4, .inl placeRow)), (h_turnRow, .inl (cI, 4, .inl turnRow)), (h_wayRow, .inl (cI, 4, .inl wayRow)), (h_strokeRow, .inl (cI, 16, .inl strokeRow))] [(h0, .inr (0, [.ref h_kindRow, .ref h_slackRow, .ref h_placeRow, .ref h_turnRow, .ref h_wayRow, .ref h_strokeRow, .int o_arms', .int o_strokes', .int o_hand', .int o_step', .int o_travel', .int o_reversals'])), (h_kindRow, .inl (cI, 4, .inl kindRow)), (h_slackRow, .inl (cI, 4, .inl slackRow)), (h_placeRow, .inl (cI, 4, .inl placeRow)), (h_turnRow, .inl (cI, 4, .inl turnRow)), (h_wayRow, .inl (cI, 4, .inl wayRow)), (h_strokeRow, .inl (cI, 16, .inl strokeRow))] := by
  refine xMv_of (cc := cX0_empty) (maxL := 1) (by decide) rfl (Nat.le_of_ble_eq_true rfl) ?_
  intro p e s m args below meth c A Q ls C hX hl hret
  have hx := C.1.1
  have hb := C.1.2.1
  have hl : lv_has ls 1 [(0, .ref h0)] := hl
  unfold fX0_empty at hf
  refine lv_aload_n (pc := 0) hx hb dX0_empty_0 rfl (lv_at hl 0 rfl) ?_
  refine lv_iconst (pc := 1) (v := 0) hx hb dX0_empty_1 (by decide) ?_
  refine x_putf (pc := 2) (Cn := RX0) (T := TX0) (N := 12) C hX tyX0 tyX0_ok nmX0 0 rfl rfl miX0_empty_X0 6 (by decide) mmX0_empty_1 rfl rfl (Nat.le_of_ble_eq_true rfl) [(h0, .inr (0, [.ref h_kindRow, .ref h_slackRow, .ref h_placeRow, .ref h_turnRow, .ref h_wayRow, .ref h_strokeRow, .int (0 : Int32), .int strokes, .int hand, .int step, .int travel, .int reversals])), (h_kindRow, .inl (cI, 4, .inl kindRow)), (h_slackRow, .inl (cI, 4, .inl slackRow)), (h_placeRow, .inl (cI, 4, .inl placeRow)), (h_turnRow, .inl (cI, 4, .inl turnRow)), (h_wayRow, .inl (cI, 4, .inl wayRow)), (h_strokeRow, .inl (cI, 16, .inl strokeRow))] rfl dX0_empty_2 (fun H locs hX => ?_)
  refine lv_aload_n (pc := 5) hx hb dX0_empty_5 rfl (lv_at hl 0 rfl) ?_
  refine lv_iconst (pc := 6) (v := 0) hx hb dX0_empty_6 (by decide) ?_
  refine x_putf (pc := 7) (Cn := RX0) (T := TX0) (N := 12) C hX tyX0 tyX0_ok nmX0 0 rfl rfl miX0_empty_X0 7 (by decide) mmX0_empty_2 rfl rfl (Nat.le_of_ble_eq_true rfl) [(h0, .inr (0, [.ref h_kindRow, .ref h_slackRow, .ref h_placeRow, .ref h_turnRow, .ref h_wayRow, .ref h_strokeRow, .int (0 : Int32), .int (0 : Int32), .int hand, .int step, .int travel, .int reversals])), (h_kindRow, .inl (cI, 4, .inl kindRow)), (h_slackRow, .inl (cI, 4, .inl slackRow)), (h_placeRow, .inl (cI, 4, .inl placeRow)), (h_turnRow, .inl (cI, 4, .inl turnRow)), (h_wayRow, .inl (cI, 4, .inl wayRow)), (h_strokeRow, .inl (cI, 16, .inl strokeRow))] rfl dX0_empty_7 (fun H locs hX => ?_)
  refine lv_aload_n (pc := 10) hx hb dX0_empty_10 rfl (lv_at hl 0 rfl) ?_
  refine lv_iconst (pc := 11) (v := 0) hx hb dX0_empty_11 (by decide) ?_
  refine x_putf (pc := 12) (Cn := RX0) (T := TX0) (N := 12) C hX tyX0 tyX0_ok nmX0 0 rfl rfl miX0_empty_X0 8 (by decide) mmX0_empty_3 rfl rfl (Nat.le_of_ble_eq_true rfl) [(h0, .inr (0, [.ref h_kindRow, .ref h_slackRow, .ref h_placeRow, .ref h_turnRow, .ref h_wayRow, .ref h_strokeRow, .int (0 : Int32), .int (0 : Int32), .int (0 : Int32), .int step, .int travel, .int reversals])), (h_kindRow, .inl (cI, 4, .inl kindRow)), (h_slackRow, .inl (cI, 4, .inl slackRow)), (h_placeRow, .inl (cI, 4, .inl placeRow)), (h_turnRow, .inl (cI, 4, .inl turnRow)), (h_wayRow, .inl (cI, 4, .inl wayRow)), (h_strokeRow, .inl (cI, 16, .inl strokeRow))] rfl dX0_empty_12 (fun H locs hX => ?_)
  refine lv_aload_n (pc := 15) hx hb dX0_empty_15 rfl (lv_at hl 0 rfl) ?_
  refine lv_iconst (pc := 16) (v := 0) hx hb dX0_empty_16 (by decide) ?_
  refine x_putf (pc := 17) (Cn := RX0) (T := TX0) (N := 12) C hX tyX0 tyX0_ok nmX0 0 rfl rfl miX0_empty_X0 9 (by decide) mmX0_empty_4 rfl rfl (Nat.le_of_ble_eq_true rfl) [(h0, .inr (0, [.ref h_kindRow, .ref h_slackRow, .ref h_placeRow, .ref h_turnRow, .ref h_wayRow, .ref h_strokeRow, .int (0 : Int32), .int (0 : Int32), .int (0 : Int32), .int (0 : Int32), .int travel, .int reversals])), (h_kindRow, .inl (cI, 4, .inl kindRow)), (h_slackRow, .inl (cI, 4, .inl slackRow)), (h_placeRow, .inl (cI, 4, .inl placeRow)), (h_turnRow, .inl (cI, 4, .inl turnRow)), (h_wayRow, .inl (cI, 4, .inl wayRow)), (h_strokeRow, .inl (cI, 16, .inl strokeRow))] rfl dX0_empty_17 (fun H locs hX => ?_)
  refine lv_aload_n (pc := 20) hx hb dX0_empty_20 rfl (lv_at hl 0 rfl) ?_
  obtain ⟨u1, u2, g3, hf⟩ := cl2_adv hf
  refine x_callVv (pc := 21) (rest := []) (w2 := [(h0, .inr (0, [.ref h_kindRow, .ref h_slackRow, .ref h_placeRow, .ref h_turnRow, .ref h_wayRow, .ref h_strokeRow, .int (0 : Int32), .int (0 : Int32), .int (0 : Int32), .int (0 : Int32), .int u1, .int u2])), (h_kindRow, .inl (cI, 4, .inl kindRow)), (h_slackRow, .inl (cI, 4, .inl slackRow)), (h_placeRow, .inl (cI, 4, .inl placeRow)), (h_turnRow, .inl (cI, 4, .inl turnRow)), (h_wayRow, .inl (cI, 4, .inl wayRow)), (h_strokeRow, .inl (cI, 16, .inl strokeRow))]) C hX (kX0_clearTallies ad l D cI cB cZ cG cS h0 h_kindRow h_slackRow h_placeRow h_turnRow h_wayRow h_strokeRow (0 : Int32) (0 : Int32) (0 : Int32) (0 : Int32) travel reversals kindRow slackRow placeRow turnRow wayRow strokeRow u1 u2 g3) (cwV 0 C.1.2.2.2.2 gX0_empty_X0_clearTallies rfl rfl rfl (by decide +kernel) ⟨Nat.le_of_ble_eq_true rfl, Nat.le_of_ble_eq_true rfl⟩) [0, 1, 2, 3, 4, 5, 6] [] [0, 1, 2, 3, 4, 5, 6] rfl rfl rfl rfl (by decide) rfl rfl 0 rfl rfl rfl hl.1 rfl rfl (Nat.le_of_ble_eq_true rfl) dX0_empty_21 (fun H locs hX => ?_)
  obtain ⟨rfl, rfl, rfl, rfl, rfl, rfl⟩ := re6 hf
  exact hret _ _ _ _ hX dX0_empty_24
theorem mmX0_copyFrom_1 : Cond.fieldLink RX0 30 "SlackArms$Gear" "arms" "I" ∈ wsX0_copyFrom := List.mem_of_getElem? (i := 1) rfl
theorem miX0_copyFrom_X0 : ∀ w ∈ u_ws RX0 TX0 12, w ∈ wsX0_copyFrom := fun w h => List.mem_cons_of_mem _ (List.mem_append_right _ h)
theorem mmX0_copyFrom_2 : Cond.fieldLink RX0 34 "SlackArms$Gear" "strokes" "I" ∈ wsX0_copyFrom := List.mem_of_getElem? (i := 2) rfl
theorem mmX0_copyFrom_3 : Cond.fieldLink RX0 37 "SlackArms$Gear" "hand" "I" ∈ wsX0_copyFrom := List.mem_of_getElem? (i := 3) rfl
theorem mmX0_copyFrom_4 : Cond.fieldLink RX0 40 "SlackArms$Gear" "step" "I" ∈ wsX0_copyFrom := List.mem_of_getElem? (i := 4) rfl
theorem mmX0_copyFrom_10 : Cond.fieldLink RX0 27 "SlackArms$Gear" "strokeRow" "[I" ∈ wsX0_copyFrom := List.mem_of_getElem? (i := 10) rfl
theorem mmX0_copyFrom_5 : Cond.fieldLink RX0 9 "SlackArms$Gear" "kindRow" "[I" ∈ wsX0_copyFrom := List.mem_of_getElem? (i := 5) rfl
theorem mmX0_copyFrom_6 : Cond.fieldLink RX0 15 "SlackArms$Gear" "slackRow" "[I" ∈ wsX0_copyFrom := List.mem_of_getElem? (i := 6) rfl
theorem mmX0_copyFrom_7 : Cond.fieldLink RX0 18 "SlackArms$Gear" "placeRow" "[I" ∈ wsX0_copyFrom := List.mem_of_getElem? (i := 7) rfl
theorem mmX0_copyFrom_8 : Cond.fieldLink RX0 21 "SlackArms$Gear" "turnRow" "[I" ∈ wsX0_copyFrom := List.mem_of_getElem? (i := 8) rfl
theorem mmX0_copyFrom_9 : Cond.fieldLink RX0 24 "SlackArms$Gear" "wayRow" "[I" ∈ wsX0_copyFrom := List.mem_of_getElem? (i := 9) rfl
set_option maxHeartbeats 4000000 in
set_option maxRecDepth 100000 in
theorem kX0_copyFrom (ad : xAd) (l : Launch) (D : va_G) (cI cB cZ cG cS : ClassId) (h0 h_kindRow h_slackRow h_placeRow h_turnRow h_wayRow h_strokeRow h_o h_o_kindRow h_o_slackRow h_o_placeRow h_o_turnRow h_o_wayRow h_o_strokeRow : Nat) (arms : Int32) (strokes : Int32) (hand : Int32) (step : Int32) (travel : Int32) (reversals : Int32) (kindRow : (Nat → Int32)) (slackRow : (Nat → Int32)) (placeRow : (Nat → Int32)) (turnRow : (Nat → Int32)) (wayRow : (Nat → Int32)) (strokeRow : (Nat → Int32)) (o_arms : Int32) (o_strokes : Int32) (o_hand : Int32) (o_step : Int32) (o_travel : Int32) (o_reversals : Int32) (o_kindRow : (Nat → Int32)) (o_slackRow : (Nat → Int32)) (o_placeRow : (Nat → Int32)) (o_turnRow : (Nat → Int32)) (o_wayRow : (Nat → Int32)) (o_strokeRow : (Nat → Int32)) (o_arms' : Int32) (o_strokes' : Int32) (o_hand' : Int32) (o_step' : Int32) (o_travel' : Int32) (o_reversals' : Int32) (o_kindRow' : (Nat → Int32)) (o_slackRow' : (Nat → Int32)) (o_placeRow' : (Nat → Int32)) (o_turnRow' : (Nat → Int32)) (o_wayRow' : (Nat → Int32)) (o_strokeRow' : (Nat → Int32))  (hf : fX0_copyFrom  arms strokes hand step travel reversals kindRow slackRow placeRow turnRow wayRow strokeRow o_arms o_strokes o_hand o_step o_kindRow o_slackRow o_placeRow o_turnRow o_wayRow o_strokeRow = some (o_arms', o_strokes', o_hand', o_step', o_travel', o_reversals', o_kindRow', o_slackRow', o_placeRow', o_turnRow', o_wayRow', o_strokeRow')) : xMv ad l yX0_copyFrom wsX0_copyFrom ({ frames := 1, cells := 0, slots := 0, locals := 20 } : Room) D (xTY cI cB cZ cG cS) [.ref h0, .ref h_o] [(h0, .inr (0, [.ref h_kindRow, .ref h_slackRow, .ref h_placeRow, .ref h_turnRow, .ref h_wayRow, .ref h_strokeRow, .int arms, .int strokes, .int hand, .int step, .int travel, .int reversals])), (h_kindRow, .inl (cI, 4, .inl kindRow)), (h_slackRow, .inl (cI, 4, .inl slackRow)), (h_placeRow, .inl (cI, 4, .inl placeRow)), (h_turnRow, .inl (cI, 4, .inl turnRow)), (h_wayRow, .inl (cI, 4, .inl wayRow)), (h_strokeRow, .inl (cI, 16, .inl strokeRow)), (h_o, .inr (0, [.ref h_o_kindRow, .ref h_o_slackRow, .ref h_o_placeRow, .ref h_o_turnRow, .ref h_o_wayRow, .ref h_o_strokeRow, .int o_arms, .int o_strokes, .int o_hand, .int o_step, .int o_travel, .int o_reversals])), (h_o_kindRow, .inl (cI, 4, .inl o_kindRow)), (h_o_slackRow, .inl (cI, 4, .inl o_slackRow)), (h_o_placeRow, .inl (cI, 4, .inl o_placeRow)), (h_o_turnRow, .inl (cI, 4, .inl o_turnRow)), (h_o_wayRow, .inl (cI, 4, .inl o_wayRow)), (h_o_strokeRow, .inl (cI, 16, .inl o_strokeRow))] [(h0, .inr (0, [.ref h_kindRow, .ref h_slackRow, .ref h_placeRow, .ref h_turnRow, .ref h_wayRow, .ref h_strokeRow, .int o_arms', .int o_strokes', .int o_hand', .int o_step', .int o_travel', .int o_reversals'])), (h_kindRow, .inl (cI, 4, .inl o_kindRow')), (h_slackRow, .inl (cI, 4, .inl o_slackRow')), (h_placeRow, .inl (cI, 4, .inl o_placeRow')), (h_turnRow, .inl (cI, 4, .inl o_turnRow')), (h_wayRow, .inl (cI, 4, .inl o_wayRow')), (h_strokeRow, .inl (cI, 16, .inl o_strokeRow')), (h_o, .inr (0, [.ref h_o_kindRow, .ref h_o_slackRow, .ref h_o_placeRow, .ref h_o_turnRow, .ref h_o_wayRow, .ref h_o_strokeRow, .int o_arms, .int o_strokes, .int o_hand, .int o_step, .int o_travel, .int o_reversals])), (h_o_kindRow, .inl (cI, 4, .inl o_kindRow)), (h_o_slackRow, .inl (cI, 4, .inl o_slackRow)), (h_o_placeRow, .inl (cI, 4, .inl o_placeRow)), (h_o_turnRow, .inl (cI, 4, .inl o_turnRow)), (h_o_wayRow, .inl (cI, 4, .inl o_wayRow)), (h_o_strokeRow, .inl (cI, 16, .inl o_strokeRow))] := by
  refine xMv_of (cc := cX0_copyFrom) (maxL := 3) (by decide) rfl (Nat.le_of_ble_eq_true rfl) ?_
  intro p e s m args below meth c A Q ls C hX hl hret
  have hx := C.1.1
  have hb := C.1.2.1
  have hl : lv_has ls 3 [(0, .ref h0), (1, .ref h_o)] := hl
  have L110 : ∀ (n : Nat), ∀ (x2 : Int32) (arms : Int32) (strokes : Int32) (hand : Int32) (step : Int32) (travel : Int32) (reversals : Int32) (kindRow : (Nat → Int32)) (slackRow : (Nat → Int32)) (placeRow : (Nat → Int32)) (turnRow : (Nat → Int32)) (wayRow : (Nat → Int32)) (strokeRow : (Nat → Int32)) (H : Heap) (locs : List Loc) (ls : Array Slot), fX0_copyFrom_L110 o_arms o_strokes o_hand o_step o_kindRow o_slackRow o_placeRow o_turnRow o_wayRow o_strokeRow n x2 arms strokes hand step travel reversals kindRow slackRow placeRow turnRow wayRow strokeRow = some (o_arms', o_strokes', o_hand', o_step', o_travel', o_reversals', o_kindRow', o_slackRow', o_placeRow', o_turnRow', o_wayRow', o_strokeRow') → xSt A s D [(h0, .inr (0, [.ref h_kindRow, .ref h_slackRow, .ref h_placeRow, .ref h_turnRow, .ref h_wayRow, .ref h_strokeRow, .int arms, .int strokes, .int hand, .int step, .int travel, .int reversals])), (h_kindRow, .inl (cI, 4, .inl kindRow)), (h_slackRow, .inl (cI, 4, .inl slackRow)), (h_placeRow, .inl (cI, 4, .inl placeRow)), (h_turnRow, .inl (cI, 4, .inl turnRow)), (h_wayRow, .inl (cI, 4, .inl wayRow)), (h_strokeRow, .inl (cI, 16, .inl strokeRow)), (h_o, .inr (0, [.ref h_o_kindRow, .ref h_o_slackRow, .ref h_o_placeRow, .ref h_o_turnRow, .ref h_o_wayRow, .ref h_o_strokeRow, .int o_arms, .int o_strokes, .int o_hand, .int o_step, .int o_travel, .int o_reversals])), (h_o_kindRow, .inl (cI, 4, .inl o_kindRow)), (h_o_slackRow, .inl (cI, 4, .inl o_slackRow)), (h_o_placeRow, .inl (cI, 4, .inl o_placeRow)), (h_o_turnRow, .inl (cI, 4, .inl o_turnRow)), (h_o_wayRow, .inl (cI, 4, .inl o_wayRow)), (h_o_strokeRow, .inl (cI, 16, .inl o_strokeRow))] H locs → lv_has ls 3 [(0, .ref h0), (1, .ref h_o), (2, .int x2)] → W p l e ({ frames := 1, cells := 0, slots := 0, locals := 20 } : Room) s m args below meth c H locs 0 0 Q (F0 m 110 ls []) := by
    intro n
    induction n with
    | zero =>
      intro x2 arms strokes hand step travel reversals kindRow slackRow placeRow turnRow wayRow strokeRow H locs ls hf
      rw [fX0_copyFrom_L110] at hf
      cases hf
    | succ n ih =>
      intro x2 arms strokes hand step travel reversals kindRow slackRow placeRow turnRow wayRow strokeRow H locs ls hf hX hl
      rw [fX0_copyFrom_L110] at hf
      refine lv_iload_n (pc := 110) hx hb dX0_copyFrom_110 rfl (lv_at hl 2 rfl) ?_
      refine lv_aload_n (pc := 111) hx hb dX0_copyFrom_111 rfl (lv_at hl 0 rfl) ?_
      refine x_getf (pc := 112) (Cn := RX0) (T := TX0) (N := 12) C hX 0 rfl rfl miX0_copyFrom_X0 7 (by decide) mmX0_copyFrom_2 rfl dX0_copyFrom_112 ?_
      refine lv_icmp_ge (pc := 115) (tgt := 136) hx hb dX0_copyFrom_115 (by decide) (fun c2 => ?_) (fun c2 => ?_)
      · replace hf := ite_t c2 hf
        refine lv_aload_n (pc := 136) hx hb dX0_copyFrom_136 rfl (lv_at hl 0 rfl) ?_
        obtain ⟨u3, u4, g5, hf⟩ := cl2_adv hf
        refine x_callVv (pc := 137) (rest := []) (w2 := [(h0, .inr (0, [.ref h_kindRow, .ref h_slackRow, .ref h_placeRow, .ref h_turnRow, .ref h_wayRow, .ref h_strokeRow, .int arms, .int strokes, .int hand, .int step, .int u3, .int u4])), (h_kindRow, .inl (cI, 4, .inl kindRow)), (h_slackRow, .inl (cI, 4, .inl slackRow)), (h_placeRow, .inl (cI, 4, .inl placeRow)), (h_turnRow, .inl (cI, 4, .inl turnRow)), (h_wayRow, .inl (cI, 4, .inl wayRow)), (h_strokeRow, .inl (cI, 16, .inl strokeRow)), (h_o, .inr (0, [.ref h_o_kindRow, .ref h_o_slackRow, .ref h_o_placeRow, .ref h_o_turnRow, .ref h_o_wayRow, .ref h_o_strokeRow, .int o_arms, .int o_strokes, .int o_hand, .int o_step, .int o_travel, .int o_reversals])), (h_o_kindRow, .inl (cI, 4, .inl o_kindRow)), (h_o_slackRow, .inl (cI, 4, .inl o_slackRow)), (h_o_placeRow, .inl (cI, 4, .inl o_placeRow)), (h_o_turnRow, .inl (cI, 4, .inl o_turnRow)), (h_o_wayRow, .inl (cI, 4, .inl o_wayRow)), (h_o_strokeRow, .inl (cI, 16, .inl o_strokeRow))]) C hX (kX0_clearTallies ad l D cI cB cZ cG cS h0 h_kindRow h_slackRow h_placeRow h_turnRow h_wayRow h_strokeRow arms strokes hand step travel reversals kindRow slackRow placeRow turnRow wayRow strokeRow u3 u4 g5) (cwV 0 C.1.2.2.2.2 gX0_copyFrom_X0_clearTallies rfl rfl rfl (by decide +kernel) ⟨Nat.le_of_ble_eq_true rfl, Nat.le_of_ble_eq_true rfl⟩) [0, 1, 2, 3, 4, 5, 6] [7, 8, 9, 10, 11, 12, 13] [7, 8, 9, 10, 11, 12, 13, 0, 1, 2, 3, 4, 5, 6] rfl rfl rfl rfl (by decide) rfl rfl 0 rfl rfl rfl hl.1 rfl rfl (Nat.le_of_ble_eq_true rfl) dX0_copyFrom_137 (fun H locs hX => ?_)
        obtain ⟨rfl, rfl, rfl, rfl, rfl, rfl, rfl, rfl, rfl, rfl, rfl, rfl⟩ := re12 hf
        exact hret _ _ _ _ hX dX0_copyFrom_140
      · replace hf := ite_f c2 hf
        refine lv_aload_n (pc := 118) hx hb dX0_copyFrom_118 rfl (lv_at hl 0 rfl) ?_
        refine x_getf (pc := 119) (Cn := RX0) (T := TX0) (N := 12) C hX 0 rfl rfl miX0_copyFrom_X0 5 (by decide) mmX0_copyFrom_10 rfl dX0_copyFrom_119 ?_
        refine lv_iload_n (pc := 122) hx hb dX0_copyFrom_122 rfl (lv_at hl 2 rfl) ?_
        refine lv_aload_n (pc := 123) hx hb dX0_copyFrom_123 rfl (lv_at hl 1 rfl) ?_
        refine x_getf (pc := 124) (Cn := RX0) (T := TX0) (N := 12) C hX 7 rfl rfl miX0_copyFrom_X0 5 (by decide) mmX0_copyFrom_10 rfl dX0_copyFrom_124 ?_
        refine lv_iload_n (pc := 127) hx hb dX0_copyFrom_127 rfl (lv_at hl 2 rfl) ?_
        replace hf := chk_adv hf
        have i6 := hf.1
        replace hf := hf.2
        refine x_iald (pc := 128) C hX 13 0 rfl rfl i6 dX0_copyFrom_128 ?_
        refine lv_topi (fun v7 ev7 => ?_)
        replace hf := bnd_use ev7 hf
        replace hf := chk_adv hf
        have i8 := hf.1
        replace hf := hf.2
        obtain ⟨f9, ef9⟩ : ∃ y : Nat → Int32, y = (upd strokeRow (x2).toNatClampNeg v7) := ⟨_, rfl⟩
        replace hf := bnd_use ef9 hf
        refine x_iast (pc := 129) C hX 6 0 rfl rfl i8 [(h0, .inr (0, [.ref h_kindRow, .ref h_slackRow, .ref h_placeRow, .ref h_turnRow, .ref h_wayRow, .ref h_strokeRow, .int arms, .int strokes, .int hand, .int step, .int travel, .int reversals])), (h_kindRow, .inl (cI, 4, .inl kindRow)), (h_slackRow, .inl (cI, 4, .inl slackRow)), (h_placeRow, .inl (cI, 4, .inl placeRow)), (h_turnRow, .inl (cI, 4, .inl turnRow)), (h_wayRow, .inl (cI, 4, .inl wayRow)), (h_strokeRow, .inl (cI, 16, .inl f9)), (h_o, .inr (0, [.ref h_o_kindRow, .ref h_o_slackRow, .ref h_o_placeRow, .ref h_o_turnRow, .ref h_o_wayRow, .ref h_o_strokeRow, .int o_arms, .int o_strokes, .int o_hand, .int o_step, .int o_travel, .int o_reversals])), (h_o_kindRow, .inl (cI, 4, .inl o_kindRow)), (h_o_slackRow, .inl (cI, 4, .inl o_slackRow)), (h_o_placeRow, .inl (cI, 4, .inl o_placeRow)), (h_o_turnRow, .inl (cI, 4, .inl o_turnRow)), (h_o_wayRow, .inl (cI, 4, .inl o_wayRow)), (h_o_strokeRow, .inl (cI, 16, .inl o_strokeRow))] (by subst ef9; rfl) dX0_copyFrom_129 (fun H locs hX => ?_)
        obtain ⟨v10, ev10⟩ : ∃ y : Int32, y = (x2 + (1 : Int32)) := ⟨_, rfl⟩
        replace hf := bnd_use ev10 hf
        refine lv_iinc (pc := 130) (v := v10) (lv' := [(2, .int v10), (0, .ref h0), (1, .ref h_o)]) hx hb dX0_copyFrom_130 hl (k := 2) rfl (by rw [ev10]; rfl) (by decide) rfl (fun ls hl => ?_)
        refine lv_goto (pc := 133) (tgt := 110) hx hb dX0_copyFrom_133 (by decide) ?_
        exact ih v10 arms strokes hand step travel reversals kindRow slackRow placeRow turnRow wayRow f9 _ _ _ hf hX (lv_sub hl [1, 2, 0] rfl)
  have L34 : ∀ (n : Nat), ∀ (x2 : Int32) (arms : Int32) (strokes : Int32) (hand : Int32) (step : Int32) (travel : Int32) (reversals : Int32) (kindRow : (Nat → Int32)) (slackRow : (Nat → Int32)) (placeRow : (Nat → Int32)) (turnRow : (Nat → Int32)) (wayRow : (Nat → Int32)) (strokeRow : (Nat → Int32)) (H : Heap) (locs : List Loc) (ls : Array Slot), fX0_copyFrom_L34 o_arms o_strokes o_hand o_step o_kindRow o_slackRow o_placeRow o_turnRow o_wayRow o_strokeRow n x2 arms strokes hand step travel reversals kindRow slackRow placeRow turnRow wayRow strokeRow = some (o_arms', o_strokes', o_hand', o_step', o_travel', o_reversals', o_kindRow', o_slackRow', o_placeRow', o_turnRow', o_wayRow', o_strokeRow') → xSt A s D [(h0, .inr (0, [.ref h_kindRow, .ref h_slackRow, .ref h_placeRow, .ref h_turnRow, .ref h_wayRow, .ref h_strokeRow, .int arms, .int strokes, .int hand, .int step, .int travel, .int reversals])), (h_kindRow, .inl (cI, 4, .inl kindRow)), (h_slackRow, .inl (cI, 4, .inl slackRow)), (h_placeRow, .inl (cI, 4, .inl placeRow)), (h_turnRow, .inl (cI, 4, .inl turnRow)), (h_wayRow, .inl (cI, 4, .inl wayRow)), (h_strokeRow, .inl (cI, 16, .inl strokeRow)), (h_o, .inr (0, [.ref h_o_kindRow, .ref h_o_slackRow, .ref h_o_placeRow, .ref h_o_turnRow, .ref h_o_wayRow, .ref h_o_strokeRow, .int o_arms, .int o_strokes, .int o_hand, .int o_step, .int o_travel, .int o_reversals])), (h_o_kindRow, .inl (cI, 4, .inl o_kindRow)), (h_o_slackRow, .inl (cI, 4, .inl o_slackRow)), (h_o_placeRow, .inl (cI, 4, .inl o_placeRow)), (h_o_turnRow, .inl (cI, 4, .inl o_turnRow)), (h_o_wayRow, .inl (cI, 4, .inl o_wayRow)), (h_o_strokeRow, .inl (cI, 16, .inl o_strokeRow))] H locs → lv_has ls 3 [(0, .ref h0), (1, .ref h_o), (2, .int x2)] → W p l e ({ frames := 1, cells := 0, slots := 0, locals := 20 } : Room) s m args below meth c H locs 0 0 Q (F0 m 34 ls []) := by
    intro n
    induction n with
    | zero =>
      intro x2 arms strokes hand step travel reversals kindRow slackRow placeRow turnRow wayRow strokeRow H locs ls hf
      rw [fX0_copyFrom_L34] at hf
      cases hf
    | succ n ih =>
      intro x2 arms strokes hand step travel reversals kindRow slackRow placeRow turnRow wayRow strokeRow H locs ls hf hX hl
      rw [fX0_copyFrom_L34] at hf
      refine lv_iload_n (pc := 34) hx hb dX0_copyFrom_34 rfl (lv_at hl 2 rfl) ?_
      refine lv_aload_n (pc := 35) hx hb dX0_copyFrom_35 rfl (lv_at hl 0 rfl) ?_
      refine x_getf (pc := 36) (Cn := RX0) (T := TX0) (N := 12) C hX 0 rfl rfl miX0_copyFrom_X0 6 (by decide) mmX0_copyFrom_1 rfl dX0_copyFrom_36 ?_
      refine lv_icmp_ge (pc := 39) (tgt := 108) hx hb dX0_copyFrom_39 (by decide) (fun c1 => ?_) (fun c1 => ?_)
      · replace hf := ite_t c1 hf
        refine lv_iconst (pc := 108) (v := 0) hx hb dX0_copyFrom_108 (by decide) ?_
        refine lv_istore_n (pc := 109) (lv' := [(2, .int (0 : Int32)), (0, .ref h0), (1, .ref h_o)]) hx hb dX0_copyFrom_109 rfl hl (by decide) rfl (fun ls hl => ?_)
        exact L110  xF (0 : Int32) arms strokes hand step travel reversals kindRow slackRow placeRow turnRow wayRow strokeRow _ _ _ hf hX (lv_sub hl [1, 2, 0] rfl)
      · replace hf := ite_f c1 hf
        refine lv_aload_n (pc := 42) hx hb dX0_copyFrom_42 rfl (lv_at hl 0 rfl) ?_
        refine x_getf (pc := 43) (Cn := RX0) (T := TX0) (N := 12) C hX 0 rfl rfl miX0_copyFrom_X0 0 (by decide) mmX0_copyFrom_5 rfl dX0_copyFrom_43 ?_
        refine lv_iload_n (pc := 46) hx hb dX0_copyFrom_46 rfl (lv_at hl 2 rfl) ?_
        refine lv_aload_n (pc := 47) hx hb dX0_copyFrom_47 rfl (lv_at hl 1 rfl) ?_
        refine x_getf (pc := 48) (Cn := RX0) (T := TX0) (N := 12) C hX 7 rfl rfl miX0_copyFrom_X0 0 (by decide) mmX0_copyFrom_5 rfl dX0_copyFrom_48 ?_
        refine lv_iload_n (pc := 51) hx hb dX0_copyFrom_51 rfl (lv_at hl 2 rfl) ?_
        replace hf := chk_adv hf
        have i11 := hf.1
        replace hf := hf.2
        refine x_iald (pc := 52) C hX 8 0 rfl rfl i11 dX0_copyFrom_52 ?_
        refine lv_topi (fun v12 ev12 => ?_)
        replace hf := bnd_use ev12 hf
        replace hf := chk_adv hf
        have i13 := hf.1
        replace hf := hf.2
        obtain ⟨f14, ef14⟩ : ∃ y : Nat → Int32, y = (upd kindRow (x2).toNatClampNeg v12) := ⟨_, rfl⟩
        replace hf := bnd_use ef14 hf
        refine x_iast (pc := 53) C hX 1 0 rfl rfl i13 [(h0, .inr (0, [.ref h_kindRow, .ref h_slackRow, .ref h_placeRow, .ref h_turnRow, .ref h_wayRow, .ref h_strokeRow, .int arms, .int strokes, .int hand, .int step, .int travel, .int reversals])), (h_kindRow, .inl (cI, 4, .inl f14)), (h_slackRow, .inl (cI, 4, .inl slackRow)), (h_placeRow, .inl (cI, 4, .inl placeRow)), (h_turnRow, .inl (cI, 4, .inl turnRow)), (h_wayRow, .inl (cI, 4, .inl wayRow)), (h_strokeRow, .inl (cI, 16, .inl strokeRow)), (h_o, .inr (0, [.ref h_o_kindRow, .ref h_o_slackRow, .ref h_o_placeRow, .ref h_o_turnRow, .ref h_o_wayRow, .ref h_o_strokeRow, .int o_arms, .int o_strokes, .int o_hand, .int o_step, .int o_travel, .int o_reversals])), (h_o_kindRow, .inl (cI, 4, .inl o_kindRow)), (h_o_slackRow, .inl (cI, 4, .inl o_slackRow)), (h_o_placeRow, .inl (cI, 4, .inl o_placeRow)), (h_o_turnRow, .inl (cI, 4, .inl o_turnRow)), (h_o_wayRow, .inl (cI, 4, .inl o_wayRow)), (h_o_strokeRow, .inl (cI, 16, .inl o_strokeRow))] (by subst ef14; rfl) dX0_copyFrom_53 (fun H locs hX => ?_)
        refine lv_aload_n (pc := 54) hx hb dX0_copyFrom_54 rfl (lv_at hl 0 rfl) ?_
        refine x_getf (pc := 55) (Cn := RX0) (T := TX0) (N := 12) C hX 0 rfl rfl miX0_copyFrom_X0 1 (by decide) mmX0_copyFrom_6 rfl dX0_copyFrom_55 ?_
        refine lv_iload_n (pc := 58) hx hb dX0_copyFrom_58 rfl (lv_at hl 2 rfl) ?_
        refine lv_aload_n (pc := 59) hx hb dX0_copyFrom_59 rfl (lv_at hl 1 rfl) ?_
        refine x_getf (pc := 60) (Cn := RX0) (T := TX0) (N := 12) C hX 7 rfl rfl miX0_copyFrom_X0 1 (by decide) mmX0_copyFrom_6 rfl dX0_copyFrom_60 ?_
        refine lv_iload_n (pc := 63) hx hb dX0_copyFrom_63 rfl (lv_at hl 2 rfl) ?_
        replace hf := chk_adv hf
        have i15 := hf.1
        replace hf := hf.2
        refine x_iald (pc := 64) C hX 9 0 rfl rfl i15 dX0_copyFrom_64 ?_
        refine lv_topi (fun v16 ev16 => ?_)
        replace hf := bnd_use ev16 hf
        replace hf := chk_adv hf
        have i17 := hf.1
        replace hf := hf.2
        obtain ⟨f18, ef18⟩ : ∃ y : Nat → Int32, y = (upd slackRow (x2).toNatClampNeg v16) := ⟨_, rfl⟩
        replace hf := bnd_use ef18 hf
        refine x_iast (pc := 65) C hX 2 0 rfl rfl i17 [(h0, .inr (0, [.ref h_kindRow, .ref h_slackRow, .ref h_placeRow, .ref h_turnRow, .ref h_wayRow, .ref h_strokeRow, .int arms, .int strokes, .int hand, .int step, .int travel, .int reversals])), (h_kindRow, .inl (cI, 4, .inl f14)), (h_slackRow, .inl (cI, 4, .inl f18)), (h_placeRow, .inl (cI, 4, .inl placeRow)), (h_turnRow, .inl (cI, 4, .inl turnRow)), (h_wayRow, .inl (cI, 4, .inl wayRow)), (h_strokeRow, .inl (cI, 16, .inl strokeRow)), (h_o, .inr (0, [.ref h_o_kindRow, .ref h_o_slackRow, .ref h_o_placeRow, .ref h_o_turnRow, .ref h_o_wayRow, .ref h_o_strokeRow, .int o_arms, .int o_strokes, .int o_hand, .int o_step, .int o_travel, .int o_reversals])), (h_o_kindRow, .inl (cI, 4, .inl o_kindRow)), (h_o_slackRow, .inl (cI, 4, .inl o_slackRow)), (h_o_placeRow, .inl (cI, 4, .inl o_placeRow)), (h_o_turnRow, .inl (cI, 4, .inl o_turnRow)), (h_o_wayRow, .inl (cI, 4, .inl o_wayRow)), (h_o_strokeRow, .inl (cI, 16, .inl o_strokeRow))] (by subst ef18; rfl) dX0_copyFrom_65 (fun H locs hX => ?_)
        refine lv_aload_n (pc := 66) hx hb dX0_copyFrom_66 rfl (lv_at hl 0 rfl) ?_
        refine x_getf (pc := 67) (Cn := RX0) (T := TX0) (N := 12) C hX 0 rfl rfl miX0_copyFrom_X0 2 (by decide) mmX0_copyFrom_7 rfl dX0_copyFrom_67 ?_
        refine lv_iload_n (pc := 70) hx hb dX0_copyFrom_70 rfl (lv_at hl 2 rfl) ?_
        refine lv_aload_n (pc := 71) hx hb dX0_copyFrom_71 rfl (lv_at hl 1 rfl) ?_
        refine x_getf (pc := 72) (Cn := RX0) (T := TX0) (N := 12) C hX 7 rfl rfl miX0_copyFrom_X0 2 (by decide) mmX0_copyFrom_7 rfl dX0_copyFrom_72 ?_
        refine lv_iload_n (pc := 75) hx hb dX0_copyFrom_75 rfl (lv_at hl 2 rfl) ?_
        replace hf := chk_adv hf
        have i19 := hf.1
        replace hf := hf.2
        refine x_iald (pc := 76) C hX 10 0 rfl rfl i19 dX0_copyFrom_76 ?_
        refine lv_topi (fun v20 ev20 => ?_)
        replace hf := bnd_use ev20 hf
        replace hf := chk_adv hf
        have i21 := hf.1
        replace hf := hf.2
        obtain ⟨f22, ef22⟩ : ∃ y : Nat → Int32, y = (upd placeRow (x2).toNatClampNeg v20) := ⟨_, rfl⟩
        replace hf := bnd_use ef22 hf
        refine x_iast (pc := 77) C hX 3 0 rfl rfl i21 [(h0, .inr (0, [.ref h_kindRow, .ref h_slackRow, .ref h_placeRow, .ref h_turnRow, .ref h_wayRow, .ref h_strokeRow, .int arms, .int strokes, .int hand, .int step, .int travel, .int reversals])), (h_kindRow, .inl (cI, 4, .inl f14)), (h_slackRow, .inl (cI, 4, .inl f18)), (h_placeRow, .inl (cI, 4, .inl f22)), (h_turnRow, .inl (cI, 4, .inl turnRow)), (h_wayRow, .inl (cI, 4, .inl wayRow)), (h_strokeRow, .inl (cI, 16, .inl strokeRow)), (h_o, .inr (0, [.ref h_o_kindRow, .ref h_o_slackRow, .ref h_o_placeRow, .ref h_o_turnRow, .ref h_o_wayRow, .ref h_o_strokeRow, .int o_arms, .int o_strokes, .int o_hand, .int o_step, .int o_travel, .int o_reversals])), (h_o_kindRow, .inl (cI, 4, .inl o_kindRow)), (h_o_slackRow, .inl (cI, 4, .inl o_slackRow)), (h_o_placeRow, .inl (cI, 4, .inl o_placeRow)), (h_o_turnRow, .inl (cI, 4, .inl o_turnRow)), (h_o_wayRow, .inl (cI, 4, .inl o_wayRow)), (h_o_strokeRow, .inl (cI, 16, .inl o_strokeRow))] (by subst ef22; rfl) dX0_copyFrom_77 (fun H locs hX => ?_)
        refine lv_aload_n (pc := 78) hx hb dX0_copyFrom_78 rfl (lv_at hl 0 rfl) ?_
        refine x_getf (pc := 79) (Cn := RX0) (T := TX0) (N := 12) C hX 0 rfl rfl miX0_copyFrom_X0 3 (by decide) mmX0_copyFrom_8 rfl dX0_copyFrom_79 ?_
        refine lv_iload_n (pc := 82) hx hb dX0_copyFrom_82 rfl (lv_at hl 2 rfl) ?_
        refine lv_aload_n (pc := 83) hx hb dX0_copyFrom_83 rfl (lv_at hl 1 rfl) ?_
        refine x_getf (pc := 84) (Cn := RX0) (T := TX0) (N := 12) C hX 7 rfl rfl miX0_copyFrom_X0 3 (by decide) mmX0_copyFrom_8 rfl dX0_copyFrom_84 ?_
        refine lv_iload_n (pc := 87) hx hb dX0_copyFrom_87 rfl (lv_at hl 2 rfl) ?_
        replace hf := chk_adv hf
        have i23 := hf.1
        replace hf := hf.2
        refine x_iald (pc := 88) C hX 11 0 rfl rfl i23 dX0_copyFrom_88 ?_
        refine lv_topi (fun v24 ev24 => ?_)
        replace hf := bnd_use ev24 hf
        replace hf := chk_adv hf
        have i25 := hf.1
        replace hf := hf.2
        obtain ⟨f26, ef26⟩ : ∃ y : Nat → Int32, y = (upd turnRow (x2).toNatClampNeg v24) := ⟨_, rfl⟩
        replace hf := bnd_use ef26 hf
        refine x_iast (pc := 89) C hX 4 0 rfl rfl i25 [(h0, .inr (0, [.ref h_kindRow, .ref h_slackRow, .ref h_placeRow, .ref h_turnRow, .ref h_wayRow, .ref h_strokeRow, .int arms, .int strokes, .int hand, .int step, .int travel, .int reversals])), (h_kindRow, .inl (cI, 4, .inl f14)), (h_slackRow, .inl (cI, 4, .inl f18)), (h_placeRow, .inl (cI, 4, .inl f22)), (h_turnRow, .inl (cI, 4, .inl f26)), (h_wayRow, .inl (cI, 4, .inl wayRow)), (h_strokeRow, .inl (cI, 16, .inl strokeRow)), (h_o, .inr (0, [.ref h_o_kindRow, .ref h_o_slackRow, .ref h_o_placeRow, .ref h_o_turnRow, .ref h_o_wayRow, .ref h_o_strokeRow, .int o_arms, .int o_strokes, .int o_hand, .int o_step, .int o_travel, .int o_reversals])), (h_o_kindRow, .inl (cI, 4, .inl o_kindRow)), (h_o_slackRow, .inl (cI, 4, .inl o_slackRow)), (h_o_placeRow, .inl (cI, 4, .inl o_placeRow)), (h_o_turnRow, .inl (cI, 4, .inl o_turnRow)), (h_o_wayRow, .inl (cI, 4, .inl o_wayRow)), (h_o_strokeRow, .inl (cI, 16, .inl o_strokeRow))] (by subst ef26; rfl) dX0_copyFrom_89 (fun H locs hX => ?_)
        refine lv_aload_n (pc := 90) hx hb dX0_copyFrom_90 rfl (lv_at hl 0 rfl) ?_
        refine x_getf (pc := 91) (Cn := RX0) (T := TX0) (N := 12) C hX 0 rfl rfl miX0_copyFrom_X0 4 (by decide) mmX0_copyFrom_9 rfl dX0_copyFrom_91 ?_
        refine lv_iload_n (pc := 94) hx hb dX0_copyFrom_94 rfl (lv_at hl 2 rfl) ?_
        refine lv_aload_n (pc := 95) hx hb dX0_copyFrom_95 rfl (lv_at hl 1 rfl) ?_
        refine x_getf (pc := 96) (Cn := RX0) (T := TX0) (N := 12) C hX 7 rfl rfl miX0_copyFrom_X0 4 (by decide) mmX0_copyFrom_9 rfl dX0_copyFrom_96 ?_
        refine lv_iload_n (pc := 99) hx hb dX0_copyFrom_99 rfl (lv_at hl 2 rfl) ?_
        replace hf := chk_adv hf
        have i27 := hf.1
        replace hf := hf.2
        refine x_iald (pc := 100) C hX 12 0 rfl rfl i27 dX0_copyFrom_100 ?_
        refine lv_topi (fun v28 ev28 => ?_)
        replace hf := bnd_use ev28 hf
        replace hf := chk_adv hf
        have i29 := hf.1
        replace hf := hf.2
        obtain ⟨f30, ef30⟩ : ∃ y : Nat → Int32, y = (upd wayRow (x2).toNatClampNeg v28) := ⟨_, rfl⟩
        replace hf := bnd_use ef30 hf
        refine x_iast (pc := 101) C hX 5 0 rfl rfl i29 [(h0, .inr (0, [.ref h_kindRow, .ref h_slackRow, .ref h_placeRow, .ref h_turnRow, .ref h_wayRow, .ref h_strokeRow, .int arms, .int strokes, .int hand, .int step, .int travel, .int reversals])), (h_kindRow, .inl (cI, 4, .inl f14)), (h_slackRow, .inl (cI, 4, .inl f18)), (h_placeRow, .inl (cI, 4, .inl f22)), (h_turnRow, .inl (cI, 4, .inl f26)), (h_wayRow, .inl (cI, 4, .inl f30)), (h_strokeRow, .inl (cI, 16, .inl strokeRow)), (h_o, .inr (0, [.ref h_o_kindRow, .ref h_o_slackRow, .ref h_o_placeRow, .ref h_o_turnRow, .ref h_o_wayRow, .ref h_o_strokeRow, .int o_arms, .int o_strokes, .int o_hand, .int o_step, .int o_travel, .int o_reversals])), (h_o_kindRow, .inl (cI, 4, .inl o_kindRow)), (h_o_slackRow, .inl (cI, 4, .inl o_slackRow)), (h_o_placeRow, .inl (cI, 4, .inl o_placeRow)), (h_o_turnRow, .inl (cI, 4, .inl o_turnRow)), (h_o_wayRow, .inl (cI, 4, .inl o_wayRow)), (h_o_strokeRow, .inl (cI, 16, .inl o_strokeRow))] (by subst ef30; rfl) dX0_copyFrom_101 (fun H locs hX => ?_)
        obtain ⟨v31, ev31⟩ : ∃ y : Int32, y = (x2 + (1 : Int32)) := ⟨_, rfl⟩
        replace hf := bnd_use ev31 hf
        refine lv_iinc (pc := 102) (v := v31) (lv' := [(2, .int v31), (0, .ref h0), (1, .ref h_o)]) hx hb dX0_copyFrom_102 hl (k := 2) rfl (by rw [ev31]; rfl) (by decide) rfl (fun ls hl => ?_)
        refine lv_goto (pc := 105) (tgt := 34) hx hb dX0_copyFrom_105 (by decide) ?_
        exact ih v31 arms strokes hand step travel reversals f14 f18 f22 f26 f30 strokeRow _ _ _ hf hX (lv_sub hl [1, 2, 0] rfl)
  unfold fX0_copyFrom at hf
  refine lv_aload_n (pc := 0) hx hb dX0_copyFrom_0 rfl (lv_at hl 0 rfl) ?_
  refine lv_aload_n (pc := 1) hx hb dX0_copyFrom_1 rfl (lv_at hl 1 rfl) ?_
  refine x_getf (pc := 2) (Cn := RX0) (T := TX0) (N := 12) C hX 7 rfl rfl miX0_copyFrom_X0 6 (by decide) mmX0_copyFrom_1 rfl dX0_copyFrom_2 ?_
  refine x_putf (pc := 5) (Cn := RX0) (T := TX0) (N := 12) C hX tyX0 tyX0_ok nmX0 0 rfl rfl miX0_copyFrom_X0 6 (by decide) mmX0_copyFrom_1 rfl rfl (Nat.le_of_ble_eq_true rfl) [(h0, .inr (0, [.ref h_kindRow, .ref h_slackRow, .ref h_placeRow, .ref h_turnRow, .ref h_wayRow, .ref h_strokeRow, .int o_arms, .int strokes, .int hand, .int step, .int travel, .int reversals])), (h_kindRow, .inl (cI, 4, .inl kindRow)), (h_slackRow, .inl (cI, 4, .inl slackRow)), (h_placeRow, .inl (cI, 4, .inl placeRow)), (h_turnRow, .inl (cI, 4, .inl turnRow)), (h_wayRow, .inl (cI, 4, .inl wayRow)), (h_strokeRow, .inl (cI, 16, .inl strokeRow)), (h_o, .inr (0, [.ref h_o_kindRow, .ref h_o_slackRow, .ref h_o_placeRow, .ref h_o_turnRow, .ref h_o_wayRow, .ref h_o_strokeRow, .int o_arms, .int o_strokes, .int o_hand, .int o_step, .int o_travel, .int o_reversals])), (h_o_kindRow, .inl (cI, 4, .inl o_kindRow)), (h_o_slackRow, .inl (cI, 4, .inl o_slackRow)), (h_o_placeRow, .inl (cI, 4, .inl o_placeRow)), (h_o_turnRow, .inl (cI, 4, .inl o_turnRow)), (h_o_wayRow, .inl (cI, 4, .inl o_wayRow)), (h_o_strokeRow, .inl (cI, 16, .inl o_strokeRow))] rfl dX0_copyFrom_5 (fun H locs hX => ?_)
  refine lv_aload_n (pc := 8) hx hb dX0_copyFrom_8 rfl (lv_at hl 0 rfl) ?_
  refine lv_aload_n (pc := 9) hx hb dX0_copyFrom_9 rfl (lv_at hl 1 rfl) ?_
  refine x_getf (pc := 10) (Cn := RX0) (T := TX0) (N := 12) C hX 7 rfl rfl miX0_copyFrom_X0 7 (by decide) mmX0_copyFrom_2 rfl dX0_copyFrom_10 ?_
  refine x_putf (pc := 13) (Cn := RX0) (T := TX0) (N := 12) C hX tyX0 tyX0_ok nmX0 0 rfl rfl miX0_copyFrom_X0 7 (by decide) mmX0_copyFrom_2 rfl rfl (Nat.le_of_ble_eq_true rfl) [(h0, .inr (0, [.ref h_kindRow, .ref h_slackRow, .ref h_placeRow, .ref h_turnRow, .ref h_wayRow, .ref h_strokeRow, .int o_arms, .int o_strokes, .int hand, .int step, .int travel, .int reversals])), (h_kindRow, .inl (cI, 4, .inl kindRow)), (h_slackRow, .inl (cI, 4, .inl slackRow)), (h_placeRow, .inl (cI, 4, .inl placeRow)), (h_turnRow, .inl (cI, 4, .inl turnRow)), (h_wayRow, .inl (cI, 4, .inl wayRow)), (h_strokeRow, .inl (cI, 16, .inl strokeRow)), (h_o, .inr (0, [.ref h_o_kindRow, .ref h_o_slackRow, .ref h_o_placeRow, .ref h_o_turnRow, .ref h_o_wayRow, .ref h_o_strokeRow, .int o_arms, .int o_strokes, .int o_hand, .int o_step, .int o_travel, .int o_reversals])), (h_o_kindRow, .inl (cI, 4, .inl o_kindRow)), (h_o_slackRow, .inl (cI, 4, .inl o_slackRow)), (h_o_placeRow, .inl (cI, 4, .inl o_placeRow)), (h_o_turnRow, .inl (cI, 4, .inl o_turnRow)), (h_o_wayRow, .inl (cI, 4, .inl o_wayRow)), (h_o_strokeRow, .inl (cI, 16, .inl o_strokeRow))] rfl dX0_copyFrom_13 (fun H locs hX => ?_)
  refine lv_aload_n (pc := 16) hx hb dX0_copyFrom_16 rfl (lv_at hl 0 rfl) ?_
  refine lv_aload_n (pc := 17) hx hb dX0_copyFrom_17 rfl (lv_at hl 1 rfl) ?_
  refine x_getf (pc := 18) (Cn := RX0) (T := TX0) (N := 12) C hX 7 rfl rfl miX0_copyFrom_X0 8 (by decide) mmX0_copyFrom_3 rfl dX0_copyFrom_18 ?_
  refine x_putf (pc := 21) (Cn := RX0) (T := TX0) (N := 12) C hX tyX0 tyX0_ok nmX0 0 rfl rfl miX0_copyFrom_X0 8 (by decide) mmX0_copyFrom_3 rfl rfl (Nat.le_of_ble_eq_true rfl) [(h0, .inr (0, [.ref h_kindRow, .ref h_slackRow, .ref h_placeRow, .ref h_turnRow, .ref h_wayRow, .ref h_strokeRow, .int o_arms, .int o_strokes, .int o_hand, .int step, .int travel, .int reversals])), (h_kindRow, .inl (cI, 4, .inl kindRow)), (h_slackRow, .inl (cI, 4, .inl slackRow)), (h_placeRow, .inl (cI, 4, .inl placeRow)), (h_turnRow, .inl (cI, 4, .inl turnRow)), (h_wayRow, .inl (cI, 4, .inl wayRow)), (h_strokeRow, .inl (cI, 16, .inl strokeRow)), (h_o, .inr (0, [.ref h_o_kindRow, .ref h_o_slackRow, .ref h_o_placeRow, .ref h_o_turnRow, .ref h_o_wayRow, .ref h_o_strokeRow, .int o_arms, .int o_strokes, .int o_hand, .int o_step, .int o_travel, .int o_reversals])), (h_o_kindRow, .inl (cI, 4, .inl o_kindRow)), (h_o_slackRow, .inl (cI, 4, .inl o_slackRow)), (h_o_placeRow, .inl (cI, 4, .inl o_placeRow)), (h_o_turnRow, .inl (cI, 4, .inl o_turnRow)), (h_o_wayRow, .inl (cI, 4, .inl o_wayRow)), (h_o_strokeRow, .inl (cI, 16, .inl o_strokeRow))] rfl dX0_copyFrom_21 (fun H locs hX => ?_)
  refine lv_aload_n (pc := 24) hx hb dX0_copyFrom_24 rfl (lv_at hl 0 rfl) ?_
  refine lv_aload_n (pc := 25) hx hb dX0_copyFrom_25 rfl (lv_at hl 1 rfl) ?_
  refine x_getf (pc := 26) (Cn := RX0) (T := TX0) (N := 12) C hX 7 rfl rfl miX0_copyFrom_X0 9 (by decide) mmX0_copyFrom_4 rfl dX0_copyFrom_26 ?_
  refine x_putf (pc := 29) (Cn := RX0) (T := TX0) (N := 12) C hX tyX0 tyX0_ok nmX0 0 rfl rfl miX0_copyFrom_X0 9 (by decide) mmX0_copyFrom_4 rfl rfl (Nat.le_of_ble_eq_true rfl) [(h0, .inr (0, [.ref h_kindRow, .ref h_slackRow, .ref h_placeRow, .ref h_turnRow, .ref h_wayRow, .ref h_strokeRow, .int o_arms, .int o_strokes, .int o_hand, .int o_step, .int travel, .int reversals])), (h_kindRow, .inl (cI, 4, .inl kindRow)), (h_slackRow, .inl (cI, 4, .inl slackRow)), (h_placeRow, .inl (cI, 4, .inl placeRow)), (h_turnRow, .inl (cI, 4, .inl turnRow)), (h_wayRow, .inl (cI, 4, .inl wayRow)), (h_strokeRow, .inl (cI, 16, .inl strokeRow)), (h_o, .inr (0, [.ref h_o_kindRow, .ref h_o_slackRow, .ref h_o_placeRow, .ref h_o_turnRow, .ref h_o_wayRow, .ref h_o_strokeRow, .int o_arms, .int o_strokes, .int o_hand, .int o_step, .int o_travel, .int o_reversals])), (h_o_kindRow, .inl (cI, 4, .inl o_kindRow)), (h_o_slackRow, .inl (cI, 4, .inl o_slackRow)), (h_o_placeRow, .inl (cI, 4, .inl o_placeRow)), (h_o_turnRow, .inl (cI, 4, .inl o_turnRow)), (h_o_wayRow, .inl (cI, 4, .inl o_wayRow)), (h_o_strokeRow, .inl (cI, 16, .inl o_strokeRow))] rfl dX0_copyFrom_29 (fun H locs hX => ?_)
  refine lv_iconst (pc := 32) (v := 0) hx hb dX0_copyFrom_32 (by decide) ?_
  refine lv_istore_n (pc := 33) (lv' := [(2, .int (0 : Int32)), (0, .ref h0), (1, .ref h_o)]) hx hb dX0_copyFrom_33 rfl hl (by decide) rfl (fun ls hl => ?_)
  exact L34  xF (0 : Int32) o_arms o_strokes o_hand o_step travel reversals kindRow slackRow placeRow turnRow wayRow strokeRow _ _ _ hf hX (lv_sub hl [1, 2, 0] rfl)
theorem mmX0_lastPlace_1 : Cond.fieldLink RX0 30 "SlackArms$Gear" "arms" "I" ∈ wsX0_lastPlace := List.mem_of_getElem? (i := 1) rfl
theorem miX0_lastPlace_X0 : ∀ w ∈ u_ws RX0 TX0 12, w ∈ wsX0_lastPlace := fun w h => List.mem_cons_of_mem _ (List.mem_append_right _ h)
theorem mmX0_lastPlace_3 : Cond.fieldLink RX0 18 "SlackArms$Gear" "placeRow" "[I" ∈ wsX0_lastPlace := List.mem_of_getElem? (i := 3) rfl
theorem mmX0_lastPlace_2 : Cond.fieldLink RX0 37 "SlackArms$Gear" "hand" "I" ∈ wsX0_lastPlace := List.mem_of_getElem? (i := 2) rfl
set_option maxHeartbeats 4000000 in
set_option maxRecDepth 100000 in
theorem kX0_lastPlace (ad : xAd) (l : Launch) (D : va_G) (cI cB cZ cG cS : ClassId) (h0 h_kindRow h_slackRow h_placeRow h_turnRow h_wayRow h_strokeRow : Nat) (arms : Int32) (strokes : Int32) (hand : Int32) (step : Int32) (travel : Int32) (reversals : Int32) (kindRow : (Nat → Int32)) (slackRow : (Nat → Int32)) (placeRow : (Nat → Int32)) (turnRow : (Nat → Int32)) (wayRow : (Nat → Int32)) (strokeRow : (Nat → Int32)) (r0 : Int32)  (hf : fX0_lastPlace  arms hand placeRow = some r0) : xMi ad l yX0_lastPlace wsX0_lastPlace ({ frames := 0, cells := 0, slots := 0, locals := 0 } : Room) D (xTY cI cB cZ cG cS) [.ref h0] [(h0, .inr (0, [.ref h_kindRow, .ref h_slackRow, .ref h_placeRow, .ref h_turnRow, .ref h_wayRow, .ref h_strokeRow, .int arms, .int strokes, .int hand, .int step, .int travel, .int reversals])), (h_kindRow, .inl (cI, 4, .inl kindRow)), (h_slackRow, .inl (cI, 4, .inl slackRow)), (h_placeRow, .inl (cI, 4, .inl placeRow)), (h_turnRow, .inl (cI, 4, .inl turnRow)), (h_wayRow, .inl (cI, 4, .inl wayRow)), (h_strokeRow, .inl (cI, 16, .inl strokeRow))] [(h0, .inr (0, [.ref h_kindRow, .ref h_slackRow, .ref h_placeRow, .ref h_turnRow, .ref h_wayRow, .ref h_strokeRow, .int arms, .int strokes, .int hand, .int step, .int travel, .int reversals])), (h_kindRow, .inl (cI, 4, .inl kindRow)), (h_slackRow, .inl (cI, 4, .inl slackRow)), (h_placeRow, .inl (cI, 4, .inl placeRow)), (h_turnRow, .inl (cI, 4, .inl turnRow)), (h_wayRow, .inl (cI, 4, .inl wayRow)), (h_strokeRow, .inl (cI, 16, .inl strokeRow))] r0 := by
  refine xMi_of (cc := cX0_lastPlace) (maxL := 1) (ty := .int) (by decide) rfl (Nat.le_of_ble_eq_true rfl) ?_
  intro p e s m args below meth c A Q ls C hX hl hret
  have hx := C.1.1
  have hb := C.1.2.1
  have hl : lv_has ls 1 [(0, .ref h0)] := hl
  unfold fX0_lastPlace at hf
  refine lv_aload_n (pc := 0) hx hb dX0_lastPlace_0 rfl (lv_at hl 0 rfl) ?_
  refine x_getf (pc := 1) (Cn := RX0) (T := TX0) (N := 12) C hX 0 rfl rfl miX0_lastPlace_X0 6 (by decide) mmX0_lastPlace_1 rfl dX0_lastPlace_1 ?_
  refine lv_if_ne (pc := 4) (tgt := 14) hx hb dX0_lastPlace_4 (by decide) (fun c1 => ?_) (fun c1 => ?_)
  · replace hf := ite_f c1 hf
    refine lv_aload_n (pc := 14) hx hb dX0_lastPlace_14 rfl (lv_at hl 0 rfl) ?_
    refine x_getf (pc := 15) (Cn := RX0) (T := TX0) (N := 12) C hX 0 rfl rfl miX0_lastPlace_X0 2 (by decide) mmX0_lastPlace_3 rfl dX0_lastPlace_15 ?_
    refine lv_aload_n (pc := 18) hx hb dX0_lastPlace_18 rfl (lv_at hl 0 rfl) ?_
    refine x_getf (pc := 19) (Cn := RX0) (T := TX0) (N := 12) C hX 0 rfl rfl miX0_lastPlace_X0 6 (by decide) mmX0_lastPlace_1 rfl dX0_lastPlace_19 ?_
    refine lv_iconst (pc := 22) (v := 1) hx hb dX0_lastPlace_22 (by decide) ?_
    refine lv_isub (pc := 23) hx hb dX0_lastPlace_23 ?_
    replace hf := chk_adv hf
    have i2 := hf.1
    replace hf := hf.2
    refine x_iald (pc := 24) C hX 3 0 rfl rfl i2 dX0_lastPlace_24 ?_
    obtain ⟨rfl⟩ := re1 hf
    exact hret _ _ _ _ _ rfl rfl hX dX0_lastPlace_25
  · replace hf := ite_t c1 hf
    refine lv_aload_n (pc := 7) hx hb dX0_lastPlace_7 rfl (lv_at hl 0 rfl) ?_
    refine x_getf (pc := 8) (Cn := RX0) (T := TX0) (N := 12) C hX 0 rfl rfl miX0_lastPlace_X0 8 (by decide) mmX0_lastPlace_2 rfl dX0_lastPlace_8 ?_
    refine lv_goto (pc := 11) (tgt := 25) hx hb dX0_lastPlace_11 (by decide) ?_
    obtain ⟨rfl⟩ := re1 hf
    exact hret _ _ _ _ _ rfl rfl hX dX0_lastPlace_25
theorem mmX0_appendArm_1 : Cond.fieldLink RX0 30 "SlackArms$Gear" "arms" "I" ∈ wsX0_appendArm := List.mem_of_getElem? (i := 1) rfl
theorem miX0_appendArm_X0 : ∀ w ∈ u_ws RX0 TX0 12, w ∈ wsX0_appendArm := fun w h => List.mem_cons_of_mem _ (List.mem_append_right _ h)
theorem mmX0_appendArm_2 : Cond.fieldLink RX0 9 "SlackArms$Gear" "kindRow" "[I" ∈ wsX0_appendArm := List.mem_of_getElem? (i := 2) rfl
theorem mmX0_appendArm_3 : Cond.fieldLink RX0 15 "SlackArms$Gear" "slackRow" "[I" ∈ wsX0_appendArm := List.mem_of_getElem? (i := 3) rfl
theorem mmX0_appendArm_4 : Cond.fieldLink RX0 18 "SlackArms$Gear" "placeRow" "[I" ∈ wsX0_appendArm := List.mem_of_getElem? (i := 4) rfl
theorem mmX0_appendArm_5 : Cond.fieldLink RX0 21 "SlackArms$Gear" "turnRow" "[I" ∈ wsX0_appendArm := List.mem_of_getElem? (i := 5) rfl
theorem mmX0_appendArm_6 : Cond.fieldLink RX0 24 "SlackArms$Gear" "wayRow" "[I" ∈ wsX0_appendArm := List.mem_of_getElem? (i := 6) rfl
set_option maxHeartbeats 4000000 in
set_option maxRecDepth 100000 in
theorem kX0_appendArm (ad : xAd) (l : Launch) (D : va_G) (cI cB cZ cG cS : ClassId) (h0 h_kindRow h_slackRow h_placeRow h_turnRow h_wayRow h_strokeRow : Nat) (arms : Int32) (strokes : Int32) (hand : Int32) (step : Int32) (travel : Int32) (reversals : Int32) (kindRow : (Nat → Int32)) (slackRow : (Nat → Int32)) (placeRow : (Nat → Int32)) (turnRow : (Nat → Int32)) (wayRow : (Nat → Int32)) (strokeRow : (Nat → Int32)) (r0 : Int32) (o_arms' : Int32) (o_kindRow' : (Nat → Int32)) (o_slackRow' : (Nat → Int32)) (o_placeRow' : (Nat → Int32)) (o_turnRow' : (Nat → Int32)) (o_wayRow' : (Nat → Int32)) (p1 : Int32) (p2 : Int32) (hf : fX0_appendArm p1 p2 arms hand kindRow slackRow placeRow turnRow wayRow = some (r0, o_arms', o_kindRow', o_slackRow', o_placeRow', o_turnRow', o_wayRow')) : xMi ad l yX0_appendArm wsX0_appendArm ({ frames := 1, cells := 0, slots := 0, locals := 20 } : Room) D (xTY cI cB cZ cG cS) [.ref h0, .int p1, .int p2] [(h0, .inr (0, [.ref h_kindRow, .ref h_slackRow, .ref h_placeRow, .ref h_turnRow, .ref h_wayRow, .ref h_strokeRow, .int arms, .int strokes, .int hand, .int step, .int travel, .int reversals])), (h_kindRow, .inl (cI, 4, .inl kindRow)), (h_slackRow, .inl (cI, 4, .inl slackRow)), (h_placeRow, .inl (cI, 4, .inl placeRow)), (h_turnRow, .inl (cI, 4, .inl turnRow)), (h_wayRow, .inl (cI, 4, .inl wayRow)), (h_strokeRow, .inl (cI, 16, .inl strokeRow))] [(h0, .inr (0, [.ref h_kindRow, .ref h_slackRow, .ref h_placeRow, .ref h_turnRow, .ref h_wayRow, .ref h_strokeRow, .int o_arms', .int strokes, .int hand, .int step, .int travel, .int reversals])), (h_kindRow, .inl (cI, 4, .inl o_kindRow')), (h_slackRow, .inl (cI, 4, .inl o_slackRow')), (h_placeRow, .inl (cI, 4, .inl o_placeRow')), (h_turnRow, .inl (cI, 4, .inl o_turnRow')), (h_wayRow, .inl (cI, 4, .inl o_wayRow')), (h_strokeRow, .inl (cI, 16, .inl strokeRow))] r0 := by
  refine xMi_of (cc := cX0_appendArm) (maxL := 4) (ty := .boolean) (by decide) rfl (Nat.le_of_ble_eq_true rfl) ?_
  intro p e s m args below meth c A Q ls C hX hl hret
  have hx := C.1.1
  have hb := C.1.2.1
  have hl : lv_has ls 4 [(0, .ref h0), (1, .int p1), (2, .int p2)] := hl
  unfold fX0_appendArm at hf
  refine lv_aload_n (pc := 0) hx hb dX0_appendArm_0 rfl (lv_at hl 0 rfl) ?_
  refine x_getf (pc := 1) (Cn := RX0) (T := TX0) (N := 12) C hX 0 rfl rfl miX0_appendArm_X0 6 (by decide) mmX0_appendArm_1 rfl dX0_appendArm_1 ?_
  refine lv_iconst (pc := 4) (v := 4) hx hb dX0_appendArm_4 (by decide) ?_
  refine lv_icmp_lt (pc := 5) (tgt := 10) hx hb dX0_appendArm_5 (by decide) (fun c1 => ?_) (fun c1 => ?_)
  · replace hf := ite_t c1 hf
    refine lv_aload_n (pc := 10) hx hb dX0_appendArm_10 rfl (lv_at hl 0 rfl) ?_
    obtain ⟨r2, g3, hf⟩ := cl1_adv hf
    refine x_callVi (pc := 11) (rest := []) (w2 := [(h0, .inr (0, [.ref h_kindRow, .ref h_slackRow, .ref h_placeRow, .ref h_turnRow, .ref h_wayRow, .ref h_strokeRow, .int arms, .int strokes, .int hand, .int step, .int travel, .int reversals])), (h_kindRow, .inl (cI, 4, .inl kindRow)), (h_slackRow, .inl (cI, 4, .inl slackRow)), (h_placeRow, .inl (cI, 4, .inl placeRow)), (h_turnRow, .inl (cI, 4, .inl turnRow)), (h_wayRow, .inl (cI, 4, .inl wayRow)), (h_strokeRow, .inl (cI, 16, .inl strokeRow))]) C hX (kX0_lastPlace ad l D cI cB cZ cG cS h0 h_kindRow h_slackRow h_placeRow h_turnRow h_wayRow h_strokeRow arms strokes hand step travel reversals kindRow slackRow placeRow turnRow wayRow strokeRow r2 g3) (cwV 0 C.1.2.2.2.2 gX0_appendArm_X0_lastPlace rfl rfl rfl (by decide +kernel) ⟨Nat.le_of_ble_eq_true rfl, Nat.le_of_ble_eq_true rfl⟩) [0, 1, 2, 3, 4, 5, 6] [] [0, 1, 2, 3, 4, 5, 6] rfl rfl rfl rfl (by decide) rfl rfl 0 rfl rfl rfl hl.1 rfl rfl (Nat.le_of_ble_eq_true rfl) dX0_appendArm_11 (fun H locs hX => ?_)
    refine lv_istore_n (pc := 14) (lv' := [(3, .int r2), (0, .ref h0), (1, .int p1), (2, .int p2)]) hx hb dX0_appendArm_14 rfl hl (by decide) rfl (fun ls hl => ?_)
    refine lv_aload_n (pc := 15) hx hb dX0_appendArm_15 rfl (lv_at hl 1 rfl) ?_
    refine x_getf (pc := 16) (Cn := RX0) (T := TX0) (N := 12) C hX 0 rfl rfl miX0_appendArm_X0 0 (by decide) mmX0_appendArm_2 rfl dX0_appendArm_16 ?_
    refine lv_aload_n (pc := 19) hx hb dX0_appendArm_19 rfl (lv_at hl 1 rfl) ?_
    refine x_getf (pc := 20) (Cn := RX0) (T := TX0) (N := 12) C hX 0 rfl rfl miX0_appendArm_X0 6 (by decide) mmX0_appendArm_1 rfl dX0_appendArm_20 ?_
    refine lv_iload_n (pc := 23) hx hb dX0_appendArm_23 rfl (lv_at hl 2 rfl) ?_
    replace hf := chk_adv hf
    have i4 := hf.1
    replace hf := hf.2
    obtain ⟨f5, ef5⟩ : ∃ y : Nat → Int32, y = (upd kindRow (arms).toNatClampNeg p1) := ⟨_, rfl⟩
    replace hf := bnd_use ef5 hf
    refine x_iast (pc := 24) C hX 1 0 rfl rfl i4 [(h0, .inr (0, [.ref h_kindRow, .ref h_slackRow, .ref h_placeRow, .ref h_turnRow, .ref h_wayRow, .ref h_strokeRow, .int arms, .int strokes, .int hand, .int step, .int travel, .int reversals])), (h_kindRow, .inl (cI, 4, .inl f5)), (h_slackRow, .inl (cI, 4, .inl slackRow)), (h_placeRow, .inl (cI, 4, .inl placeRow)), (h_turnRow, .inl (cI, 4, .inl turnRow)), (h_wayRow, .inl (cI, 4, .inl wayRow)), (h_strokeRow, .inl (cI, 16, .inl strokeRow))] (by subst ef5; rfl) dX0_appendArm_24 (fun H locs hX => ?_)
    refine lv_aload_n (pc := 25) hx hb dX0_appendArm_25 rfl (lv_at hl 1 rfl) ?_
    refine x_getf (pc := 26) (Cn := RX0) (T := TX0) (N := 12) C hX 0 rfl rfl miX0_appendArm_X0 1 (by decide) mmX0_appendArm_3 rfl dX0_appendArm_26 ?_
    refine lv_aload_n (pc := 29) hx hb dX0_appendArm_29 rfl (lv_at hl 1 rfl) ?_
    refine x_getf (pc := 30) (Cn := RX0) (T := TX0) (N := 12) C hX 0 rfl rfl miX0_appendArm_X0 6 (by decide) mmX0_appendArm_1 rfl dX0_appendArm_30 ?_
    refine lv_iload_n (pc := 33) hx hb dX0_appendArm_33 rfl (lv_at hl 3 rfl) ?_
    replace hf := chk_adv hf
    have i6 := hf.1
    replace hf := hf.2
    obtain ⟨f7, ef7⟩ : ∃ y : Nat → Int32, y = (upd slackRow (arms).toNatClampNeg p2) := ⟨_, rfl⟩
    replace hf := bnd_use ef7 hf
    refine x_iast (pc := 34) C hX 2 0 rfl rfl i6 [(h0, .inr (0, [.ref h_kindRow, .ref h_slackRow, .ref h_placeRow, .ref h_turnRow, .ref h_wayRow, .ref h_strokeRow, .int arms, .int strokes, .int hand, .int step, .int travel, .int reversals])), (h_kindRow, .inl (cI, 4, .inl f5)), (h_slackRow, .inl (cI, 4, .inl f7)), (h_placeRow, .inl (cI, 4, .inl placeRow)), (h_turnRow, .inl (cI, 4, .inl turnRow)), (h_wayRow, .inl (cI, 4, .inl wayRow)), (h_strokeRow, .inl (cI, 16, .inl strokeRow))] (by subst ef7; rfl) dX0_appendArm_34 (fun H locs hX => ?_)
    refine lv_aload_n (pc := 35) hx hb dX0_appendArm_35 rfl (lv_at hl 1 rfl) ?_
    refine x_getf (pc := 36) (Cn := RX0) (T := TX0) (N := 12) C hX 0 rfl rfl miX0_appendArm_X0 2 (by decide) mmX0_appendArm_4 rfl dX0_appendArm_36 ?_
    refine lv_aload_n (pc := 39) hx hb dX0_appendArm_39 rfl (lv_at hl 1 rfl) ?_
    refine x_getf (pc := 40) (Cn := RX0) (T := TX0) (N := 12) C hX 0 rfl rfl miX0_appendArm_X0 6 (by decide) mmX0_appendArm_1 rfl dX0_appendArm_40 ?_
    refine lv_iload_n (pc := 43) hx hb dX0_appendArm_43 rfl (lv_at hl 0 rfl) ?_
    replace hf := chk_adv hf
    have i8 := hf.1
    replace hf := hf.2
    obtain ⟨f9, ef9⟩ : ∃ y : Nat → Int32, y = (upd placeRow (arms).toNatClampNeg r2) := ⟨_, rfl⟩
    replace hf := bnd_use ef9 hf
    refine x_iast (pc := 44) C hX 3 0 rfl rfl i8 [(h0, .inr (0, [.ref h_kindRow, .ref h_slackRow, .ref h_placeRow, .ref h_turnRow, .ref h_wayRow, .ref h_strokeRow, .int arms, .int strokes, .int hand, .int step, .int travel, .int reversals])), (h_kindRow, .inl (cI, 4, .inl f5)), (h_slackRow, .inl (cI, 4, .inl f7)), (h_placeRow, .inl (cI, 4, .inl f9)), (h_turnRow, .inl (cI, 4, .inl turnRow)), (h_wayRow, .inl (cI, 4, .inl wayRow)), (h_strokeRow, .inl (cI, 16, .inl strokeRow))] (by subst ef9; rfl) dX0_appendArm_44 (fun H locs hX => ?_)
    refine lv_aload_n (pc := 45) hx hb dX0_appendArm_45 rfl (lv_at hl 1 rfl) ?_
    refine x_getf (pc := 46) (Cn := RX0) (T := TX0) (N := 12) C hX 0 rfl rfl miX0_appendArm_X0 3 (by decide) mmX0_appendArm_5 rfl dX0_appendArm_46 ?_
    refine lv_aload_n (pc := 49) hx hb dX0_appendArm_49 rfl (lv_at hl 1 rfl) ?_
    refine x_getf (pc := 50) (Cn := RX0) (T := TX0) (N := 12) C hX 0 rfl rfl miX0_appendArm_X0 6 (by decide) mmX0_appendArm_1 rfl dX0_appendArm_50 ?_
    refine lv_iconst (pc := 53) (v := 0) hx hb dX0_appendArm_53 (by decide) ?_
    replace hf := chk_adv hf
    have i10 := hf.1
    replace hf := hf.2
    obtain ⟨f11, ef11⟩ : ∃ y : Nat → Int32, y = (upd turnRow (arms).toNatClampNeg (0 : Int32)) := ⟨_, rfl⟩
    replace hf := bnd_use ef11 hf
    refine x_iast (pc := 54) C hX 4 0 rfl rfl i10 [(h0, .inr (0, [.ref h_kindRow, .ref h_slackRow, .ref h_placeRow, .ref h_turnRow, .ref h_wayRow, .ref h_strokeRow, .int arms, .int strokes, .int hand, .int step, .int travel, .int reversals])), (h_kindRow, .inl (cI, 4, .inl f5)), (h_slackRow, .inl (cI, 4, .inl f7)), (h_placeRow, .inl (cI, 4, .inl f9)), (h_turnRow, .inl (cI, 4, .inl f11)), (h_wayRow, .inl (cI, 4, .inl wayRow)), (h_strokeRow, .inl (cI, 16, .inl strokeRow))] (by subst ef11; rfl) dX0_appendArm_54 (fun H locs hX => ?_)
    refine lv_aload_n (pc := 55) hx hb dX0_appendArm_55 rfl (lv_at hl 1 rfl) ?_
    refine x_getf (pc := 56) (Cn := RX0) (T := TX0) (N := 12) C hX 0 rfl rfl miX0_appendArm_X0 4 (by decide) mmX0_appendArm_6 rfl dX0_appendArm_56 ?_
    refine lv_aload_n (pc := 59) hx hb dX0_appendArm_59 rfl (lv_at hl 1 rfl) ?_
    refine x_getf (pc := 60) (Cn := RX0) (T := TX0) (N := 12) C hX 0 rfl rfl miX0_appendArm_X0 6 (by decide) mmX0_appendArm_1 rfl dX0_appendArm_60 ?_
    refine lv_iconst (pc := 63) (v := 0) hx hb dX0_appendArm_63 (by decide) ?_
    replace hf := chk_adv hf
    have i12 := hf.1
    replace hf := hf.2
    obtain ⟨f13, ef13⟩ : ∃ y : Nat → Int32, y = (upd wayRow (arms).toNatClampNeg (0 : Int32)) := ⟨_, rfl⟩
    replace hf := bnd_use ef13 hf
    refine x_iast (pc := 64) C hX 5 0 rfl rfl i12 [(h0, .inr (0, [.ref h_kindRow, .ref h_slackRow, .ref h_placeRow, .ref h_turnRow, .ref h_wayRow, .ref h_strokeRow, .int arms, .int strokes, .int hand, .int step, .int travel, .int reversals])), (h_kindRow, .inl (cI, 4, .inl f5)), (h_slackRow, .inl (cI, 4, .inl f7)), (h_placeRow, .inl (cI, 4, .inl f9)), (h_turnRow, .inl (cI, 4, .inl f11)), (h_wayRow, .inl (cI, 4, .inl f13)), (h_strokeRow, .inl (cI, 16, .inl strokeRow))] (by subst ef13; rfl) dX0_appendArm_64 (fun H locs hX => ?_)
    refine lv_aload_n (pc := 65) hx hb dX0_appendArm_65 rfl (lv_at hl 1 rfl) ?_
    refine lv_dup (pc := 66) hx hb dX0_appendArm_66 rfl ?_
    refine x_getf (pc := 67) (Cn := RX0) (T := TX0) (N := 12) C hX 0 rfl rfl miX0_appendArm_X0 6 (by decide) mmX0_appendArm_1 rfl dX0_appendArm_67 ?_
    refine lv_iconst (pc := 70) (v := 1) hx hb dX0_appendArm_70 (by decide) ?_
    refine lv_iadd (pc := 71) hx hb dX0_appendArm_71 ?_
    refine lv_topi (fun v14 ev14 => ?_)
    replace hf := bnd_use ev14 hf
    refine x_putf (pc := 72) (Cn := RX0) (T := TX0) (N := 12) C hX tyX0 tyX0_ok nmX0 0 rfl rfl miX0_appendArm_X0 6 (by decide) mmX0_appendArm_1 rfl rfl (Nat.le_of_ble_eq_true rfl) [(h0, .inr (0, [.ref h_kindRow, .ref h_slackRow, .ref h_placeRow, .ref h_turnRow, .ref h_wayRow, .ref h_strokeRow, .int v14, .int strokes, .int hand, .int step, .int travel, .int reversals])), (h_kindRow, .inl (cI, 4, .inl f5)), (h_slackRow, .inl (cI, 4, .inl f7)), (h_placeRow, .inl (cI, 4, .inl f9)), (h_turnRow, .inl (cI, 4, .inl f11)), (h_wayRow, .inl (cI, 4, .inl f13)), (h_strokeRow, .inl (cI, 16, .inl strokeRow))] rfl dX0_appendArm_72 (fun H locs hX => ?_)
    refine lv_iconst (pc := 75) (v := 1) hx hb dX0_appendArm_75 (by decide) ?_
    obtain ⟨rfl, rfl, rfl, rfl, rfl, rfl, rfl⟩ := re7 hf
    exact hret _ _ _ _ _ rfl rfl hX dX0_appendArm_76
  · replace hf := ite_f c1 hf
    refine lv_iconst (pc := 8) (v := 0) hx hb dX0_appendArm_8 (by decide) ?_
    obtain ⟨rfl, rfl, rfl, rfl, rfl, rfl, rfl⟩ := re7 hf
    exact hret _ _ _ _ _ rfl rfl hX dX0_appendArm_9
theorem mmX0_appendStroke_1 : Cond.fieldLink RX0 34 "SlackArms$Gear" "strokes" "I" ∈ wsX0_appendStroke := List.mem_of_getElem? (i := 1) rfl
theorem miX0_appendStroke_X0 : ∀ w ∈ u_ws RX0 TX0 12, w ∈ wsX0_appendStroke := fun w h => List.mem_cons_of_mem _ (List.mem_append_right _ h)
theorem mmX0_appendStroke_2 : Cond.fieldLink RX0 27 "SlackArms$Gear" "strokeRow" "[I" ∈ wsX0_appendStroke := List.mem_of_getElem? (i := 2) rfl
set_option maxHeartbeats 4000000 in
set_option maxRecDepth 100000 in
theorem kX0_appendStroke (ad : xAd) (l : Launch) (D : va_G) (cI cB cZ cG cS : ClassId) (h0 h_kindRow h_slackRow h_placeRow h_turnRow h_wayRow h_strokeRow : Nat) (arms : Int32) (strokes : Int32) (hand : Int32) (step : Int32) (travel : Int32) (reversals : Int32) (kindRow : (Nat → Int32)) (slackRow : (Nat → Int32)) (placeRow : (Nat → Int32)) (turnRow : (Nat → Int32)) (wayRow : (Nat → Int32)) (strokeRow : (Nat → Int32)) (r0 : Int32) (o_strokes' : Int32) (o_strokeRow' : (Nat → Int32)) (p1 : Int32) (hf : fX0_appendStroke p1 strokes strokeRow = some (r0, o_strokes', o_strokeRow')) : xMi ad l yX0_appendStroke wsX0_appendStroke ({ frames := 0, cells := 0, slots := 0, locals := 0 } : Room) D (xTY cI cB cZ cG cS) [.ref h0, .int p1] [(h0, .inr (0, [.ref h_kindRow, .ref h_slackRow, .ref h_placeRow, .ref h_turnRow, .ref h_wayRow, .ref h_strokeRow, .int arms, .int strokes, .int hand, .int step, .int travel, .int reversals])), (h_kindRow, .inl (cI, 4, .inl kindRow)), (h_slackRow, .inl (cI, 4, .inl slackRow)), (h_placeRow, .inl (cI, 4, .inl placeRow)), (h_turnRow, .inl (cI, 4, .inl turnRow)), (h_wayRow, .inl (cI, 4, .inl wayRow)), (h_strokeRow, .inl (cI, 16, .inl strokeRow))] [(h0, .inr (0, [.ref h_kindRow, .ref h_slackRow, .ref h_placeRow, .ref h_turnRow, .ref h_wayRow, .ref h_strokeRow, .int arms, .int o_strokes', .int hand, .int step, .int travel, .int reversals])), (h_kindRow, .inl (cI, 4, .inl kindRow)), (h_slackRow, .inl (cI, 4, .inl slackRow)), (h_placeRow, .inl (cI, 4, .inl placeRow)), (h_turnRow, .inl (cI, 4, .inl turnRow)), (h_wayRow, .inl (cI, 4, .inl wayRow)), (h_strokeRow, .inl (cI, 16, .inl o_strokeRow'))] r0 := by
  refine xMi_of (cc := cX0_appendStroke) (maxL := 2) (ty := .boolean) (by decide) rfl (Nat.le_of_ble_eq_true rfl) ?_
  intro p e s m args below meth c A Q ls C hX hl hret
  have hx := C.1.1
  have hb := C.1.2.1
  have hl : lv_has ls 2 [(0, .ref h0), (1, .int p1)] := hl
  unfold fX0_appendStroke at hf
  refine lv_aload_n (pc := 0) hx hb dX0_appendStroke_0 rfl (lv_at hl 0 rfl) ?_
  refine x_getf (pc := 1) (Cn := RX0) (T := TX0) (N := 12) C hX 0 rfl rfl miX0_appendStroke_X0 7 (by decide) mmX0_appendStroke_1 rfl dX0_appendStroke_1 ?_
  refine lv_bipush (pc := 4) (v := 16) hx hb dX0_appendStroke_4 (by decide) ?_
  refine lv_icmp_lt (pc := 6) (tgt := 11) hx hb dX0_appendStroke_6 (by decide) (fun c1 => ?_) (fun c1 => ?_)
  · replace hf := ite_t c1 hf
    refine lv_aload_n (pc := 11) hx hb dX0_appendStroke_11 rfl (lv_at hl 0 rfl) ?_
    refine x_getf (pc := 12) (Cn := RX0) (T := TX0) (N := 12) C hX 0 rfl rfl miX0_appendStroke_X0 5 (by decide) mmX0_appendStroke_2 rfl dX0_appendStroke_12 ?_
    refine lv_aload_n (pc := 15) hx hb dX0_appendStroke_15 rfl (lv_at hl 0 rfl) ?_
    refine x_getf (pc := 16) (Cn := RX0) (T := TX0) (N := 12) C hX 0 rfl rfl miX0_appendStroke_X0 7 (by decide) mmX0_appendStroke_1 rfl dX0_appendStroke_16 ?_
    refine lv_iload_n (pc := 19) hx hb dX0_appendStroke_19 rfl (lv_at hl 1 rfl) ?_
    replace hf := chk_adv hf
    have i2 := hf.1
    replace hf := hf.2
    obtain ⟨f3, ef3⟩ : ∃ y : Nat → Int32, y = (upd strokeRow (strokes).toNatClampNeg p1) := ⟨_, rfl⟩
    replace hf := bnd_use ef3 hf
    refine x_iast (pc := 20) C hX 6 0 rfl rfl i2 [(h0, .inr (0, [.ref h_kindRow, .ref h_slackRow, .ref h_placeRow, .ref h_turnRow, .ref h_wayRow, .ref h_strokeRow, .int arms, .int strokes, .int hand, .int step, .int travel, .int reversals])), (h_kindRow, .inl (cI, 4, .inl kindRow)), (h_slackRow, .inl (cI, 4, .inl slackRow)), (h_placeRow, .inl (cI, 4, .inl placeRow)), (h_turnRow, .inl (cI, 4, .inl turnRow)), (h_wayRow, .inl (cI, 4, .inl wayRow)), (h_strokeRow, .inl (cI, 16, .inl f3))] (by subst ef3; rfl) dX0_appendStroke_20 (fun H locs hX => ?_)
    refine lv_aload_n (pc := 21) hx hb dX0_appendStroke_21 rfl (lv_at hl 0 rfl) ?_
    refine lv_dup (pc := 22) hx hb dX0_appendStroke_22 rfl ?_
    refine x_getf (pc := 23) (Cn := RX0) (T := TX0) (N := 12) C hX 0 rfl rfl miX0_appendStroke_X0 7 (by decide) mmX0_appendStroke_1 rfl dX0_appendStroke_23 ?_
    refine lv_iconst (pc := 26) (v := 1) hx hb dX0_appendStroke_26 (by decide) ?_
    refine lv_iadd (pc := 27) hx hb dX0_appendStroke_27 ?_
    refine lv_topi (fun v4 ev4 => ?_)
    replace hf := bnd_use ev4 hf
    refine x_putf (pc := 28) (Cn := RX0) (T := TX0) (N := 12) C hX tyX0 tyX0_ok nmX0 0 rfl rfl miX0_appendStroke_X0 7 (by decide) mmX0_appendStroke_1 rfl rfl (Nat.le_of_ble_eq_true rfl) [(h0, .inr (0, [.ref h_kindRow, .ref h_slackRow, .ref h_placeRow, .ref h_turnRow, .ref h_wayRow, .ref h_strokeRow, .int arms, .int v4, .int hand, .int step, .int travel, .int reversals])), (h_kindRow, .inl (cI, 4, .inl kindRow)), (h_slackRow, .inl (cI, 4, .inl slackRow)), (h_placeRow, .inl (cI, 4, .inl placeRow)), (h_turnRow, .inl (cI, 4, .inl turnRow)), (h_wayRow, .inl (cI, 4, .inl wayRow)), (h_strokeRow, .inl (cI, 16, .inl f3))] rfl dX0_appendStroke_28 (fun H locs hX => ?_)
    refine lv_iconst (pc := 31) (v := 1) hx hb dX0_appendStroke_31 (by decide) ?_
    obtain ⟨rfl, rfl, rfl⟩ := re3 hf
    exact hret _ _ _ _ _ rfl rfl hX dX0_appendStroke_32
  · replace hf := ite_f c1 hf
    refine lv_iconst (pc := 9) (v := 0) hx hb dX0_appendStroke_9 (by decide) ?_
    obtain ⟨rfl, rfl, rfl⟩ := re3 hf
    exact hret _ _ _ _ _ rfl rfl hX dX0_appendStroke_10
theorem mmX0_settingOf_3 : Cond.fieldLink RX0 21 "SlackArms$Gear" "turnRow" "[I" ∈ wsX0_settingOf := List.mem_of_getElem? (i := 3) rfl
theorem miX0_settingOf_X0 : ∀ w ∈ u_ws RX0 TX0 12, w ∈ wsX0_settingOf := fun w h => List.mem_cons_of_mem _ (List.mem_append_right _ h)
theorem mmX0_settingOf_2 : Cond.fieldLink RX0 15 "SlackArms$Gear" "slackRow" "[I" ∈ wsX0_settingOf := List.mem_of_getElem? (i := 2) rfl
theorem mmX0_settingOf_1 : Cond.fieldLink RX0 9 "SlackArms$Gear" "kindRow" "[I" ∈ wsX0_settingOf := List.mem_of_getElem? (i := 1) rfl
set_option maxHeartbeats 4000000 in
set_option maxRecDepth 100000 in
theorem kX0_settingOf (ad : xAd) (l : Launch) (D : va_G) (cI cB cZ cG cS : ClassId) (h0 h_kindRow h_slackRow h_placeRow h_turnRow h_wayRow h_strokeRow : Nat) (arms : Int32) (strokes : Int32) (hand : Int32) (step : Int32) (travel : Int32) (reversals : Int32) (kindRow : (Nat → Int32)) (slackRow : (Nat → Int32)) (placeRow : (Nat → Int32)) (turnRow : (Nat → Int32)) (wayRow : (Nat → Int32)) (strokeRow : (Nat → Int32)) (r0 : Int32) (p1 : Int32) (p2 : Int32) (hf : fX0_settingOf p1 p2 kindRow slackRow turnRow = some r0) : xMi ad l yX0_settingOf wsX0_settingOf ({ frames := 0, cells := 0, slots := 0, locals := 0 } : Room) D (xTY cI cB cZ cG cS) [.ref h0, .int p1, .int p2] [(h0, .inr (0, [.ref h_kindRow, .ref h_slackRow, .ref h_placeRow, .ref h_turnRow, .ref h_wayRow, .ref h_strokeRow, .int arms, .int strokes, .int hand, .int step, .int travel, .int reversals])), (h_kindRow, .inl (cI, 4, .inl kindRow)), (h_slackRow, .inl (cI, 4, .inl slackRow)), (h_placeRow, .inl (cI, 4, .inl placeRow)), (h_turnRow, .inl (cI, 4, .inl turnRow)), (h_wayRow, .inl (cI, 4, .inl wayRow)), (h_strokeRow, .inl (cI, 16, .inl strokeRow))] [(h0, .inr (0, [.ref h_kindRow, .ref h_slackRow, .ref h_placeRow, .ref h_turnRow, .ref h_wayRow, .ref h_strokeRow, .int arms, .int strokes, .int hand, .int step, .int travel, .int reversals])), (h_kindRow, .inl (cI, 4, .inl kindRow)), (h_slackRow, .inl (cI, 4, .inl slackRow)), (h_placeRow, .inl (cI, 4, .inl placeRow)), (h_turnRow, .inl (cI, 4, .inl turnRow)), (h_wayRow, .inl (cI, 4, .inl wayRow)), (h_strokeRow, .inl (cI, 16, .inl strokeRow))] r0 := by
  refine xMi_of (cc := cX0_settingOf) (maxL := 3) (ty := .int) (by decide) rfl (Nat.le_of_ble_eq_true rfl) ?_
  intro p e s m args below meth c A Q ls C hX hl hret
  have hx := C.1.1
  have hb := C.1.2.1
  have hl : lv_has ls 3 [(0, .ref h0), (1, .int p1), (2, .int p2)] := hl
  unfold fX0_settingOf at hf
  refine lv_iload_n (pc := 0) hx hb dX0_settingOf_0 rfl (lv_at hl 2 rfl) ?_
  refine lv_if_ne (pc := 1) (tgt := 11) hx hb dX0_settingOf_1 (by decide) (fun c1 => ?_) (fun c1 => ?_)
  · replace hf := ite_f c1 hf
    refine lv_iload_n (pc := 11) hx hb dX0_settingOf_11 rfl (lv_at hl 2 rfl) ?_
    refine lv_iconst (pc := 12) (v := 1) hx hb dX0_settingOf_12 (by decide) ?_
    refine lv_icmp_ne (pc := 13) (tgt := 25) hx hb dX0_settingOf_13 (by decide) (fun c2 => ?_) (fun c2 => ?_)
    · replace hf := ite_f c2 hf
      refine lv_aload_n (pc := 25) hx hb dX0_settingOf_25 rfl (lv_at hl 0 rfl) ?_
      refine x_getf (pc := 26) (Cn := RX0) (T := TX0) (N := 12) C hX 0 rfl rfl miX0_settingOf_X0 3 (by decide) mmX0_settingOf_3 rfl dX0_settingOf_26 ?_
      refine lv_iload_n (pc := 29) hx hb dX0_settingOf_29 rfl (lv_at hl 1 rfl) ?_
      replace hf := chk_adv hf
      have i3 := hf.1
      replace hf := hf.2
      refine x_iald (pc := 30) C hX 4 0 rfl rfl i3 dX0_settingOf_30 ?_
      obtain ⟨rfl⟩ := re1 hf
      exact hret _ _ _ _ _ rfl rfl hX dX0_settingOf_31
    · replace hf := ite_t c2 hf
      refine lv_aload_n (pc := 16) hx hb dX0_settingOf_16 rfl (lv_at hl 0 rfl) ?_
      refine x_getf (pc := 17) (Cn := RX0) (T := TX0) (N := 12) C hX 0 rfl rfl miX0_settingOf_X0 1 (by decide) mmX0_settingOf_2 rfl dX0_settingOf_17 ?_
      refine lv_iload_n (pc := 20) hx hb dX0_settingOf_20 rfl (lv_at hl 1 rfl) ?_
      replace hf := chk_adv hf
      have i4 := hf.1
      replace hf := hf.2
      refine x_iald (pc := 21) C hX 2 0 rfl rfl i4 dX0_settingOf_21 ?_
      refine lv_goto (pc := 22) (tgt := 31) hx hb dX0_settingOf_22 (by decide) ?_
      obtain ⟨rfl⟩ := re1 hf
      exact hret _ _ _ _ _ rfl rfl hX dX0_settingOf_31
  · replace hf := ite_t c1 hf
    refine lv_aload_n (pc := 4) hx hb dX0_settingOf_4 rfl (lv_at hl 0 rfl) ?_
    refine x_getf (pc := 5) (Cn := RX0) (T := TX0) (N := 12) C hX 0 rfl rfl miX0_settingOf_X0 0 (by decide) mmX0_settingOf_1 rfl dX0_settingOf_5 ?_
    refine lv_iload_n (pc := 8) hx hb dX0_settingOf_8 rfl (lv_at hl 1 rfl) ?_
    replace hf := chk_adv hf
    have i5 := hf.1
    replace hf := hf.2
    refine x_iald (pc := 9) C hX 1 0 rfl rfl i5 dX0_settingOf_9 ?_
    obtain ⟨rfl⟩ := re1 hf
    exact hret _ _ _ _ _ rfl rfl hX dX0_settingOf_10
theorem mmX0_changeSetting_3 : Cond.fieldLink RX0 21 "SlackArms$Gear" "turnRow" "[I" ∈ wsX0_changeSetting := List.mem_of_getElem? (i := 3) rfl
theorem miX0_changeSetting_X0 : ∀ w ∈ u_ws RX0 TX0 12, w ∈ wsX0_changeSetting := fun w h => List.mem_cons_of_mem _ (List.mem_append_right _ h)
theorem mmX0_changeSetting_2 : Cond.fieldLink RX0 15 "SlackArms$Gear" "slackRow" "[I" ∈ wsX0_changeSetting := List.mem_of_getElem? (i := 2) rfl
theorem mmX0_changeSetting_1 : Cond.fieldLink RX0 9 "SlackArms$Gear" "kindRow" "[I" ∈ wsX0_changeSetting := List.mem_of_getElem? (i := 1) rfl
set_option maxHeartbeats 4000000 in
set_option maxRecDepth 100000 in
theorem kX0_changeSetting (ad : xAd) (l : Launch) (D : va_G) (cI cB cZ cG cS : ClassId) (h0 h_kindRow h_slackRow h_placeRow h_turnRow h_wayRow h_strokeRow : Nat) (arms : Int32) (strokes : Int32) (hand : Int32) (step : Int32) (travel : Int32) (reversals : Int32) (kindRow : (Nat → Int32)) (slackRow : (Nat → Int32)) (placeRow : (Nat → Int32)) (turnRow : (Nat → Int32)) (wayRow : (Nat → Int32)) (strokeRow : (Nat → Int32)) (o_kindRow' : (Nat → Int32)) (o_slackRow' : (Nat → Int32)) (o_turnRow' : (Nat → Int32)) (p1 : Int32) (p2 : Int32) (p3 : Int32) (hf : fX0_changeSetting p1 p2 p3 kindRow slackRow turnRow = some (o_kindRow', o_slackRow', o_turnRow')) : xMv ad l yX0_changeSetting wsX0_changeSetting ({ frames := 0, cells := 0, slots := 0, locals := 0 } : Room) D (xTY cI cB cZ cG cS) [.ref h0, .int p1, .int p2, .int p3] [(h0, .inr (0, [.ref h_kindRow, .ref h_slackRow, .ref h_placeRow, .ref h_turnRow, .ref h_wayRow, .ref h_strokeRow, .int arms, .int strokes, .int hand, .int step, .int travel, .int reversals])), (h_kindRow, .inl (cI, 4, .inl kindRow)), (h_slackRow, .inl (cI, 4, .inl slackRow)), (h_placeRow, .inl (cI, 4, .inl placeRow)), (h_turnRow, .inl (cI, 4, .inl turnRow)), (h_wayRow, .inl (cI, 4, .inl wayRow)), (h_strokeRow, .inl (cI, 16, .inl strokeRow))] [(h0, .inr (0, [.ref h_kindRow, .ref h_slackRow, .ref h_placeRow, .ref h_turnRow, .ref h_wayRow, .ref h_strokeRow, .int arms, .int strokes, .int hand, .int step, .int travel, .int reversals])), (h_kindRow, .inl (cI, 4, .inl o_kindRow')), (h_slackRow, .inl (cI, 4, .inl o_slackRow')), (h_placeRow, .inl (cI, 4, .inl placeRow)), (h_turnRow, .inl (cI, 4, .inl o_turnRow')), (h_wayRow, .inl (cI, 4, .inl wayRow)), (h_strokeRow, .inl (cI, 16, .inl strokeRow))] := by
  refine xMv_of (cc := cX0_changeSetting) (maxL := 4) (by decide) rfl (Nat.le_of_ble_eq_true rfl) ?_
  intro p e s m args below meth c A Q ls C hX hl hret
  have hx := C.1.1
  have hb := C.1.2.1
  have hl : lv_has ls 4 [(0, .ref h0), (1, .int p1), (2, .int p2), (3, .int p3)] := hl
  unfold fX0_changeSetting at hf
  refine lv_iload_n (pc := 0) hx hb dX0_changeSetting_0 rfl (lv_at hl 2 rfl) ?_
  refine lv_if_ne (pc := 1) (tgt := 14) hx hb dX0_changeSetting_1 (by decide) (fun c1 => ?_) (fun c1 => ?_)
  · replace hf := ite_f c1 hf
    refine lv_iload_n (pc := 14) hx hb dX0_changeSetting_14 rfl (lv_at hl 2 rfl) ?_
    refine lv_iconst (pc := 15) (v := 1) hx hb dX0_changeSetting_15 (by decide) ?_
    refine lv_icmp_ne (pc := 16) (tgt := 29) hx hb dX0_changeSetting_16 (by decide) (fun c2 => ?_) (fun c2 => ?_)
    · replace hf := ite_f c2 hf
      refine lv_aload_n (pc := 29) hx hb dX0_changeSetting_29 rfl (lv_at hl 0 rfl) ?_
      refine x_getf (pc := 30) (Cn := RX0) (T := TX0) (N := 12) C hX 0 rfl rfl miX0_changeSetting_X0 3 (by decide) mmX0_changeSetting_3 rfl dX0_changeSetting_30 ?_
      refine lv_iload_n (pc := 33) hx hb dX0_changeSetting_33 rfl (lv_at hl 1 rfl) ?_
      refine lv_iload_n (pc := 34) hx hb dX0_changeSetting_34 rfl (lv_at hl 3 rfl) ?_
      replace hf := chk_adv hf
      have i3 := hf.1
      replace hf := hf.2
      obtain ⟨f4, ef4⟩ : ∃ y : Nat → Int32, y = (upd turnRow (p1).toNatClampNeg p3) := ⟨_, rfl⟩
      replace hf := bnd_use ef4 hf
      refine x_iast (pc := 35) C hX 4 0 rfl rfl i3 [(h0, .inr (0, [.ref h_kindRow, .ref h_slackRow, .ref h_placeRow, .ref h_turnRow, .ref h_wayRow, .ref h_strokeRow, .int arms, .int strokes, .int hand, .int step, .int travel, .int reversals])), (h_kindRow, .inl (cI, 4, .inl kindRow)), (h_slackRow, .inl (cI, 4, .inl slackRow)), (h_placeRow, .inl (cI, 4, .inl placeRow)), (h_turnRow, .inl (cI, 4, .inl f4)), (h_wayRow, .inl (cI, 4, .inl wayRow)), (h_strokeRow, .inl (cI, 16, .inl strokeRow))] (by subst ef4; rfl) dX0_changeSetting_35 (fun H locs hX => ?_)
      obtain ⟨rfl, rfl, rfl⟩ := re3 hf
      exact hret _ _ _ _ hX dX0_changeSetting_36
    · replace hf := ite_t c2 hf
      refine lv_aload_n (pc := 19) hx hb dX0_changeSetting_19 rfl (lv_at hl 0 rfl) ?_
      refine x_getf (pc := 20) (Cn := RX0) (T := TX0) (N := 12) C hX 0 rfl rfl miX0_changeSetting_X0 1 (by decide) mmX0_changeSetting_2 rfl dX0_changeSetting_20 ?_
      refine lv_iload_n (pc := 23) hx hb dX0_changeSetting_23 rfl (lv_at hl 1 rfl) ?_
      refine lv_iload_n (pc := 24) hx hb dX0_changeSetting_24 rfl (lv_at hl 3 rfl) ?_
      replace hf := chk_adv hf
      have i5 := hf.1
      replace hf := hf.2
      obtain ⟨f6, ef6⟩ : ∃ y : Nat → Int32, y = (upd slackRow (p1).toNatClampNeg p3) := ⟨_, rfl⟩
      replace hf := bnd_use ef6 hf
      refine x_iast (pc := 25) C hX 2 0 rfl rfl i5 [(h0, .inr (0, [.ref h_kindRow, .ref h_slackRow, .ref h_placeRow, .ref h_turnRow, .ref h_wayRow, .ref h_strokeRow, .int arms, .int strokes, .int hand, .int step, .int travel, .int reversals])), (h_kindRow, .inl (cI, 4, .inl kindRow)), (h_slackRow, .inl (cI, 4, .inl f6)), (h_placeRow, .inl (cI, 4, .inl placeRow)), (h_turnRow, .inl (cI, 4, .inl turnRow)), (h_wayRow, .inl (cI, 4, .inl wayRow)), (h_strokeRow, .inl (cI, 16, .inl strokeRow))] (by subst ef6; rfl) dX0_changeSetting_25 (fun H locs hX => ?_)
      refine lv_goto (pc := 26) (tgt := 36) hx hb dX0_changeSetting_26 (by decide) ?_
      obtain ⟨rfl, rfl, rfl⟩ := re3 hf
      exact hret _ _ _ _ hX dX0_changeSetting_36
  · replace hf := ite_t c1 hf
    refine lv_aload_n (pc := 4) hx hb dX0_changeSetting_4 rfl (lv_at hl 0 rfl) ?_
    refine x_getf (pc := 5) (Cn := RX0) (T := TX0) (N := 12) C hX 0 rfl rfl miX0_changeSetting_X0 0 (by decide) mmX0_changeSetting_1 rfl dX0_changeSetting_5 ?_
    refine lv_iload_n (pc := 8) hx hb dX0_changeSetting_8 rfl (lv_at hl 1 rfl) ?_
    refine lv_iload_n (pc := 9) hx hb dX0_changeSetting_9 rfl (lv_at hl 3 rfl) ?_
    replace hf := chk_adv hf
    have i7 := hf.1
    replace hf := hf.2
    obtain ⟨f8, ef8⟩ : ∃ y : Nat → Int32, y = (upd kindRow (p1).toNatClampNeg p3) := ⟨_, rfl⟩
    replace hf := bnd_use ef8 hf
    refine x_iast (pc := 10) C hX 1 0 rfl rfl i7 [(h0, .inr (0, [.ref h_kindRow, .ref h_slackRow, .ref h_placeRow, .ref h_turnRow, .ref h_wayRow, .ref h_strokeRow, .int arms, .int strokes, .int hand, .int step, .int travel, .int reversals])), (h_kindRow, .inl (cI, 4, .inl f8)), (h_slackRow, .inl (cI, 4, .inl slackRow)), (h_placeRow, .inl (cI, 4, .inl placeRow)), (h_turnRow, .inl (cI, 4, .inl turnRow)), (h_wayRow, .inl (cI, 4, .inl wayRow)), (h_strokeRow, .inl (cI, 16, .inl strokeRow))] (by subst ef8; rfl) dX0_changeSetting_10 (fun H locs hX => ?_)
    refine lv_goto (pc := 11) (tgt := 36) hx hb dX0_changeSetting_11 (by decide) ?_
    obtain ⟨rfl, rfl, rfl⟩ := re3 hf
    exact hret _ _ _ _ hX dX0_changeSetting_36
set_option maxHeartbeats 4000000 in
set_option maxRecDepth 100000 in
theorem kX0_exchange (ad : xAd) (l : Launch) (D : va_G) (cI cB cZ cG cS : ClassId) (h0 h_kindRow h_slackRow h_placeRow h_turnRow h_wayRow h_strokeRow : Nat) (arms : Int32) (strokes : Int32) (hand : Int32) (step : Int32) (travel : Int32) (reversals : Int32) (kindRow : (Nat → Int32)) (slackRow : (Nat → Int32)) (placeRow : (Nat → Int32)) (turnRow : (Nat → Int32)) (wayRow : (Nat → Int32)) (strokeRow : (Nat → Int32)) (o_kindRow' : (Nat → Int32)) (o_slackRow' : (Nat → Int32)) (o_turnRow' : (Nat → Int32)) (p1 : Int32) (p2 : Int32) (hf : fX0_exchange p1 p2 kindRow slackRow turnRow = some (o_kindRow', o_slackRow', o_turnRow')) : xMv ad l yX0_exchange wsX0_exchange ({ frames := 1, cells := 0, slots := 0, locals := 23 } : Room) D (xTY cI cB cZ cG cS) [.ref h0, .int p1, .int p2] [(h0, .inr (0, [.ref h_kindRow, .ref h_slackRow, .ref h_placeRow, .ref h_turnRow, .ref h_wayRow, .ref h_strokeRow, .int arms, .int strokes, .int hand, .int step, .int travel, .int reversals])), (h_kindRow, .inl (cI, 4, .inl kindRow)), (h_slackRow, .inl (cI, 4, .inl slackRow)), (h_placeRow, .inl (cI, 4, .inl placeRow)), (h_turnRow, .inl (cI, 4, .inl turnRow)), (h_wayRow, .inl (cI, 4, .inl wayRow)), (h_strokeRow, .inl (cI, 16, .inl strokeRow))] [(h0, .inr (0, [.ref h_kindRow, .ref h_slackRow, .ref h_placeRow, .ref h_turnRow, .ref h_wayRow, .ref h_strokeRow, .int arms, .int strokes, .int hand, .int step, .int travel, .int reversals])), (h_kindRow, .inl (cI, 4, .inl o_kindRow')), (h_slackRow, .inl (cI, 4, .inl o_slackRow')), (h_placeRow, .inl (cI, 4, .inl placeRow)), (h_turnRow, .inl (cI, 4, .inl o_turnRow')), (h_wayRow, .inl (cI, 4, .inl wayRow)), (h_strokeRow, .inl (cI, 16, .inl strokeRow))] := by
  refine xMv_of (cc := cX0_exchange) (maxL := 5) (by decide) rfl (Nat.le_of_ble_eq_true rfl) ?_
  intro p e s m args below meth c A Q ls C hX hl hret
  have hx := C.1.1
  have hb := C.1.2.1
  have hl : lv_has ls 5 [(0, .ref h0), (1, .int p1), (2, .int p2)] := hl
  have L2 : ∀ (n : Nat), ∀ (x1 : Int32) (x2 : Int32) (x3 : Int32) (kindRow : (Nat → Int32)) (slackRow : (Nat → Int32)) (turnRow : (Nat → Int32)) (H : Heap) (locs : List Loc) (ls : Array Slot), fX0_exchange_L2  n x1 x2 x3 kindRow slackRow turnRow = some (o_kindRow', o_slackRow', o_turnRow') → xSt A s D [(h0, .inr (0, [.ref h_kindRow, .ref h_slackRow, .ref h_placeRow, .ref h_turnRow, .ref h_wayRow, .ref h_strokeRow, .int arms, .int strokes, .int hand, .int step, .int travel, .int reversals])), (h_kindRow, .inl (cI, 4, .inl kindRow)), (h_slackRow, .inl (cI, 4, .inl slackRow)), (h_placeRow, .inl (cI, 4, .inl placeRow)), (h_turnRow, .inl (cI, 4, .inl turnRow)), (h_wayRow, .inl (cI, 4, .inl wayRow)), (h_strokeRow, .inl (cI, 16, .inl strokeRow))] H locs → lv_has ls 5 [(0, .ref h0), (1, .int x1), (2, .int x2), (3, .int x3)] → W p l e ({ frames := 1, cells := 0, slots := 0, locals := 23 } : Room) s m args below meth c H locs 0 0 Q (F0 m 2 ls []) := by
    intro n
    induction n with
    | zero =>
      intro x1 x2 x3 kindRow slackRow turnRow H locs ls hf
      rw [fX0_exchange_L2] at hf
      cases hf
    | succ n ih =>
      intro x1 x2 x3 kindRow slackRow turnRow H locs ls hf hX hl
      rw [fX0_exchange_L2] at hf
      refine lv_iload_n (pc := 2) hx hb dX0_exchange_2 rfl (lv_at hl 3 rfl) ?_
      refine lv_iconst (pc := 3) (v := 2) hx hb dX0_exchange_3 (by decide) ?_
      refine lv_icmp_gt (pc := 4) (tgt := 41) hx hb dX0_exchange_4 (by decide) (fun c1 => ?_) (fun c1 => ?_)
      · replace hf := ite_t c1 hf
        obtain ⟨rfl, rfl, rfl⟩ := re3 hf
        exact hret _ _ _ _ hX dX0_exchange_41
      · replace hf := ite_f c1 hf
        refine lv_aload_n (pc := 7) hx hb dX0_exchange_7 rfl (lv_at hl 0 rfl) ?_
        refine lv_iload_n (pc := 8) hx hb dX0_exchange_8 rfl (lv_at hl 1 rfl) ?_
        refine lv_iload_n (pc := 9) hx hb dX0_exchange_9 rfl (lv_at hl 3 rfl) ?_
        obtain ⟨r2, g3, hf⟩ := cl1_adv hf
        refine x_callVi (pc := 10) (rest := []) (w2 := [(h0, .inr (0, [.ref h_kindRow, .ref h_slackRow, .ref h_placeRow, .ref h_turnRow, .ref h_wayRow, .ref h_strokeRow, .int arms, .int strokes, .int hand, .int step, .int travel, .int reversals])), (h_kindRow, .inl (cI, 4, .inl kindRow)), (h_slackRow, .inl (cI, 4, .inl slackRow)), (h_placeRow, .inl (cI, 4, .inl placeRow)), (h_turnRow, .inl (cI, 4, .inl turnRow)), (h_wayRow, .inl (cI, 4, .inl wayRow)), (h_strokeRow, .inl (cI, 16, .inl strokeRow))]) C hX (kX0_settingOf ad l D cI cB cZ cG cS h0 h_kindRow h_slackRow h_placeRow h_turnRow h_wayRow h_strokeRow arms strokes hand step travel reversals kindRow slackRow placeRow turnRow wayRow strokeRow r2 x1 x3 g3) (cwV 2 C.1.2.2.2.2 gX0_exchange_X0_settingOf rfl rfl rfl (by decide +kernel) ⟨Nat.le_of_ble_eq_true rfl, Nat.le_of_ble_eq_true rfl⟩) [0, 1, 2, 3, 4, 5, 6] [] [0, 1, 2, 3, 4, 5, 6] rfl rfl rfl rfl (by decide) rfl rfl 0 rfl rfl rfl hl.1 rfl rfl (Nat.le_of_ble_eq_true rfl) dX0_exchange_10 (fun H locs hX => ?_)
        refine lv_istore (pc := 13) (lv' := [(4, .int r2), (0, .ref h0), (1, .int x1), (2, .int x2), (3, .int x3)]) hx hb dX0_exchange_13 hl (by decide) rfl (fun ls hl => ?_)
        refine lv_aload_n (pc := 15) hx hb dX0_exchange_15 rfl (lv_at hl 1 rfl) ?_
        refine lv_iload_n (pc := 16) hx hb dX0_exchange_16 rfl (lv_at hl 2 rfl) ?_
        refine lv_iload_n (pc := 17) hx hb dX0_exchange_17 rfl (lv_at hl 4 rfl) ?_
        refine lv_aload_n (pc := 18) hx hb dX0_exchange_18 rfl (lv_at hl 1 rfl) ?_
        refine lv_iload_n (pc := 19) hx hb dX0_exchange_19 rfl (lv_at hl 3 rfl) ?_
        refine lv_iload_n (pc := 20) hx hb dX0_exchange_20 rfl (lv_at hl 4 rfl) ?_
        obtain ⟨r4, g5, hf⟩ := cl1_adv hf
        refine x_callVi (pc := 21) (rest := [.int x3, .int x1, .ref h0]) (w2 := [(h0, .inr (0, [.ref h_kindRow, .ref h_slackRow, .ref h_placeRow, .ref h_turnRow, .ref h_wayRow, .ref h_strokeRow, .int arms, .int strokes, .int hand, .int step, .int travel, .int reversals])), (h_kindRow, .inl (cI, 4, .inl kindRow)), (h_slackRow, .inl (cI, 4, .inl slackRow)), (h_placeRow, .inl (cI, 4, .inl placeRow)), (h_turnRow, .inl (cI, 4, .inl turnRow)), (h_wayRow, .inl (cI, 4, .inl wayRow)), (h_strokeRow, .inl (cI, 16, .inl strokeRow))]) C hX (kX0_settingOf ad l D cI cB cZ cG cS h0 h_kindRow h_slackRow h_placeRow h_turnRow h_wayRow h_strokeRow arms strokes hand step travel reversals kindRow slackRow placeRow turnRow wayRow strokeRow r4 x2 x3 g5) (cwV 2 C.1.2.2.2.2 gX0_exchange_X0_settingOf rfl rfl rfl (by decide +kernel) ⟨Nat.le_of_ble_eq_true rfl, Nat.le_of_ble_eq_true rfl⟩) [0, 1, 2, 3, 4, 5, 6] [] [0, 1, 2, 3, 4, 5, 6] rfl rfl rfl rfl (by decide) rfl rfl 0 rfl rfl rfl hl.1 rfl rfl (Nat.le_of_ble_eq_true rfl) dX0_exchange_21 (fun H locs hX => ?_)
        obtain ⟨u6, u7, u8, g9, hf⟩ := cl3_adv hf
        refine x_callVv (pc := 24) (rest := []) (w2 := [(h0, .inr (0, [.ref h_kindRow, .ref h_slackRow, .ref h_placeRow, .ref h_turnRow, .ref h_wayRow, .ref h_strokeRow, .int arms, .int strokes, .int hand, .int step, .int travel, .int reversals])), (h_kindRow, .inl (cI, 4, .inl u6)), (h_slackRow, .inl (cI, 4, .inl u7)), (h_placeRow, .inl (cI, 4, .inl placeRow)), (h_turnRow, .inl (cI, 4, .inl u8)), (h_wayRow, .inl (cI, 4, .inl wayRow)), (h_strokeRow, .inl (cI, 16, .inl strokeRow))]) C hX (kX0_changeSetting ad l D cI cB cZ cG cS h0 h_kindRow h_slackRow h_placeRow h_turnRow h_wayRow h_strokeRow arms strokes hand step travel reversals kindRow slackRow placeRow turnRow wayRow strokeRow u6 u7 u8 x1 x3 r4 g9) (cwV 3 C.1.2.2.2.2 gX0_exchange_X0_changeSetting rfl rfl rfl (by decide +kernel) ⟨Nat.le_of_ble_eq_true rfl, Nat.le_of_ble_eq_true rfl⟩) [0, 1, 2, 3, 4, 5, 6] [] [0, 1, 2, 3, 4, 5, 6] rfl rfl rfl rfl (by decide) rfl rfl 0 rfl rfl rfl hl.1 rfl rfl (Nat.le_of_ble_eq_true rfl) dX0_exchange_24 (fun H locs hX => ?_)
        refine lv_aload_n (pc := 27) hx hb dX0_exchange_27 rfl (lv_at hl 1 rfl) ?_
        refine lv_iload_n (pc := 28) hx hb dX0_exchange_28 rfl (lv_at hl 3 rfl) ?_
        refine lv_iload_n (pc := 29) hx hb dX0_exchange_29 rfl (lv_at hl 4 rfl) ?_
        refine lv_iload (pc := 30) hx hb dX0_exchange_30 (lv_at hl 0 rfl) ?_
        obtain ⟨u10, u11, u12, g13, hf⟩ := cl3_adv hf
        refine x_callVv (pc := 32) (rest := []) (w2 := [(h0, .inr (0, [.ref h_kindRow, .ref h_slackRow, .ref h_placeRow, .ref h_turnRow, .ref h_wayRow, .ref h_strokeRow, .int arms, .int strokes, .int hand, .int step, .int travel, .int reversals])), (h_kindRow, .inl (cI, 4, .inl u10)), (h_slackRow, .inl (cI, 4, .inl u11)), (h_placeRow, .inl (cI, 4, .inl placeRow)), (h_turnRow, .inl (cI, 4, .inl u12)), (h_wayRow, .inl (cI, 4, .inl wayRow)), (h_strokeRow, .inl (cI, 16, .inl strokeRow))]) C hX (kX0_changeSetting ad l D cI cB cZ cG cS h0 h_kindRow h_slackRow h_placeRow h_turnRow h_wayRow h_strokeRow arms strokes hand step travel reversals u6 u7 placeRow u8 wayRow strokeRow u10 u11 u12 x2 x3 r2 g13) (cwV 3 C.1.2.2.2.2 gX0_exchange_X0_changeSetting rfl rfl rfl (by decide +kernel) ⟨Nat.le_of_ble_eq_true rfl, Nat.le_of_ble_eq_true rfl⟩) [0, 1, 2, 3, 4, 5, 6] [] [0, 1, 2, 3, 4, 5, 6] rfl rfl rfl rfl (by decide) rfl rfl 0 rfl rfl rfl hl.1 rfl rfl (Nat.le_of_ble_eq_true rfl) dX0_exchange_32 (fun H locs hX => ?_)
        obtain ⟨v14, ev14⟩ : ∃ y : Int32, y = (x3 + (1 : Int32)) := ⟨_, rfl⟩
        replace hf := bnd_use ev14 hf
        refine lv_iinc (pc := 35) (v := v14) (lv' := [(3, .int v14), (4, .int r2), (0, .ref h0), (1, .int x1), (2, .int x2)]) hx hb dX0_exchange_35 hl (k := 4) rfl (by rw [ev14]; rfl) (by decide) rfl (fun ls hl => ?_)
        refine lv_goto (pc := 38) (tgt := 2) hx hb dX0_exchange_38 (by decide) ?_
        exact ih x1 x2 v14 u10 u11 u12 _ _ _ hf hX (lv_sub hl [2, 3, 4, 0] rfl)
  unfold fX0_exchange at hf
  refine lv_iconst (pc := 0) (v := 0) hx hb dX0_exchange_0 (by decide) ?_
  refine lv_istore_n (pc := 1) (lv' := [(3, .int (0 : Int32)), (0, .ref h0), (1, .int p1), (2, .int p2)]) hx hb dX0_exchange_1 rfl hl (by decide) rfl (fun ls hl => ?_)
  exact L2  xF p1 p2 (0 : Int32) kindRow slackRow turnRow _ _ _ hf hX (lv_sub hl [1, 2, 3, 0] rfl)
theorem mmX0_sumOf_1 : Cond.fieldLink RX0 30 "SlackArms$Gear" "arms" "I" ∈ wsX0_sumOf := List.mem_of_getElem? (i := 1) rfl
theorem miX0_sumOf_X0 : ∀ w ∈ u_ws RX0 TX0 12, w ∈ wsX0_sumOf := fun w h => List.mem_cons_of_mem _ (List.mem_append_right _ h)
set_option maxHeartbeats 4000000 in
set_option maxRecDepth 100000 in
theorem kX0_sumOf (ad : xAd) (l : Launch) (D : va_G) (cI cB cZ cG cS : ClassId) (h0 h_kindRow h_slackRow h_placeRow h_turnRow h_wayRow h_strokeRow : Nat) (arms : Int32) (strokes : Int32) (hand : Int32) (step : Int32) (travel : Int32) (reversals : Int32) (kindRow : (Nat → Int32)) (slackRow : (Nat → Int32)) (placeRow : (Nat → Int32)) (turnRow : (Nat → Int32)) (wayRow : (Nat → Int32)) (strokeRow : (Nat → Int32)) (r0 : Int32) (p1 : Int32) (hf : fX0_sumOf p1 arms kindRow slackRow turnRow = some r0) : xMi ad l yX0_sumOf wsX0_sumOf ({ frames := 1, cells := 0, slots := 0, locals := 22 } : Room) D (xTY cI cB cZ cG cS) [.ref h0, .int p1] [(h0, .inr (0, [.ref h_kindRow, .ref h_slackRow, .ref h_placeRow, .ref h_turnRow, .ref h_wayRow, .ref h_strokeRow, .int arms, .int strokes, .int hand, .int step, .int travel, .int reversals])), (h_kindRow, .inl (cI, 4, .inl kindRow)), (h_slackRow, .inl (cI, 4, .inl slackRow)), (h_placeRow, .inl (cI, 4, .inl placeRow)), (h_turnRow, .inl (cI, 4, .inl turnRow)), (h_wayRow, .inl (cI, 4, .inl wayRow)), (h_strokeRow, .inl (cI, 16, .inl strokeRow))] [(h0, .inr (0, [.ref h_kindRow, .ref h_slackRow, .ref h_placeRow, .ref h_turnRow, .ref h_wayRow, .ref h_strokeRow, .int arms, .int strokes, .int hand, .int step, .int travel, .int reversals])), (h_kindRow, .inl (cI, 4, .inl kindRow)), (h_slackRow, .inl (cI, 4, .inl slackRow)), (h_placeRow, .inl (cI, 4, .inl placeRow)), (h_turnRow, .inl (cI, 4, .inl turnRow)), (h_wayRow, .inl (cI, 4, .inl wayRow)), (h_strokeRow, .inl (cI, 16, .inl strokeRow))] r0 := by
  refine xMi_of (cc := cX0_sumOf) (maxL := 4) (ty := .int) (by decide) rfl (Nat.le_of_ble_eq_true rfl) ?_
  intro p e s m args below meth c A Q ls C hX hl hret
  have hx := C.1.1
  have hb := C.1.2.1
  have hl : lv_has ls 4 [(0, .ref h0), (1, .int p1)] := hl
  have L4 : ∀ (n : Nat), ∀ (x1 : Int32) (x2 : Int32) (x3 : Int32) (H : Heap) (locs : List Loc) (ls : Array Slot), fX0_sumOf_L4 arms kindRow slackRow turnRow n x1 x2 x3 = some r0 → xSt A s D [(h0, .inr (0, [.ref h_kindRow, .ref h_slackRow, .ref h_placeRow, .ref h_turnRow, .ref h_wayRow, .ref h_strokeRow, .int arms, .int strokes, .int hand, .int step, .int travel, .int reversals])), (h_kindRow, .inl (cI, 4, .inl kindRow)), (h_slackRow, .inl (cI, 4, .inl slackRow)), (h_placeRow, .inl (cI, 4, .inl placeRow)), (h_turnRow, .inl (cI, 4, .inl turnRow)), (h_wayRow, .inl (cI, 4, .inl wayRow)), (h_strokeRow, .inl (cI, 16, .inl strokeRow))] H locs → lv_has ls 4 [(0, .ref h0), (1, .int x1), (2, .int x2), (3, .int x3)] → W p l e ({ frames := 1, cells := 0, slots := 0, locals := 22 } : Room) s m args below meth c H locs 0 0 Q (F0 m 4 ls []) := by
    intro n
    induction n with
    | zero =>
      intro x1 x2 x3 H locs ls hf
      rw [fX0_sumOf_L4] at hf
      cases hf
    | succ n ih =>
      intro x1 x2 x3 H locs ls hf hX hl
      rw [fX0_sumOf_L4] at hf
      refine lv_iload_n (pc := 4) hx hb dX0_sumOf_4 rfl (lv_at hl 3 rfl) ?_
      refine lv_aload_n (pc := 5) hx hb dX0_sumOf_5 rfl (lv_at hl 0 rfl) ?_
      refine x_getf (pc := 6) (Cn := RX0) (T := TX0) (N := 12) C hX 0 rfl rfl miX0_sumOf_X0 6 (by decide) mmX0_sumOf_1 rfl dX0_sumOf_6 ?_
      refine lv_icmp_ge (pc := 9) (tgt := 27) hx hb dX0_sumOf_9 (by decide) (fun c1 => ?_) (fun c1 => ?_)
      · replace hf := ite_t c1 hf
        refine lv_iload_n (pc := 27) hx hb dX0_sumOf_27 rfl (lv_at hl 2 rfl) ?_
        obtain ⟨rfl⟩ := re1 hf
        exact hret _ _ _ _ _ rfl rfl hX dX0_sumOf_28
      · replace hf := ite_f c1 hf
        refine lv_iload_n (pc := 12) hx hb dX0_sumOf_12 rfl (lv_at hl 2 rfl) ?_
        refine lv_aload_n (pc := 13) hx hb dX0_sumOf_13 rfl (lv_at hl 0 rfl) ?_
        refine lv_iload_n (pc := 14) hx hb dX0_sumOf_14 rfl (lv_at hl 3 rfl) ?_
        refine lv_iload_n (pc := 15) hx hb dX0_sumOf_15 rfl (lv_at hl 1 rfl) ?_
        obtain ⟨r2, g3, hf⟩ := cl1_adv hf
        refine x_callVi (pc := 16) (rest := [.int x2]) (w2 := [(h0, .inr (0, [.ref h_kindRow, .ref h_slackRow, .ref h_placeRow, .ref h_turnRow, .ref h_wayRow, .ref h_strokeRow, .int arms, .int strokes, .int hand, .int step, .int travel, .int reversals])), (h_kindRow, .inl (cI, 4, .inl kindRow)), (h_slackRow, .inl (cI, 4, .inl slackRow)), (h_placeRow, .inl (cI, 4, .inl placeRow)), (h_turnRow, .inl (cI, 4, .inl turnRow)), (h_wayRow, .inl (cI, 4, .inl wayRow)), (h_strokeRow, .inl (cI, 16, .inl strokeRow))]) C hX (kX0_settingOf ad l D cI cB cZ cG cS h0 h_kindRow h_slackRow h_placeRow h_turnRow h_wayRow h_strokeRow arms strokes hand step travel reversals kindRow slackRow placeRow turnRow wayRow strokeRow r2 x3 x1 g3) (cwV 2 C.1.2.2.2.2 gX0_sumOf_X0_settingOf rfl rfl rfl (by decide +kernel) ⟨Nat.le_of_ble_eq_true rfl, Nat.le_of_ble_eq_true rfl⟩) [0, 1, 2, 3, 4, 5, 6] [] [0, 1, 2, 3, 4, 5, 6] rfl rfl rfl rfl (by decide) rfl rfl 0 rfl rfl rfl hl.1 rfl rfl (Nat.le_of_ble_eq_true rfl) dX0_sumOf_16 (fun H locs hX => ?_)
        refine lv_iadd (pc := 19) hx hb dX0_sumOf_19 ?_
        refine lv_topi (fun v4 ev4 => ?_)
        replace hf := bnd_use ev4 hf
        refine lv_istore_n (pc := 20) (lv' := [(2, .int v4), (0, .ref h0), (1, .int x1), (3, .int x3)]) hx hb dX0_sumOf_20 rfl hl (by decide) rfl (fun ls hl => ?_)
        obtain ⟨v5, ev5⟩ : ∃ y : Int32, y = (x3 + (1 : Int32)) := ⟨_, rfl⟩
        replace hf := bnd_use ev5 hf
        refine lv_iinc (pc := 21) (v := v5) (lv' := [(3, .int v5), (2, .int v4), (0, .ref h0), (1, .int x1)]) hx hb dX0_sumOf_21 hl (k := 3) rfl (by rw [ev5]; rfl) (by decide) rfl (fun ls hl => ?_)
        refine lv_goto (pc := 24) (tgt := 4) hx hb dX0_sumOf_24 (by decide) ?_
        exact ih x1 v4 v5 _ _ _ hf hX (lv_sub hl [2, 3, 1, 0] rfl)
  unfold fX0_sumOf at hf
  refine lv_iconst (pc := 0) (v := 0) hx hb dX0_sumOf_0 (by decide) ?_
  refine lv_istore_n (pc := 1) (lv' := [(2, .int (0 : Int32)), (0, .ref h0), (1, .int p1)]) hx hb dX0_sumOf_1 rfl hl (by decide) rfl (fun ls hl => ?_)
  refine lv_iconst (pc := 2) (v := 0) hx hb dX0_sumOf_2 (by decide) ?_
  refine lv_istore_n (pc := 3) (lv' := [(3, .int (0 : Int32)), (2, .int (0 : Int32)), (0, .ref h0), (1, .int p1)]) hx hb dX0_sumOf_3 rfl hl (by decide) rfl (fun ls hl => ?_)
  exact L4  xF p1 (0 : Int32) (0 : Int32) _ _ _ hf hX (lv_sub hl [2, 3, 1, 0] rfl)
theorem mmX0_playOf_1 : Cond.fieldLink RX0 9 "SlackArms$Gear" "kindRow" "[I" ∈ wsX0_playOf := List.mem_of_getElem? (i := 1) rfl
theorem miX0_playOf_X0 : ∀ w ∈ u_ws RX0 TX0 12, w ∈ wsX0_playOf := fun w h => List.mem_cons_of_mem _ (List.mem_append_right _ h)
theorem mmX0_playOf_2 : Cond.fieldLink RX0 15 "SlackArms$Gear" "slackRow" "[I" ∈ wsX0_playOf := List.mem_of_getElem? (i := 2) rfl
theorem mmX0_playOf_3 : Cond.fieldLink RX0 21 "SlackArms$Gear" "turnRow" "[I" ∈ wsX0_playOf := List.mem_of_getElem? (i := 3) rfl
set_option maxHeartbeats 4000000 in
set_option maxRecDepth 100000 in
theorem kX0_playOf (ad : xAd) (l : Launch) (D : va_G) (cI cB cZ cG cS : ClassId) (h0 h_kindRow h_slackRow h_placeRow h_turnRow h_wayRow h_strokeRow : Nat) (arms : Int32) (strokes : Int32) (hand : Int32) (step : Int32) (travel : Int32) (reversals : Int32) (kindRow : (Nat → Int32)) (slackRow : (Nat → Int32)) (placeRow : (Nat → Int32)) (turnRow : (Nat → Int32)) (wayRow : (Nat → Int32)) (strokeRow : (Nat → Int32)) (r0 : Int32) (p1 : Int32) (hf : fX0_playOf p1 kindRow slackRow turnRow = some r0) : xMi ad l yX0_playOf wsX0_playOf ({ frames := 0, cells := 0, slots := 0, locals := 0 } : Room) D (xTY cI cB cZ cG cS) [.ref h0, .int p1] [(h0, .inr (0, [.ref h_kindRow, .ref h_slackRow, .ref h_placeRow, .ref h_turnRow, .ref h_wayRow, .ref h_strokeRow, .int arms, .int strokes, .int hand, .int step, .int travel, .int reversals])), (h_kindRow, .inl (cI, 4, .inl kindRow)), (h_slackRow, .inl (cI, 4, .inl slackRow)), (h_placeRow, .inl (cI, 4, .inl placeRow)), (h_turnRow, .inl (cI, 4, .inl turnRow)), (h_wayRow, .inl (cI, 4, .inl wayRow)), (h_strokeRow, .inl (cI, 16, .inl strokeRow))] [(h0, .inr (0, [.ref h_kindRow, .ref h_slackRow, .ref h_placeRow, .ref h_turnRow, .ref h_wayRow, .ref h_strokeRow, .int arms, .int strokes, .int hand, .int step, .int travel, .int reversals])), (h_kindRow, .inl (cI, 4, .inl kindRow)), (h_slackRow, .inl (cI, 4, .inl slackRow)), (h_placeRow, .inl (cI, 4, .inl placeRow)), (h_turnRow, .inl (cI, 4, .inl turnRow)), (h_wayRow, .inl (cI, 4, .inl wayRow)), (h_strokeRow, .inl (cI, 16, .inl strokeRow))] r0 := by
  refine xMi_of (cc := cX0_playOf) (maxL := 2) (ty := .int) (by decide) rfl (Nat.le_of_ble_eq_true rfl) ?_
  intro p e s m args below meth c A Q ls C hX hl hret
  have hx := C.1.1
  have hb := C.1.2.1
  have hl : lv_has ls 2 [(0, .ref h0), (1, .int p1)] := hl
  unfold fX0_playOf at hf
  refine lv_aload_n (pc := 0) hx hb dX0_playOf_0 rfl (lv_at hl 0 rfl) ?_
  refine x_getf (pc := 1) (Cn := RX0) (T := TX0) (N := 12) C hX 0 rfl rfl miX0_playOf_X0 0 (by decide) mmX0_playOf_1 rfl dX0_playOf_1 ?_
  refine lv_iload_n (pc := 4) hx hb dX0_playOf_4 rfl (lv_at hl 1 rfl) ?_
  replace hf := chk_adv hf
  have i1 := hf.1
  replace hf := hf.2
  refine x_iald (pc := 5) C hX 1 0 rfl rfl i1 dX0_playOf_5 ?_
  refine lv_iconst (pc := 6) (v := 3) hx hb dX0_playOf_6 (by decide) ?_
  refine lv_icmp_ne (pc := 7) (tgt := 26) hx hb dX0_playOf_7 (by decide) (fun c2 => ?_) (fun c2 => ?_)
  · replace hf := ite_f c2 hf
    refine lv_aload_n (pc := 26) hx hb dX0_playOf_26 rfl (lv_at hl 0 rfl) ?_
    refine x_getf (pc := 27) (Cn := RX0) (T := TX0) (N := 12) C hX 0 rfl rfl miX0_playOf_X0 1 (by decide) mmX0_playOf_2 rfl dX0_playOf_27 ?_
    refine lv_iload_n (pc := 30) hx hb dX0_playOf_30 rfl (lv_at hl 1 rfl) ?_
    replace hf := chk_adv hf
    have i3 := hf.1
    replace hf := hf.2
    refine x_iald (pc := 31) C hX 2 0 rfl rfl i3 dX0_playOf_31 ?_
    obtain ⟨rfl⟩ := re1 hf
    exact hret _ _ _ _ _ rfl rfl hX dX0_playOf_32
  · replace hf := ite_t c2 hf
    refine lv_aload_n (pc := 10) hx hb dX0_playOf_10 rfl (lv_at hl 0 rfl) ?_
    refine x_getf (pc := 11) (Cn := RX0) (T := TX0) (N := 12) C hX 0 rfl rfl miX0_playOf_X0 1 (by decide) mmX0_playOf_2 rfl dX0_playOf_11 ?_
    refine lv_iload_n (pc := 14) hx hb dX0_playOf_14 rfl (lv_at hl 1 rfl) ?_
    replace hf := chk_adv hf
    have i4 := hf.1
    replace hf := hf.2
    refine x_iald (pc := 15) C hX 2 0 rfl rfl i4 dX0_playOf_15 ?_
    refine lv_aload_n (pc := 16) hx hb dX0_playOf_16 rfl (lv_at hl 0 rfl) ?_
    refine x_getf (pc := 17) (Cn := RX0) (T := TX0) (N := 12) C hX 0 rfl rfl miX0_playOf_X0 3 (by decide) mmX0_playOf_3 rfl dX0_playOf_17 ?_
    refine lv_iload_n (pc := 20) hx hb dX0_playOf_20 rfl (lv_at hl 1 rfl) ?_
    replace hf := chk_adv hf
    have i5 := hf.1
    replace hf := hf.2
    refine x_iald (pc := 21) C hX 4 0 rfl rfl i5 dX0_playOf_21 ?_
    refine lv_iadd (pc := 22) hx hb dX0_playOf_22 ?_
    refine lv_goto (pc := 23) (tgt := 32) hx hb dX0_playOf_23 (by decide) ?_
    obtain ⟨rfl⟩ := re1 hf
    exact hret _ _ _ _ _ rfl rfl hX dX0_playOf_32
theorem mmX0_error_1 : Cond.fieldLink RX0 37 "SlackArms$Gear" "hand" "I" ∈ wsX0_error := List.mem_of_getElem? (i := 1) rfl
theorem miX0_error_X0 : ∀ w ∈ u_ws RX0 TX0 12, w ∈ wsX0_error := fun w h => List.mem_cons_of_mem _ (List.mem_append_right _ h)
theorem mmX0_error_2 : Cond.methodLink RX0 64 yJ9_abs_0f7a4 ∈ wsX0_error := List.mem_of_getElem? (i := 2) rfl
theorem mmX0_error_3 : Cond.static yJ9_abs_0f7a4 ∈ wsX0_error := List.mem_of_getElem? (i := 3) rfl
theorem mmX0_error_4 : Cond.initialized RJ9 ∈ wsX0_error := List.mem_of_getElem? (i := 4) rfl
theorem mmX0_error_5 : Cond.code Lib.Math.abs.name Lib.Math.abs.code 1 (some .int) ∈ wsX0_error := List.mem_of_getElem? (i := 5) rfl
set_option maxHeartbeats 4000000 in
set_option maxRecDepth 100000 in
theorem kX0_error (ad : xAd) (l : Launch) (D : va_G) (cI cB cZ cG cS : ClassId) (h0 h_kindRow h_slackRow h_placeRow h_turnRow h_wayRow h_strokeRow : Nat) (arms : Int32) (strokes : Int32) (hand : Int32) (step : Int32) (travel : Int32) (reversals : Int32) (kindRow : (Nat → Int32)) (slackRow : (Nat → Int32)) (placeRow : (Nat → Int32)) (turnRow : (Nat → Int32)) (wayRow : (Nat → Int32)) (strokeRow : (Nat → Int32)) (r0 : Int32)  (hf : fX0_error  arms hand placeRow = some r0) : xMi ad l yX0_error wsX0_error ({ frames := 1, cells := 0, slots := 0, locals := 21 } : Room) D (xTY cI cB cZ cG cS) [.ref h0] [(h0, .inr (0, [.ref h_kindRow, .ref h_slackRow, .ref h_placeRow, .ref h_turnRow, .ref h_wayRow, .ref h_strokeRow, .int arms, .int strokes, .int hand, .int step, .int travel, .int reversals])), (h_kindRow, .inl (cI, 4, .inl kindRow)), (h_slackRow, .inl (cI, 4, .inl slackRow)), (h_placeRow, .inl (cI, 4, .inl placeRow)), (h_turnRow, .inl (cI, 4, .inl turnRow)), (h_wayRow, .inl (cI, 4, .inl wayRow)), (h_strokeRow, .inl (cI, 16, .inl strokeRow))] [(h0, .inr (0, [.ref h_kindRow, .ref h_slackRow, .ref h_placeRow, .ref h_turnRow, .ref h_wayRow, .ref h_strokeRow, .int arms, .int strokes, .int hand, .int step, .int travel, .int reversals])), (h_kindRow, .inl (cI, 4, .inl kindRow)), (h_slackRow, .inl (cI, 4, .inl slackRow)), (h_placeRow, .inl (cI, 4, .inl placeRow)), (h_turnRow, .inl (cI, 4, .inl turnRow)), (h_wayRow, .inl (cI, 4, .inl wayRow)), (h_strokeRow, .inl (cI, 16, .inl strokeRow))] r0 := by
  refine xMi_of (cc := cX0_error) (maxL := 1) (ty := .int) (by decide) rfl (Nat.le_of_ble_eq_true rfl) ?_
  intro p e s m args below meth c A Q ls C hX hl hret
  have hx := C.1.1
  have hb := C.1.2.1
  have hl : lv_has ls 1 [(0, .ref h0)] := hl
  unfold fX0_error at hf
  refine lv_aload_n (pc := 0) hx hb dX0_error_0 rfl (lv_at hl 0 rfl) ?_
  refine x_getf (pc := 1) (Cn := RX0) (T := TX0) (N := 12) C hX 0 rfl rfl miX0_error_X0 8 (by decide) mmX0_error_1 rfl dX0_error_1 ?_
  refine lv_aload_n (pc := 4) hx hb dX0_error_4 rfl (lv_at hl 0 rfl) ?_
  obtain ⟨r1, g2, hf⟩ := cl1_adv hf
  refine x_callVi (pc := 5) (rest := [.int hand]) (w2 := [(h0, .inr (0, [.ref h_kindRow, .ref h_slackRow, .ref h_placeRow, .ref h_turnRow, .ref h_wayRow, .ref h_strokeRow, .int arms, .int strokes, .int hand, .int step, .int travel, .int reversals])), (h_kindRow, .inl (cI, 4, .inl kindRow)), (h_slackRow, .inl (cI, 4, .inl slackRow)), (h_placeRow, .inl (cI, 4, .inl placeRow)), (h_turnRow, .inl (cI, 4, .inl turnRow)), (h_wayRow, .inl (cI, 4, .inl wayRow)), (h_strokeRow, .inl (cI, 16, .inl strokeRow))]) C hX (kX0_lastPlace ad l D cI cB cZ cG cS h0 h_kindRow h_slackRow h_placeRow h_turnRow h_wayRow h_strokeRow arms strokes hand step travel reversals kindRow slackRow placeRow turnRow wayRow strokeRow r1 g2) (cwV 0 C.1.2.2.2.2 gX0_error_X0_lastPlace rfl rfl rfl (by decide +kernel) ⟨Nat.le_of_ble_eq_true rfl, Nat.le_of_ble_eq_true rfl⟩) [0, 1, 2, 3, 4, 5, 6] [] [0, 1, 2, 3, 4, 5, 6] rfl rfl rfl rfl (by decide) rfl rfl 0 rfl rfl rfl hl.1 rfl rfl (Nat.le_of_ble_eq_true rfl) dX0_error_5 (fun H locs hX => ?_)
  refine lv_isub (pc := 8) hx hb dX0_error_8 ?_
  refine va_mabs (pc := 9) hx hb (C.1.2.2.1.trans hl.1.symm) C.1.2.2.2.1 (C.1.2.2.2.2 _ mmX0_error_2) (C.1.2.2.2.2 _ mmX0_error_3) (C.1.2.2.2.2 _ mmX0_error_4) (C.1.2.2.2.2 _ mmX0_error_5) (Nat.le_of_ble_eq_true rfl) (Nat.le_of_ble_eq_true rfl) (Nat.zero_le _) (Nat.zero_le _) dX0_error_9 ?_
  refine lv_topi (fun v3 ev3 => ?_)
  replace hf := bnd_use (e := (iabs (hand - r1))) ev3 hf
  obtain ⟨rfl⟩ := re1 hf
  exact hret _ _ _ _ _ rfl rfl hX dX0_error_12
theorem mmX0_strokeInTurn_1 : Cond.fieldLink RX0 34 "SlackArms$Gear" "strokes" "I" ∈ wsX0_strokeInTurn := List.mem_of_getElem? (i := 1) rfl
theorem miX0_strokeInTurn_X0 : ∀ w ∈ u_ws RX0 TX0 12, w ∈ wsX0_strokeInTurn := fun w h => List.mem_cons_of_mem _ (List.mem_append_right _ h)
theorem mmX0_strokeInTurn_2 : Cond.fieldLink RX0 40 "SlackArms$Gear" "step" "I" ∈ wsX0_strokeInTurn := List.mem_of_getElem? (i := 2) rfl
set_option maxHeartbeats 4000000 in
set_option maxRecDepth 100000 in
theorem kX0_strokeInTurn (ad : xAd) (l : Launch) (D : va_G) (cI cB cZ cG cS : ClassId) (h0 h_kindRow h_slackRow h_placeRow h_turnRow h_wayRow h_strokeRow : Nat) (arms : Int32) (strokes : Int32) (hand : Int32) (step : Int32) (travel : Int32) (reversals : Int32) (kindRow : (Nat → Int32)) (slackRow : (Nat → Int32)) (placeRow : (Nat → Int32)) (turnRow : (Nat → Int32)) (wayRow : (Nat → Int32)) (strokeRow : (Nat → Int32)) (r0 : Int32)  (hf : fX0_strokeInTurn  strokes step = some r0) : xMi ad l yX0_strokeInTurn wsX0_strokeInTurn ({ frames := 0, cells := 0, slots := 0, locals := 0 } : Room) D (xTY cI cB cZ cG cS) [.ref h0] [(h0, .inr (0, [.ref h_kindRow, .ref h_slackRow, .ref h_placeRow, .ref h_turnRow, .ref h_wayRow, .ref h_strokeRow, .int arms, .int strokes, .int hand, .int step, .int travel, .int reversals])), (h_kindRow, .inl (cI, 4, .inl kindRow)), (h_slackRow, .inl (cI, 4, .inl slackRow)), (h_placeRow, .inl (cI, 4, .inl placeRow)), (h_turnRow, .inl (cI, 4, .inl turnRow)), (h_wayRow, .inl (cI, 4, .inl wayRow)), (h_strokeRow, .inl (cI, 16, .inl strokeRow))] [(h0, .inr (0, [.ref h_kindRow, .ref h_slackRow, .ref h_placeRow, .ref h_turnRow, .ref h_wayRow, .ref h_strokeRow, .int arms, .int strokes, .int hand, .int step, .int travel, .int reversals])), (h_kindRow, .inl (cI, 4, .inl kindRow)), (h_slackRow, .inl (cI, 4, .inl slackRow)), (h_placeRow, .inl (cI, 4, .inl placeRow)), (h_turnRow, .inl (cI, 4, .inl turnRow)), (h_wayRow, .inl (cI, 4, .inl wayRow)), (h_strokeRow, .inl (cI, 16, .inl strokeRow))] r0 := by
  refine xMi_of (cc := cX0_strokeInTurn) (maxL := 1) (ty := .int) (by decide) rfl (Nat.le_of_ble_eq_true rfl) ?_
  intro p e s m args below meth c A Q ls C hX hl hret
  have hx := C.1.1
  have hb := C.1.2.1
  have hl : lv_has ls 1 [(0, .ref h0)] := hl
  unfold fX0_strokeInTurn at hf
  refine lv_aload_n (pc := 0) hx hb dX0_strokeInTurn_0 rfl (lv_at hl 0 rfl) ?_
  refine x_getf (pc := 1) (Cn := RX0) (T := TX0) (N := 12) C hX 0 rfl rfl miX0_strokeInTurn_X0 7 (by decide) mmX0_strokeInTurn_1 rfl dX0_strokeInTurn_1 ?_
  refine lv_if_ne (pc := 4) (tgt := 11) hx hb dX0_strokeInTurn_4 (by decide) (fun c1 => ?_) (fun c1 => ?_)
  · replace hf := ite_f c1 hf
    refine lv_aload_n (pc := 11) hx hb dX0_strokeInTurn_11 rfl (lv_at hl 0 rfl) ?_
    refine x_getf (pc := 12) (Cn := RX0) (T := TX0) (N := 12) C hX 0 rfl rfl miX0_strokeInTurn_X0 9 (by decide) mmX0_strokeInTurn_2 rfl dX0_strokeInTurn_12 ?_
    refine lv_aload_n (pc := 15) hx hb dX0_strokeInTurn_15 rfl (lv_at hl 0 rfl) ?_
    refine x_getf (pc := 16) (Cn := RX0) (T := TX0) (N := 12) C hX 0 rfl rfl miX0_strokeInTurn_X0 7 (by decide) mmX0_strokeInTurn_1 rfl dX0_strokeInTurn_16 ?_
    replace hf := chk_adv hf
    have i2 := hf.1
    replace hf := hf.2
    refine lv_irem (pc := 19) hx hb dX0_strokeInTurn_19 i2 ?_
    obtain ⟨rfl⟩ := re1 hf
    exact hret _ _ _ _ _ rfl rfl hX dX0_strokeInTurn_20
  · replace hf := ite_t c1 hf
    refine lv_iconst (pc := 7) (v := 0) hx hb dX0_strokeInTurn_7 (by decide) ?_
    refine lv_goto (pc := 8) (tgt := 20) hx hb dX0_strokeInTurn_8 (by decide) ?_
    obtain ⟨rfl⟩ := re1 hf
    exact hret _ _ _ _ _ rfl rfl hX dX0_strokeInTurn_20
set_option maxHeartbeats 4000000 in
set_option maxRecDepth 100000 in
theorem kX0_beyond (ad : xAd) (l : Launch) (D : va_G) (cI cB cZ cG cS : ClassId)   (r0 : Int32) (p1 : Int32) (p2 : Int32) (hf : fX0_beyond p1 p2  = some r0) : xMi ad l yX0_beyond wsX0_beyond ({ frames := 0, cells := 0, slots := 0, locals := 0 } : Room) D (xTY cI cB cZ cG cS) [.int p1, .int p2] [] [] r0 := by
  refine xMi_of (cc := cX0_beyond) (maxL := 2) (ty := .int) (by decide) rfl (Nat.le_of_ble_eq_true rfl) ?_
  intro p e s m args below meth c A Q ls C hX hl hret
  have hx := C.1.1
  have hb := C.1.2.1
  have hl : lv_has ls 2 [(0, .int p1), (1, .int p2)] := hl
  unfold fX0_beyond at hf
  refine lv_iload_n (pc := 0) hx hb dX0_beyond_0 rfl (lv_at hl 1 rfl) ?_
  refine lv_iload_n (pc := 1) hx hb dX0_beyond_1 rfl (lv_at hl 0 rfl) ?_
  refine lv_icmp_le (pc := 2) (tgt := 9) hx hb dX0_beyond_2 (by decide) (fun c1 => ?_) (fun c1 => ?_)
  · replace hf := ite_t c1 hf
    refine lv_iload_n (pc := 9) hx hb dX0_beyond_9 rfl (lv_at hl 1 rfl) ?_
    refine lv_iload_n (pc := 10) hx hb dX0_beyond_10 rfl (lv_at hl 0 rfl) ?_
    refine lv_ineg (pc := 11) hx hb dX0_beyond_11 ?_
    refine lv_icmp_ge (pc := 12) (tgt := 21) hx hb dX0_beyond_12 (by decide) (fun c2 => ?_) (fun c2 => ?_)
    · replace hf := ite_t c2 hf
      refine lv_iconst (pc := 21) (v := 0) hx hb dX0_beyond_21 (by decide) ?_
      obtain ⟨rfl⟩ := re1 hf
      exact hret _ _ _ _ _ rfl rfl hX dX0_beyond_22
    · replace hf := ite_f c2 hf
      refine lv_iload_n (pc := 15) hx hb dX0_beyond_15 rfl (lv_at hl 1 rfl) ?_
      refine lv_iload_n (pc := 16) hx hb dX0_beyond_16 rfl (lv_at hl 0 rfl) ?_
      refine lv_iadd (pc := 17) hx hb dX0_beyond_17 ?_
      refine lv_goto (pc := 18) (tgt := 22) hx hb dX0_beyond_18 (by decide) ?_
      obtain ⟨rfl⟩ := re1 hf
      exact hret _ _ _ _ _ rfl rfl hX dX0_beyond_22
  · replace hf := ite_f c1 hf
    refine lv_iload_n (pc := 5) hx hb dX0_beyond_5 rfl (lv_at hl 1 rfl) ?_
    refine lv_iload_n (pc := 6) hx hb dX0_beyond_6 rfl (lv_at hl 0 rfl) ?_
    refine lv_isub (pc := 7) hx hb dX0_beyond_7 ?_
    obtain ⟨rfl⟩ := re1 hf
    exact hret _ _ _ _ _ rfl rfl hX dX0_beyond_8
theorem mmX0_answerTo_1 : Cond.methodLink RX0 64 yJ9_abs_0f7a4 ∈ wsX0_answerTo := List.mem_of_getElem? (i := 1) rfl
theorem mmX0_answerTo_2 : Cond.static yJ9_abs_0f7a4 ∈ wsX0_answerTo := List.mem_of_getElem? (i := 2) rfl
theorem mmX0_answerTo_3 : Cond.initialized RJ9 ∈ wsX0_answerTo := List.mem_of_getElem? (i := 3) rfl
theorem mmX0_answerTo_4 : Cond.code Lib.Math.abs.name Lib.Math.abs.code 1 (some .int) ∈ wsX0_answerTo := List.mem_of_getElem? (i := 4) rfl
set_option maxHeartbeats 4000000 in
set_option maxRecDepth 100000 in
theorem kX0_answerTo (ad : xAd) (l : Launch) (D : va_G) (cI cB cZ cG cS : ClassId)   (r0 : Int32) (p1 : Int32) (p2 : Int32) (hf : fX0_answerTo p1 p2  = some r0) : xMi ad l yX0_answerTo wsX0_answerTo ({ frames := 1, cells := 0, slots := 0, locals := 21 } : Room) D (xTY cI cB cZ cG cS) [.int p1, .int p2] [] [] r0 := by
  refine xMi_of (cc := cX0_answerTo) (maxL := 3) (ty := .int) (by decide) rfl (Nat.le_of_ble_eq_true rfl) ?_
  intro p e s m args below meth c A Q ls C hX hl hret
  have hx := C.1.1
  have hb := C.1.2.1
  have hl : lv_has ls 3 [(0, .int p1), (1, .int p2)] := hl
  have L27 : ∀ (x0 : Int32) (y0 : Int32) (H : Heap) (locs : List Loc) (ls : Array Slot), fX0_answerTo_L27  x0 y0 = some r0 → xSt A s D [] H locs → lv_has ls 3 [(0, .int x0)] → W p l e ({ frames := 1, cells := 0, slots := 0, locals := 21 } : Room) s m args below meth c H locs 0 0 Q (F0 m 27 ls [.int y0]) := by
    intro  x0 y0 H locs ls hf hX hl
    unfold fX0_answerTo_L27 at hf
    refine lv_istore_n (pc := 27) (lv' := [(2, .int y0), (0, .int x0)]) hx hb dX0_answerTo_27 rfl hl (by decide) rfl (fun ls hl => ?_)
    refine lv_iload_n (pc := 28) hx hb dX0_answerTo_28 rfl (lv_at hl 0 rfl) ?_
    refine lv_if_eq (pc := 29) (tgt := 44) hx hb dX0_answerTo_29 (by decide) (fun c3 => ?_) (fun c3 => ?_)
    · replace hf := ite_t c3 hf
      refine lv_iload_n (pc := 44) hx hb dX0_answerTo_44 rfl (lv_at hl 1 rfl) ?_
      obtain ⟨rfl⟩ := re1 hf
      exact hret _ _ _ _ _ rfl rfl hX dX0_answerTo_45
    · replace hf := ite_f c3 hf
      refine lv_iload_n (pc := 32) hx hb dX0_answerTo_32 rfl (lv_at hl 1 rfl) ?_
      refine va_mabs (pc := 33) hx hb (C.1.2.2.1.trans hl.1.symm) C.1.2.2.2.1 (C.1.2.2.2.2 _ mmX0_answerTo_1) (C.1.2.2.2.2 _ mmX0_answerTo_2) (C.1.2.2.2.2 _ mmX0_answerTo_3) (C.1.2.2.2.2 _ mmX0_answerTo_4) (Nat.le_of_ble_eq_true rfl) (Nat.le_of_ble_eq_true rfl) (Nat.zero_le _) (Nat.zero_le _) dX0_answerTo_33 ?_
      refine lv_topi (fun v4 ev4 => ?_)
      replace hf := bnd_use (e := (iabs x0)) ev4 hf
      refine lv_iconst (pc := 36) (v := 1) hx hb dX0_answerTo_36 (by decide) ?_
      refine lv_icmp_ne (pc := 37) (tgt := 44) hx hb dX0_answerTo_37 (by decide) (fun c5 => ?_) (fun c5 => ?_)
      · replace hf := ite_f c5 hf
        refine lv_iload_n (pc := 44) hx hb dX0_answerTo_44 rfl (lv_at hl 1 rfl) ?_
        obtain ⟨rfl⟩ := re1 hf
        exact hret _ _ _ _ _ rfl rfl hX dX0_answerTo_45
      · replace hf := ite_t c5 hf
        refine lv_iconst (pc := 40) (v := 0) hx hb dX0_answerTo_40 (by decide) ?_
        refine lv_goto (pc := 41) (tgt := 45) hx hb dX0_answerTo_41 (by decide) ?_
        obtain ⟨rfl⟩ := re1 hf
        exact hret _ _ _ _ _ rfl rfl hX dX0_answerTo_45
  have L22 : ∀ (x0 : Int32) (H : Heap) (locs : List Loc) (ls : Array Slot), fX0_answerTo_L22  x0 = some r0 → xSt A s D [] H locs → lv_has ls 3 [(0, .int x0)] → W p l e ({ frames := 1, cells := 0, slots := 0, locals := 21 } : Room) s m args below meth c H locs 0 0 Q (F0 m 22 ls []) := by
    intro  x0 H locs ls hf hX hl
    unfold fX0_answerTo_L22 at hf
    refine lv_iconst (pc := 22) (v := 1) hx hb dX0_answerTo_22 (by decide) ?_
    refine lv_goto (pc := 23) (tgt := 27) hx hb dX0_answerTo_23 (by decide) ?_
    exact L27  x0 (1 : Int32) _ _ _ hf hX (lv_sub hl [0] rfl)
  unfold fX0_answerTo at hf
  refine lv_iload_n (pc := 0) hx hb dX0_answerTo_0 rfl (lv_at hl 1 rfl) ?_
  refine lv_iconst (pc := 1) (v := 1) hx hb dX0_answerTo_1 (by decide) ?_
  refine lv_icmp_ne (pc := 2) (tgt := 12) hx hb dX0_answerTo_2 (by decide) (fun c1 => ?_) (fun c1 => ?_)
  · replace hf := ite_f c1 hf
    refine lv_iload_n (pc := 12) hx hb dX0_answerTo_12 rfl (lv_at hl 1 rfl) ?_
    refine lv_iconst (pc := 13) (v := 2) hx hb dX0_answerTo_13 (by decide) ?_
    refine lv_icmp_eq (pc := 14) (tgt := 22) hx hb dX0_answerTo_14 (by decide) (fun c2 => ?_) (fun c2 => ?_)
    · replace hf := ite_t c2 hf
      exact L22  p1 _ _ _ hf hX (lv_sub hl [0] rfl)
    · replace hf := ite_f c2 hf
      refine lv_iload_n (pc := 17) hx hb dX0_answerTo_17 rfl (lv_at hl 1 rfl) ?_
      refine lv_iconst (pc := 18) (v := 3) hx hb dX0_answerTo_18 (by decide) ?_
      refine lv_icmp_ne (pc := 19) (tgt := 26) hx hb dX0_answerTo_19 (by decide) (fun c6 => ?_) (fun c6 => ?_)
      · replace hf := ite_f c6 hf
        refine lv_iconst (pc := 26) (v := 0) hx hb dX0_answerTo_26 (by decide) ?_
        exact L27  p1 (0 : Int32) _ _ _ hf hX (lv_sub hl [0] rfl)
      · replace hf := ite_t c6 hf
        exact L22  p1 _ _ _ hf hX (lv_sub hl [0] rfl)
  · replace hf := ite_t c1 hf
    refine lv_iload_n (pc := 5) hx hb dX0_answerTo_5 rfl (lv_at hl 0 rfl) ?_
    refine lv_iload_n (pc := 6) hx hb dX0_answerTo_6 rfl (lv_at hl 0 rfl) ?_
    obtain ⟨r7, g8, hf⟩ := cl1_adv hf
    refine x_callSi (pc := 7) (rest := [.int p1]) C hX (kJ6_signum_0f7a4 ad l D cI cB cZ cG cS r7 p1 g8) (va_cwS 1 C.1.2.2.2.2 gX0_answerTo_J6_signum_0f7a4 rfl rfl rfl (by decide +kernel) ⟨Nat.le_of_ble_eq_true rfl, Nat.le_of_ble_eq_true rfl⟩) hl.1 rfl rfl (Nat.le_of_ble_eq_true rfl) dX0_answerTo_7 (fun H locs hX => ?_)
    refine lv_isub (pc := 10) hx hb dX0_answerTo_10 ?_
    obtain ⟨rfl⟩ := re1 hf
    exact hret _ _ _ _ _ rfl rfl hX dX0_answerTo_11
theorem mmX0_moveArm_1 : Cond.fieldLink RX0 24 "SlackArms$Gear" "wayRow" "[I" ∈ wsX0_moveArm := List.mem_of_getElem? (i := 1) rfl
theorem miX0_moveArm_X0 : ∀ w ∈ u_ws RX0 TX0 12, w ∈ wsX0_moveArm := fun w h => List.mem_cons_of_mem _ (List.mem_append_right _ h)
theorem mmX0_moveArm_8 : Cond.fieldLink RX0 18 "SlackArms$Gear" "placeRow" "[I" ∈ wsX0_moveArm := List.mem_of_getElem? (i := 8) rfl
theorem mmX0_moveArm_9 : Cond.fieldLink RX0 43 "SlackArms$Gear" "travel" "I" ∈ wsX0_moveArm := List.mem_of_getElem? (i := 9) rfl
theorem mmX0_moveArm_10 : Cond.methodLink RX0 64 yJ9_abs_0f7a4 ∈ wsX0_moveArm := List.mem_of_getElem? (i := 10) rfl
theorem mmX0_moveArm_11 : Cond.static yJ9_abs_0f7a4 ∈ wsX0_moveArm := List.mem_of_getElem? (i := 11) rfl
theorem mmX0_moveArm_6 : Cond.initialized RJ9 ∈ wsX0_moveArm := List.mem_of_getElem? (i := 6) rfl
theorem mmX0_moveArm_12 : Cond.code Lib.Math.abs.name Lib.Math.abs.code 1 (some .int) ∈ wsX0_moveArm := List.mem_of_getElem? (i := 12) rfl
theorem mmX0_moveArm_2 : Cond.fieldLink RX0 46 "SlackArms$Gear" "reversals" "I" ∈ wsX0_moveArm := List.mem_of_getElem? (i := 2) rfl
theorem mmX0_moveArm_3 : Cond.fieldLink RX0 21 "SlackArms$Gear" "turnRow" "[I" ∈ wsX0_moveArm := List.mem_of_getElem? (i := 3) rfl
theorem mmX0_moveArm_4 : Cond.methodLink RX0 104 yJ9_min_7cf53 ∈ wsX0_moveArm := List.mem_of_getElem? (i := 4) rfl
theorem mmX0_moveArm_5 : Cond.static yJ9_min_7cf53 ∈ wsX0_moveArm := List.mem_of_getElem? (i := 5) rfl
theorem mmX0_moveArm_7 : Cond.code Lib.Math.min.name Lib.Math.min.code 2 (some .int) ∈ wsX0_moveArm := List.mem_of_getElem? (i := 7) rfl
set_option maxHeartbeats 4000000 in
set_option maxRecDepth 100000 in
theorem kX0_moveArm (ad : xAd) (l : Launch) (D : va_G) (cI cB cZ cG cS : ClassId) (h0 h_kindRow h_slackRow h_placeRow h_turnRow h_wayRow h_strokeRow : Nat) (arms : Int32) (strokes : Int32) (hand : Int32) (step : Int32) (travel : Int32) (reversals : Int32) (kindRow : (Nat → Int32)) (slackRow : (Nat → Int32)) (placeRow : (Nat → Int32)) (turnRow : (Nat → Int32)) (wayRow : (Nat → Int32)) (strokeRow : (Nat → Int32)) (o_travel' : Int32) (o_reversals' : Int32) (o_placeRow' : (Nat → Int32)) (o_turnRow' : (Nat → Int32)) (o_wayRow' : (Nat → Int32)) (p1 : Int32) (p2 : Int32) (hf : fX0_moveArm p1 p2 travel reversals placeRow turnRow wayRow = some (o_travel', o_reversals', o_placeRow', o_turnRow', o_wayRow')) : xMv ad l yX0_moveArm wsX0_moveArm ({ frames := 1, cells := 0, slots := 0, locals := 21 } : Room) D (xTY cI cB cZ cG cS) [.ref h0, .int p1, .int p2] [(h0, .inr (0, [.ref h_kindRow, .ref h_slackRow, .ref h_placeRow, .ref h_turnRow, .ref h_wayRow, .ref h_strokeRow, .int arms, .int strokes, .int hand, .int step, .int travel, .int reversals])), (h_kindRow, .inl (cI, 4, .inl kindRow)), (h_slackRow, .inl (cI, 4, .inl slackRow)), (h_placeRow, .inl (cI, 4, .inl placeRow)), (h_turnRow, .inl (cI, 4, .inl turnRow)), (h_wayRow, .inl (cI, 4, .inl wayRow)), (h_strokeRow, .inl (cI, 16, .inl strokeRow))] [(h0, .inr (0, [.ref h_kindRow, .ref h_slackRow, .ref h_placeRow, .ref h_turnRow, .ref h_wayRow, .ref h_strokeRow, .int arms, .int strokes, .int hand, .int step, .int o_travel', .int o_reversals'])), (h_kindRow, .inl (cI, 4, .inl kindRow)), (h_slackRow, .inl (cI, 4, .inl slackRow)), (h_placeRow, .inl (cI, 4, .inl o_placeRow')), (h_turnRow, .inl (cI, 4, .inl o_turnRow')), (h_wayRow, .inl (cI, 4, .inl o_wayRow')), (h_strokeRow, .inl (cI, 16, .inl strokeRow))] := by
  refine xMv_of (cc := cX0_moveArm) (maxL := 4) (by decide) rfl (Nat.le_of_ble_eq_true rfl) ?_
  intro p e s m args below meth c A Q ls C hX hl hret
  have hx := C.1.1
  have hb := C.1.2.1
  have hl : lv_has ls 4 [(0, .ref h0), (1, .int p1), (2, .int p2)] := hl
  have L50 : ∀ (x1 : Int32) (x2 : Int32) (x3 : Int32) (travel : Int32) (reversals : Int32) (placeRow : (Nat → Int32)) (turnRow : (Nat → Int32)) (wayRow : (Nat → Int32)) (H : Heap) (locs : List Loc) (ls : Array Slot), fX0_moveArm_L50  x1 x2 x3 travel reversals placeRow turnRow wayRow = some (o_travel', o_reversals', o_placeRow', o_turnRow', o_wayRow') → xSt A s D [(h0, .inr (0, [.ref h_kindRow, .ref h_slackRow, .ref h_placeRow, .ref h_turnRow, .ref h_wayRow, .ref h_strokeRow, .int arms, .int strokes, .int hand, .int step, .int travel, .int reversals])), (h_kindRow, .inl (cI, 4, .inl kindRow)), (h_slackRow, .inl (cI, 4, .inl slackRow)), (h_placeRow, .inl (cI, 4, .inl placeRow)), (h_turnRow, .inl (cI, 4, .inl turnRow)), (h_wayRow, .inl (cI, 4, .inl wayRow)), (h_strokeRow, .inl (cI, 16, .inl strokeRow))] H locs → lv_has ls 4 [(0, .ref h0), (1, .int x1), (2, .int x2), (3, .int x3)] → W p l e ({ frames := 1, cells := 0, slots := 0, locals := 21 } : Room) s m args below meth c H locs 0 0 Q (F0 m 50 ls []) := by
    intro  x1 x2 x3 travel reversals placeRow turnRow wayRow H locs ls hf hX hl
    unfold fX0_moveArm_L50 at hf
    refine lv_aload_n (pc := 50) hx hb dX0_moveArm_50 rfl (lv_at hl 0 rfl) ?_
    refine x_getf (pc := 51) (Cn := RX0) (T := TX0) (N := 12) C hX 0 rfl rfl miX0_moveArm_X0 4 (by decide) mmX0_moveArm_1 rfl dX0_moveArm_51 ?_
    refine lv_iload_n (pc := 54) hx hb dX0_moveArm_54 rfl (lv_at hl 1 rfl) ?_
    refine lv_iload_n (pc := 55) hx hb dX0_moveArm_55 rfl (lv_at hl 3 rfl) ?_
    replace hf := chk_adv hf
    have i6 := hf.1
    replace hf := hf.2
    obtain ⟨f7, ef7⟩ : ∃ y : Nat → Int32, y = (upd wayRow (x1).toNatClampNeg x3) := ⟨_, rfl⟩
    replace hf := bnd_use ef7 hf
    refine x_iast (pc := 56) C hX 5 0 rfl rfl i6 [(h0, .inr (0, [.ref h_kindRow, .ref h_slackRow, .ref h_placeRow, .ref h_turnRow, .ref h_wayRow, .ref h_strokeRow, .int arms, .int strokes, .int hand, .int step, .int travel, .int reversals])), (h_kindRow, .inl (cI, 4, .inl kindRow)), (h_slackRow, .inl (cI, 4, .inl slackRow)), (h_placeRow, .inl (cI, 4, .inl placeRow)), (h_turnRow, .inl (cI, 4, .inl turnRow)), (h_wayRow, .inl (cI, 4, .inl f7)), (h_strokeRow, .inl (cI, 16, .inl strokeRow))] (by subst ef7; rfl) dX0_moveArm_56 (fun H locs hX => ?_)
    refine lv_aload_n (pc := 57) hx hb dX0_moveArm_57 rfl (lv_at hl 0 rfl) ?_
    refine x_getf (pc := 58) (Cn := RX0) (T := TX0) (N := 12) C hX 0 rfl rfl miX0_moveArm_X0 2 (by decide) mmX0_moveArm_8 rfl dX0_moveArm_58 ?_
    refine lv_iload_n (pc := 61) hx hb dX0_moveArm_61 rfl (lv_at hl 1 rfl) ?_
    refine lv_dup2_11 (pc := 62) hx hb dX0_moveArm_62 rfl rfl ?_
    replace hf := chk_adv hf
    have i8 := hf.1
    replace hf := hf.2
    refine x_iald (pc := 63) C hX 3 0 rfl rfl i8 dX0_moveArm_63 ?_
    refine lv_iload_n (pc := 64) hx hb dX0_moveArm_64 rfl (lv_at hl 2 rfl) ?_
    refine lv_iadd (pc := 65) hx hb dX0_moveArm_65 ?_
    refine lv_topi (fun v9 ev9 => ?_)
    replace hf := bnd_use ev9 hf
    replace hf := chk_adv hf
    have i10 := hf.1
    replace hf := hf.2
    obtain ⟨f11, ef11⟩ : ∃ y : Nat → Int32, y = (upd placeRow (x1).toNatClampNeg v9) := ⟨_, rfl⟩
    replace hf := bnd_use ef11 hf
    refine x_iast (pc := 66) C hX 3 0 rfl rfl i10 [(h0, .inr (0, [.ref h_kindRow, .ref h_slackRow, .ref h_placeRow, .ref h_turnRow, .ref h_wayRow, .ref h_strokeRow, .int arms, .int strokes, .int hand, .int step, .int travel, .int reversals])), (h_kindRow, .inl (cI, 4, .inl kindRow)), (h_slackRow, .inl (cI, 4, .inl slackRow)), (h_placeRow, .inl (cI, 4, .inl f11)), (h_turnRow, .inl (cI, 4, .inl turnRow)), (h_wayRow, .inl (cI, 4, .inl f7)), (h_strokeRow, .inl (cI, 16, .inl strokeRow))] (by subst ef11; rfl) dX0_moveArm_66 (fun H locs hX => ?_)
    refine lv_aload_n (pc := 67) hx hb dX0_moveArm_67 rfl (lv_at hl 0 rfl) ?_
    refine lv_dup (pc := 68) hx hb dX0_moveArm_68 rfl ?_
    refine x_getf (pc := 69) (Cn := RX0) (T := TX0) (N := 12) C hX 0 rfl rfl miX0_moveArm_X0 10 (by decide) mmX0_moveArm_9 rfl dX0_moveArm_69 ?_
    refine lv_iload_n (pc := 72) hx hb dX0_moveArm_72 rfl (lv_at hl 2 rfl) ?_
    refine va_mabs (pc := 73) hx hb (C.1.2.2.1.trans hl.1.symm) C.1.2.2.2.1 (C.1.2.2.2.2 _ mmX0_moveArm_10) (C.1.2.2.2.2 _ mmX0_moveArm_11) (C.1.2.2.2.2 _ mmX0_moveArm_6) (C.1.2.2.2.2 _ mmX0_moveArm_12) (Nat.le_of_ble_eq_true rfl) (Nat.le_of_ble_eq_true rfl) (Nat.zero_le _) (Nat.zero_le _) dX0_moveArm_73 ?_
    refine lv_topi (fun v12 ev12 => ?_)
    replace hf := bnd_use (e := (iabs x2)) ev12 hf
    refine lv_iadd (pc := 76) hx hb dX0_moveArm_76 ?_
    refine lv_topi (fun v13 ev13 => ?_)
    replace hf := bnd_use ev13 hf
    refine x_putf (pc := 77) (Cn := RX0) (T := TX0) (N := 12) C hX tyX0 tyX0_ok nmX0 0 rfl rfl miX0_moveArm_X0 10 (by decide) mmX0_moveArm_9 rfl rfl (Nat.le_of_ble_eq_true rfl) [(h0, .inr (0, [.ref h_kindRow, .ref h_slackRow, .ref h_placeRow, .ref h_turnRow, .ref h_wayRow, .ref h_strokeRow, .int arms, .int strokes, .int hand, .int step, .int v13, .int reversals])), (h_kindRow, .inl (cI, 4, .inl kindRow)), (h_slackRow, .inl (cI, 4, .inl slackRow)), (h_placeRow, .inl (cI, 4, .inl f11)), (h_turnRow, .inl (cI, 4, .inl turnRow)), (h_wayRow, .inl (cI, 4, .inl f7)), (h_strokeRow, .inl (cI, 16, .inl strokeRow))] rfl dX0_moveArm_77 (fun H locs hX => ?_)
    obtain ⟨rfl, rfl, rfl, rfl, rfl⟩ := re5 hf
    exact hret _ _ _ _ hX dX0_moveArm_80
  unfold fX0_moveArm at hf
  refine lv_iload_n (pc := 0) hx hb dX0_moveArm_0 rfl (lv_at hl 2 rfl) ?_
  refine lv_if_ne (pc := 1) (tgt := 5) hx hb dX0_moveArm_1 (by decide) (fun c1 => ?_) (fun c1 => ?_)
  · replace hf := ite_f c1 hf
    refine lv_iload_n (pc := 5) hx hb dX0_moveArm_5 rfl (lv_at hl 2 rfl) ?_
    obtain ⟨r2, g3, hf⟩ := cl1_adv hf
    refine x_callSi (pc := 6) (rest := []) C hX (kJ6_signum_0f7a4 ad l D cI cB cZ cG cS r2 p2 g3) (va_cwS 1 C.1.2.2.2.2 gX0_moveArm_J6_signum_0f7a4 rfl rfl rfl (by decide +kernel) ⟨Nat.le_of_ble_eq_true rfl, Nat.le_of_ble_eq_true rfl⟩) hl.1 rfl rfl (Nat.le_of_ble_eq_true rfl) dX0_moveArm_6 (fun H locs hX => ?_)
    refine lv_istore_n (pc := 9) (lv' := [(3, .int r2), (0, .ref h0), (1, .int p1), (2, .int p2)]) hx hb dX0_moveArm_9 rfl hl (by decide) rfl (fun ls hl => ?_)
    refine lv_aload_n (pc := 10) hx hb dX0_moveArm_10 rfl (lv_at hl 1 rfl) ?_
    refine x_getf (pc := 11) (Cn := RX0) (T := TX0) (N := 12) C hX 0 rfl rfl miX0_moveArm_X0 4 (by decide) mmX0_moveArm_1 rfl dX0_moveArm_11 ?_
    refine lv_iload_n (pc := 14) hx hb dX0_moveArm_14 rfl (lv_at hl 2 rfl) ?_
    replace hf := chk_adv hf
    have i4 := hf.1
    replace hf := hf.2
    refine x_iald (pc := 15) C hX 5 0 rfl rfl i4 dX0_moveArm_15 ?_
    refine lv_iload_n (pc := 16) hx hb dX0_moveArm_16 rfl (lv_at hl 0 rfl) ?_
    refine lv_ineg (pc := 17) hx hb dX0_moveArm_17 ?_
    refine lv_icmp_ne (pc := 18) (tgt := 50) hx hb dX0_moveArm_18 (by decide) (fun c5 => ?_) (fun c5 => ?_)
    · replace hf := ite_f c5 hf
      exact L50  p1 p2 r2 travel reversals placeRow turnRow wayRow _ _ _ hf hX (lv_sub hl [1, 2, 3, 0] rfl)
    · replace hf := ite_t c5 hf
      refine lv_aload_n (pc := 21) hx hb dX0_moveArm_21 rfl (lv_at hl 1 rfl) ?_
      refine lv_dup (pc := 22) hx hb dX0_moveArm_22 rfl ?_
      refine x_getf (pc := 23) (Cn := RX0) (T := TX0) (N := 12) C hX 0 rfl rfl miX0_moveArm_X0 11 (by decide) mmX0_moveArm_2 rfl dX0_moveArm_23 ?_
      refine lv_iconst (pc := 26) (v := 1) hx hb dX0_moveArm_26 (by decide) ?_
      refine lv_iadd (pc := 27) hx hb dX0_moveArm_27 ?_
      refine lv_topi (fun v14 ev14 => ?_)
      replace hf := bnd_use ev14 hf
      refine x_putf (pc := 28) (Cn := RX0) (T := TX0) (N := 12) C hX tyX0 tyX0_ok nmX0 0 rfl rfl miX0_moveArm_X0 11 (by decide) mmX0_moveArm_2 rfl rfl (Nat.le_of_ble_eq_true rfl) [(h0, .inr (0, [.ref h_kindRow, .ref h_slackRow, .ref h_placeRow, .ref h_turnRow, .ref h_wayRow, .ref h_strokeRow, .int arms, .int strokes, .int hand, .int step, .int travel, .int v14])), (h_kindRow, .inl (cI, 4, .inl kindRow)), (h_slackRow, .inl (cI, 4, .inl slackRow)), (h_placeRow, .inl (cI, 4, .inl placeRow)), (h_turnRow, .inl (cI, 4, .inl turnRow)), (h_wayRow, .inl (cI, 4, .inl wayRow)), (h_strokeRow, .inl (cI, 16, .inl strokeRow))] rfl dX0_moveArm_28 (fun H locs hX => ?_)
      refine lv_aload_n (pc := 31) hx hb dX0_moveArm_31 rfl (lv_at hl 1 rfl) ?_
      refine x_getf (pc := 32) (Cn := RX0) (T := TX0) (N := 12) C hX 0 rfl rfl miX0_moveArm_X0 3 (by decide) mmX0_moveArm_3 rfl dX0_moveArm_32 ?_
      refine lv_iload_n (pc := 35) hx hb dX0_moveArm_35 rfl (lv_at hl 2 rfl) ?_
      refine lv_aload_n (pc := 36) hx hb dX0_moveArm_36 rfl (lv_at hl 1 rfl) ?_
      refine x_getf (pc := 37) (Cn := RX0) (T := TX0) (N := 12) C hX 0 rfl rfl miX0_moveArm_X0 3 (by decide) mmX0_moveArm_3 rfl dX0_moveArm_37 ?_
      refine lv_iload_n (pc := 40) hx hb dX0_moveArm_40 rfl (lv_at hl 2 rfl) ?_
      replace hf := chk_adv hf
      have i15 := hf.1
      replace hf := hf.2
      refine x_iald (pc := 41) C hX 4 0 rfl rfl i15 dX0_moveArm_41 ?_
      refine lv_iconst (pc := 42) (v := 1) hx hb dX0_moveArm_42 (by decide) ?_
      refine lv_iadd (pc := 43) hx hb dX0_moveArm_43 ?_
      refine lv_bipush (pc := 44) (v := 9) hx hb dX0_moveArm_44 (by decide) ?_
      refine va_mmin (pc := 46) hx hb (C.1.2.2.1.trans hl.1.symm) C.1.2.2.2.1 (C.1.2.2.2.2 _ mmX0_moveArm_4) (C.1.2.2.2.2 _ mmX0_moveArm_5) (C.1.2.2.2.2 _ mmX0_moveArm_6) (C.1.2.2.2.2 _ mmX0_moveArm_7) (Nat.le_of_ble_eq_true rfl) (Nat.le_of_ble_eq_true rfl) (Nat.zero_le _) (Nat.zero_le _) dX0_moveArm_46 ?_
      refine lv_topi (fun v16 ev16 => ?_)
      replace hf := bnd_use (e := (imin ((turnRow (p1).toNatClampNeg) + (1 : Int32)) (9 : Int32))) ev16 hf
      replace hf := chk_adv hf
      have i17 := hf.1
      replace hf := hf.2
      obtain ⟨f18, ef18⟩ : ∃ y : Nat → Int32, y = (upd turnRow (p1).toNatClampNeg v16) := ⟨_, rfl⟩
      replace hf := bnd_use ef18 hf
      refine x_iast (pc := 49) C hX 4 0 rfl rfl i17 [(h0, .inr (0, [.ref h_kindRow, .ref h_slackRow, .ref h_placeRow, .ref h_turnRow, .ref h_wayRow, .ref h_strokeRow, .int arms, .int strokes, .int hand, .int step, .int travel, .int v14])), (h_kindRow, .inl (cI, 4, .inl kindRow)), (h_slackRow, .inl (cI, 4, .inl slackRow)), (h_placeRow, .inl (cI, 4, .inl placeRow)), (h_turnRow, .inl (cI, 4, .inl f18)), (h_wayRow, .inl (cI, 4, .inl wayRow)), (h_strokeRow, .inl (cI, 16, .inl strokeRow))] (by subst ef18; rfl) dX0_moveArm_49 (fun H locs hX => ?_)
      exact L50  p1 p2 r2 travel v14 placeRow f18 wayRow _ _ _ hf hX (lv_sub hl [1, 2, 3, 0] rfl)
  · replace hf := ite_t c1 hf
    obtain ⟨rfl, rfl, rfl, rfl, rfl⟩ := re5 hf
    exact hret _ _ _ _ hX dX0_moveArm_4
theorem mmX0_moveHand_1 : Cond.fieldLink RX0 37 "SlackArms$Gear" "hand" "I" ∈ wsX0_moveHand := List.mem_of_getElem? (i := 1) rfl
theorem miX0_moveHand_X0 : ∀ w ∈ u_ws RX0 TX0 12, w ∈ wsX0_moveHand := fun w h => List.mem_cons_of_mem _ (List.mem_append_right _ h)
theorem mmX0_moveHand_2 : Cond.fieldLink RX0 30 "SlackArms$Gear" "arms" "I" ∈ wsX0_moveHand := List.mem_of_getElem? (i := 2) rfl
theorem mmX0_moveHand_3 : Cond.fieldLink RX0 18 "SlackArms$Gear" "placeRow" "[I" ∈ wsX0_moveHand := List.mem_of_getElem? (i := 3) rfl
theorem mmX0_moveHand_4 : Cond.fieldLink RX0 9 "SlackArms$Gear" "kindRow" "[I" ∈ wsX0_moveHand := List.mem_of_getElem? (i := 4) rfl
set_option maxHeartbeats 4000000 in
set_option maxRecDepth 100000 in
theorem kX0_moveHand (ad : xAd) (l : Launch) (D : va_G) (cI cB cZ cG cS : ClassId) (h0 h_kindRow h_slackRow h_placeRow h_turnRow h_wayRow h_strokeRow : Nat) (arms : Int32) (strokes : Int32) (hand : Int32) (step : Int32) (travel : Int32) (reversals : Int32) (kindRow : (Nat → Int32)) (slackRow : (Nat → Int32)) (placeRow : (Nat → Int32)) (turnRow : (Nat → Int32)) (wayRow : (Nat → Int32)) (strokeRow : (Nat → Int32)) (o_hand' : Int32) (o_travel' : Int32) (o_reversals' : Int32) (o_placeRow' : (Nat → Int32)) (o_turnRow' : (Nat → Int32)) (o_wayRow' : (Nat → Int32)) (p1 : Int32) (hf : fX0_moveHand p1 arms hand travel reversals kindRow slackRow placeRow turnRow wayRow = some (o_hand', o_travel', o_reversals', o_placeRow', o_turnRow', o_wayRow')) : xMv ad l yX0_moveHand wsX0_moveHand ({ frames := 2, cells := 0, slots := 0, locals := 44 } : Room) D (xTY cI cB cZ cG cS) [.ref h0, .int p1] [(h0, .inr (0, [.ref h_kindRow, .ref h_slackRow, .ref h_placeRow, .ref h_turnRow, .ref h_wayRow, .ref h_strokeRow, .int arms, .int strokes, .int hand, .int step, .int travel, .int reversals])), (h_kindRow, .inl (cI, 4, .inl kindRow)), (h_slackRow, .inl (cI, 4, .inl slackRow)), (h_placeRow, .inl (cI, 4, .inl placeRow)), (h_turnRow, .inl (cI, 4, .inl turnRow)), (h_wayRow, .inl (cI, 4, .inl wayRow)), (h_strokeRow, .inl (cI, 16, .inl strokeRow))] [(h0, .inr (0, [.ref h_kindRow, .ref h_slackRow, .ref h_placeRow, .ref h_turnRow, .ref h_wayRow, .ref h_strokeRow, .int arms, .int strokes, .int o_hand', .int step, .int o_travel', .int o_reversals'])), (h_kindRow, .inl (cI, 4, .inl kindRow)), (h_slackRow, .inl (cI, 4, .inl slackRow)), (h_placeRow, .inl (cI, 4, .inl o_placeRow')), (h_turnRow, .inl (cI, 4, .inl o_turnRow')), (h_wayRow, .inl (cI, 4, .inl o_wayRow')), (h_strokeRow, .inl (cI, 16, .inl strokeRow))] := by
  refine xMv_of (cc := cX0_moveHand) (maxL := 4) (by decide) rfl (Nat.le_of_ble_eq_true rfl) ?_
  intro p e s m args below meth c A Q ls C hX hl hret
  have hx := C.1.1
  have hb := C.1.2.1
  have hl : lv_has ls 4 [(0, .ref h0), (1, .int p1)] := hl
  have L17 : ∀ (n : Nat), ∀ (x2 : Int32) (x3 : Int32) (hand : Int32) (travel : Int32) (reversals : Int32) (placeRow : (Nat → Int32)) (turnRow : (Nat → Int32)) (wayRow : (Nat → Int32)) (H : Heap) (locs : List Loc) (ls : Array Slot), fX0_moveHand_L17 arms kindRow slackRow n x2 x3 hand travel reversals placeRow turnRow wayRow = some (o_hand', o_travel', o_reversals', o_placeRow', o_turnRow', o_wayRow') → xSt A s D [(h0, .inr (0, [.ref h_kindRow, .ref h_slackRow, .ref h_placeRow, .ref h_turnRow, .ref h_wayRow, .ref h_strokeRow, .int arms, .int strokes, .int hand, .int step, .int travel, .int reversals])), (h_kindRow, .inl (cI, 4, .inl kindRow)), (h_slackRow, .inl (cI, 4, .inl slackRow)), (h_placeRow, .inl (cI, 4, .inl placeRow)), (h_turnRow, .inl (cI, 4, .inl turnRow)), (h_wayRow, .inl (cI, 4, .inl wayRow)), (h_strokeRow, .inl (cI, 16, .inl strokeRow))] H locs → lv_has ls 4 [(0, .ref h0), (2, .int x2), (3, .int x3)] → W p l e ({ frames := 2, cells := 0, slots := 0, locals := 44 } : Room) s m args below meth c H locs 0 0 Q (F0 m 17 ls []) := by
    intro n
    induction n with
    | zero =>
      intro x2 x3 hand travel reversals placeRow turnRow wayRow H locs ls hf
      rw [fX0_moveHand_L17] at hf
      cases hf
    | succ n ih =>
      intro x2 x3 hand travel reversals placeRow turnRow wayRow H locs ls hf hX hl
      rw [fX0_moveHand_L17] at hf
      refine lv_iload_n (pc := 17) hx hb dX0_moveHand_17 rfl (lv_at hl 2 rfl) ?_
      refine lv_aload_n (pc := 18) hx hb dX0_moveHand_18 rfl (lv_at hl 0 rfl) ?_
      refine x_getf (pc := 19) (Cn := RX0) (T := TX0) (N := 12) C hX 0 rfl rfl miX0_moveHand_X0 6 (by decide) mmX0_moveHand_2 rfl dX0_moveHand_19 ?_
      refine lv_icmp_ge (pc := 22) (tgt := 68) hx hb dX0_moveHand_22 (by decide) (fun c2 => ?_) (fun c2 => ?_)
      · replace hf := ite_t c2 hf
        obtain ⟨rfl, rfl, rfl, rfl, rfl, rfl⟩ := re6 hf
        exact hret _ _ _ _ hX dX0_moveHand_68
      · replace hf := ite_f c2 hf
        refine lv_aload_n (pc := 25) hx hb dX0_moveHand_25 rfl (lv_at hl 0 rfl) ?_
        refine lv_iload_n (pc := 26) hx hb dX0_moveHand_26 rfl (lv_at hl 2 rfl) ?_
        refine lv_aload_n (pc := 27) hx hb dX0_moveHand_27 rfl (lv_at hl 0 rfl) ?_
        refine lv_iload_n (pc := 28) hx hb dX0_moveHand_28 rfl (lv_at hl 2 rfl) ?_
        obtain ⟨r3, g4, hf⟩ := cl1_adv hf
        refine x_callVi (pc := 29) (rest := [.int x3, .ref h0]) (w2 := [(h0, .inr (0, [.ref h_kindRow, .ref h_slackRow, .ref h_placeRow, .ref h_turnRow, .ref h_wayRow, .ref h_strokeRow, .int arms, .int strokes, .int hand, .int step, .int travel, .int reversals])), (h_kindRow, .inl (cI, 4, .inl kindRow)), (h_slackRow, .inl (cI, 4, .inl slackRow)), (h_placeRow, .inl (cI, 4, .inl placeRow)), (h_turnRow, .inl (cI, 4, .inl turnRow)), (h_wayRow, .inl (cI, 4, .inl wayRow)), (h_strokeRow, .inl (cI, 16, .inl strokeRow))]) C hX (kX0_playOf ad l D cI cB cZ cG cS h0 h_kindRow h_slackRow h_placeRow h_turnRow h_wayRow h_strokeRow arms strokes hand step travel reversals kindRow slackRow placeRow turnRow wayRow strokeRow r3 x3 g4) (cwV 1 C.1.2.2.2.2 gX0_moveHand_X0_playOf rfl rfl rfl (by decide +kernel) ⟨Nat.le_of_ble_eq_true rfl, Nat.le_of_ble_eq_true rfl⟩) [0, 1, 2, 3, 4, 5, 6] [] [0, 1, 2, 3, 4, 5, 6] rfl rfl rfl rfl (by decide) rfl rfl 0 rfl rfl rfl hl.1 rfl rfl (Nat.le_of_ble_eq_true rfl) dX0_moveHand_29 (fun H locs hX => ?_)
        refine lv_iload_n (pc := 32) hx hb dX0_moveHand_32 rfl (lv_at hl 1 rfl) ?_
        refine lv_aload_n (pc := 33) hx hb dX0_moveHand_33 rfl (lv_at hl 0 rfl) ?_
        refine x_getf (pc := 34) (Cn := RX0) (T := TX0) (N := 12) C hX 0 rfl rfl miX0_moveHand_X0 2 (by decide) mmX0_moveHand_3 rfl dX0_moveHand_34 ?_
        refine lv_iload_n (pc := 37) hx hb dX0_moveHand_37 rfl (lv_at hl 2 rfl) ?_
        replace hf := chk_adv hf
        have i5 := hf.1
        replace hf := hf.2
        refine x_iald (pc := 38) C hX 3 0 rfl rfl i5 dX0_moveHand_38 ?_
        refine lv_isub (pc := 39) hx hb dX0_moveHand_39 ?_
        obtain ⟨r6, g7, hf⟩ := cl1_adv hf
        refine x_callSi (pc := 40) (rest := [.int x3, .ref h0]) C hX (kX0_beyond ad l D cI cB cZ cG cS r6 r3 (x2 - (placeRow (x3).toNatClampNeg)) g7) (va_cwS 2 C.1.2.2.2.2 gX0_moveHand_X0_beyond rfl rfl rfl (by decide +kernel) ⟨Nat.le_of_ble_eq_true rfl, Nat.le_of_ble_eq_true rfl⟩) hl.1 rfl rfl (Nat.le_of_ble_eq_true rfl) dX0_moveHand_40 (fun H locs hX => ?_)
        refine lv_aload_n (pc := 43) hx hb dX0_moveHand_43 rfl (lv_at hl 0 rfl) ?_
        refine x_getf (pc := 44) (Cn := RX0) (T := TX0) (N := 12) C hX 0 rfl rfl miX0_moveHand_X0 0 (by decide) mmX0_moveHand_4 rfl dX0_moveHand_44 ?_
        refine lv_iload_n (pc := 47) hx hb dX0_moveHand_47 rfl (lv_at hl 2 rfl) ?_
        replace hf := chk_adv hf
        have i8 := hf.1
        replace hf := hf.2
        refine x_iald (pc := 48) C hX 1 0 rfl rfl i8 dX0_moveHand_48 ?_
        obtain ⟨r9, g10, hf⟩ := cl1_adv hf
        refine x_callSi (pc := 49) (rest := [.int x3, .ref h0]) C hX (kX0_answerTo ad l D cI cB cZ cG cS r9 r6 (kindRow (x3).toNatClampNeg) g10) (va_cwS 2 C.1.2.2.2.2 gX0_moveHand_X0_answerTo rfl rfl rfl (by decide +kernel) ⟨Nat.le_of_ble_eq_true rfl, Nat.le_of_ble_eq_true rfl⟩) hl.1 rfl rfl (Nat.le_of_ble_eq_true rfl) dX0_moveHand_49 (fun H locs hX => ?_)
        obtain ⟨u11, u12, u13, u14, u15, g16, hf⟩ := cl5_adv hf
        refine x_callVv (pc := 52) (rest := []) (w2 := [(h0, .inr (0, [.ref h_kindRow, .ref h_slackRow, .ref h_placeRow, .ref h_turnRow, .ref h_wayRow, .ref h_strokeRow, .int arms, .int strokes, .int hand, .int step, .int u11, .int u12])), (h_kindRow, .inl (cI, 4, .inl kindRow)), (h_slackRow, .inl (cI, 4, .inl slackRow)), (h_placeRow, .inl (cI, 4, .inl u13)), (h_turnRow, .inl (cI, 4, .inl u14)), (h_wayRow, .inl (cI, 4, .inl u15)), (h_strokeRow, .inl (cI, 16, .inl strokeRow))]) C hX (kX0_moveArm ad l D cI cB cZ cG cS h0 h_kindRow h_slackRow h_placeRow h_turnRow h_wayRow h_strokeRow arms strokes hand step travel reversals kindRow slackRow placeRow turnRow wayRow strokeRow u11 u12 u13 u14 u15 x3 r9 g16) (cwV 2 C.1.2.2.2.2 gX0_moveHand_X0_moveArm rfl rfl rfl (by decide +kernel) ⟨Nat.le_of_ble_eq_true rfl, Nat.le_of_ble_eq_true rfl⟩) [0, 1, 2, 3, 4, 5, 6] [] [0, 1, 2, 3, 4, 5, 6] rfl rfl rfl rfl (by decide) rfl rfl 0 rfl rfl rfl hl.1 rfl rfl (Nat.le_of_ble_eq_true rfl) dX0_moveHand_52 (fun H locs hX => ?_)
        refine lv_aload_n (pc := 55) hx hb dX0_moveHand_55 rfl (lv_at hl 0 rfl) ?_
        refine x_getf (pc := 56) (Cn := RX0) (T := TX0) (N := 12) C hX 0 rfl rfl miX0_moveHand_X0 2 (by decide) mmX0_moveHand_3 rfl dX0_moveHand_56 ?_
        refine lv_iload_n (pc := 59) hx hb dX0_moveHand_59 rfl (lv_at hl 2 rfl) ?_
        replace hf := chk_adv hf
        have i17 := hf.1
        replace hf := hf.2
        refine x_iald (pc := 60) C hX 3 0 rfl rfl i17 dX0_moveHand_60 ?_
        refine lv_topi (fun v18 ev18 => ?_)
        replace hf := bnd_use ev18 hf
        refine lv_istore_n (pc := 61) (lv' := [(2, .int v18), (0, .ref h0), (3, .int x3)]) hx hb dX0_moveHand_61 rfl hl (by decide) rfl (fun ls hl => ?_)
        obtain ⟨v19, ev19⟩ : ∃ y : Int32, y = (x3 + (1 : Int32)) := ⟨_, rfl⟩
        replace hf := bnd_use ev19 hf
        refine lv_iinc (pc := 62) (v := v19) (lv' := [(3, .int v19), (2, .int v18), (0, .ref h0)]) hx hb dX0_moveHand_62 hl (k := 2) rfl (by rw [ev19]; rfl) (by decide) rfl (fun ls hl => ?_)
        refine lv_goto (pc := 65) (tgt := 17) hx hb dX0_moveHand_65 (by decide) ?_
        exact ih v18 v19 hand u11 u12 u13 u14 u15 _ _ _ hf hX (lv_sub hl [2, 1, 0] rfl)
  unfold fX0_moveHand at hf
  refine lv_aload_n (pc := 0) hx hb dX0_moveHand_0 rfl (lv_at hl 0 rfl) ?_
  refine lv_dup (pc := 1) hx hb dX0_moveHand_1 rfl ?_
  refine x_getf (pc := 2) (Cn := RX0) (T := TX0) (N := 12) C hX 0 rfl rfl miX0_moveHand_X0 8 (by decide) mmX0_moveHand_1 rfl dX0_moveHand_2 ?_
  refine lv_iload_n (pc := 5) hx hb dX0_moveHand_5 rfl (lv_at hl 1 rfl) ?_
  refine lv_iadd (pc := 6) hx hb dX0_moveHand_6 ?_
  refine lv_topi (fun v1 ev1 => ?_)
  replace hf := bnd_use ev1 hf
  refine x_putf (pc := 7) (Cn := RX0) (T := TX0) (N := 12) C hX tyX0 tyX0_ok nmX0 0 rfl rfl miX0_moveHand_X0 8 (by decide) mmX0_moveHand_1 rfl rfl (Nat.le_of_ble_eq_true rfl) [(h0, .inr (0, [.ref h_kindRow, .ref h_slackRow, .ref h_placeRow, .ref h_turnRow, .ref h_wayRow, .ref h_strokeRow, .int arms, .int strokes, .int v1, .int step, .int travel, .int reversals])), (h_kindRow, .inl (cI, 4, .inl kindRow)), (h_slackRow, .inl (cI, 4, .inl slackRow)), (h_placeRow, .inl (cI, 4, .inl placeRow)), (h_turnRow, .inl (cI, 4, .inl turnRow)), (h_wayRow, .inl (cI, 4, .inl wayRow)), (h_strokeRow, .inl (cI, 16, .inl strokeRow))] rfl dX0_moveHand_7 (fun H locs hX => ?_)
  refine lv_aload_n (pc := 10) hx hb dX0_moveHand_10 rfl (lv_at hl 0 rfl) ?_
  refine x_getf (pc := 11) (Cn := RX0) (T := TX0) (N := 12) C hX 0 rfl rfl miX0_moveHand_X0 8 (by decide) mmX0_moveHand_1 rfl dX0_moveHand_11 ?_
  refine lv_istore_n (pc := 14) (lv' := [(2, .int v1), (0, .ref h0), (1, .int p1)]) hx hb dX0_moveHand_14 rfl hl (by decide) rfl (fun ls hl => ?_)
  refine lv_iconst (pc := 15) (v := 0) hx hb dX0_moveHand_15 (by decide) ?_
  refine lv_istore_n (pc := 16) (lv' := [(3, .int (0 : Int32)), (2, .int v1), (0, .ref h0), (1, .int p1)]) hx hb dX0_moveHand_16 rfl hl (by decide) rfl (fun ls hl => ?_)
  exact L17  xF v1 (0 : Int32) v1 travel reversals placeRow turnRow wayRow _ _ _ hf hX (lv_sub hl [2, 1, 0] rfl)
theorem mmX0_takeStep_1 : Cond.fieldLink RX0 34 "SlackArms$Gear" "strokes" "I" ∈ wsX0_takeStep := List.mem_of_getElem? (i := 1) rfl
theorem miX0_takeStep_X0 : ∀ w ∈ u_ws RX0 TX0 12, w ∈ wsX0_takeStep := fun w h => List.mem_cons_of_mem _ (List.mem_append_right _ h)
theorem mmX0_takeStep_3 : Cond.fieldLink RX0 40 "SlackArms$Gear" "step" "I" ∈ wsX0_takeStep := List.mem_of_getElem? (i := 3) rfl
theorem mmX0_takeStep_2 : Cond.fieldLink RX0 27 "SlackArms$Gear" "strokeRow" "[I" ∈ wsX0_takeStep := List.mem_of_getElem? (i := 2) rfl
set_option maxHeartbeats 4000000 in
set_option maxRecDepth 100000 in
theorem kX0_takeStep (ad : xAd) (l : Launch) (D : va_G) (cI cB cZ cG cS : ClassId) (h0 h_kindRow h_slackRow h_placeRow h_turnRow h_wayRow h_strokeRow : Nat) (arms : Int32) (strokes : Int32) (hand : Int32) (step : Int32) (travel : Int32) (reversals : Int32) (kindRow : (Nat → Int32)) (slackRow : (Nat → Int32)) (placeRow : (Nat → Int32)) (turnRow : (Nat → Int32)) (wayRow : (Nat → Int32)) (strokeRow : (Nat → Int32)) (o_hand' : Int32) (o_step' : Int32) (o_travel' : Int32) (o_reversals' : Int32) (o_placeRow' : (Nat → Int32)) (o_turnRow' : (Nat → Int32)) (o_wayRow' : (Nat → Int32))  (hf : fX0_takeStep  arms strokes hand step travel reversals kindRow slackRow placeRow turnRow wayRow strokeRow = some (o_hand', o_step', o_travel', o_reversals', o_placeRow', o_turnRow', o_wayRow')) : xMv ad l yX0_takeStep wsX0_takeStep ({ frames := 3, cells := 0, slots := 0, locals := 67 } : Room) D (xTY cI cB cZ cG cS) [.ref h0] [(h0, .inr (0, [.ref h_kindRow, .ref h_slackRow, .ref h_placeRow, .ref h_turnRow, .ref h_wayRow, .ref h_strokeRow, .int arms, .int strokes, .int hand, .int step, .int travel, .int reversals])), (h_kindRow, .inl (cI, 4, .inl kindRow)), (h_slackRow, .inl (cI, 4, .inl slackRow)), (h_placeRow, .inl (cI, 4, .inl placeRow)), (h_turnRow, .inl (cI, 4, .inl turnRow)), (h_wayRow, .inl (cI, 4, .inl wayRow)), (h_strokeRow, .inl (cI, 16, .inl strokeRow))] [(h0, .inr (0, [.ref h_kindRow, .ref h_slackRow, .ref h_placeRow, .ref h_turnRow, .ref h_wayRow, .ref h_strokeRow, .int arms, .int strokes, .int o_hand', .int o_step', .int o_travel', .int o_reversals'])), (h_kindRow, .inl (cI, 4, .inl kindRow)), (h_slackRow, .inl (cI, 4, .inl slackRow)), (h_placeRow, .inl (cI, 4, .inl o_placeRow')), (h_turnRow, .inl (cI, 4, .inl o_turnRow')), (h_wayRow, .inl (cI, 4, .inl o_wayRow')), (h_strokeRow, .inl (cI, 16, .inl strokeRow))] := by
  refine xMv_of (cc := cX0_takeStep) (maxL := 1) (by decide) rfl (Nat.le_of_ble_eq_true rfl) ?_
  intro p e s m args below meth c A Q ls C hX hl hret
  have hx := C.1.1
  have hb := C.1.2.1
  have hl : lv_has ls 1 [(0, .ref h0)] := hl
  have L20 : ∀ (hand : Int32) (step : Int32) (travel : Int32) (reversals : Int32) (placeRow : (Nat → Int32)) (turnRow : (Nat → Int32)) (wayRow : (Nat → Int32)) (H : Heap) (locs : List Loc) (ls : Array Slot), fX0_takeStep_L20 arms strokes kindRow slackRow strokeRow hand step travel reversals placeRow turnRow wayRow = some (o_hand', o_step', o_travel', o_reversals', o_placeRow', o_turnRow', o_wayRow') → xSt A s D [(h0, .inr (0, [.ref h_kindRow, .ref h_slackRow, .ref h_placeRow, .ref h_turnRow, .ref h_wayRow, .ref h_strokeRow, .int arms, .int strokes, .int hand, .int step, .int travel, .int reversals])), (h_kindRow, .inl (cI, 4, .inl kindRow)), (h_slackRow, .inl (cI, 4, .inl slackRow)), (h_placeRow, .inl (cI, 4, .inl placeRow)), (h_turnRow, .inl (cI, 4, .inl turnRow)), (h_wayRow, .inl (cI, 4, .inl wayRow)), (h_strokeRow, .inl (cI, 16, .inl strokeRow))] H locs → lv_has ls 1 [(0, .ref h0)] → W p l e ({ frames := 3, cells := 0, slots := 0, locals := 67 } : Room) s m args below meth c H locs 0 0 Q (F0 m 20 ls []) := by
    intro  hand step travel reversals placeRow turnRow wayRow H locs ls hf hX hl
    unfold fX0_takeStep_L20 at hf
    refine lv_aload_n (pc := 20) hx hb dX0_takeStep_20 rfl (lv_at hl 0 rfl) ?_
    refine lv_dup (pc := 21) hx hb dX0_takeStep_21 rfl ?_
    refine x_getf (pc := 22) (Cn := RX0) (T := TX0) (N := 12) C hX 0 rfl rfl miX0_takeStep_X0 9 (by decide) mmX0_takeStep_3 rfl dX0_takeStep_22 ?_
    refine lv_iconst (pc := 25) (v := 1) hx hb dX0_takeStep_25 (by decide) ?_
    refine lv_iadd (pc := 26) hx hb dX0_takeStep_26 ?_
    refine lv_topi (fun v2 ev2 => ?_)
    replace hf := bnd_use ev2 hf
    refine x_putf (pc := 27) (Cn := RX0) (T := TX0) (N := 12) C hX tyX0 tyX0_ok nmX0 0 rfl rfl miX0_takeStep_X0 9 (by decide) mmX0_takeStep_3 rfl rfl (Nat.le_of_ble_eq_true rfl) [(h0, .inr (0, [.ref h_kindRow, .ref h_slackRow, .ref h_placeRow, .ref h_turnRow, .ref h_wayRow, .ref h_strokeRow, .int arms, .int strokes, .int hand, .int v2, .int travel, .int reversals])), (h_kindRow, .inl (cI, 4, .inl kindRow)), (h_slackRow, .inl (cI, 4, .inl slackRow)), (h_placeRow, .inl (cI, 4, .inl placeRow)), (h_turnRow, .inl (cI, 4, .inl turnRow)), (h_wayRow, .inl (cI, 4, .inl wayRow)), (h_strokeRow, .inl (cI, 16, .inl strokeRow))] rfl dX0_takeStep_27 (fun H locs hX => ?_)
    obtain ⟨rfl, rfl, rfl, rfl, rfl, rfl, rfl⟩ := re7 hf
    exact hret _ _ _ _ hX dX0_takeStep_30
  unfold fX0_takeStep at hf
  refine lv_aload_n (pc := 0) hx hb dX0_takeStep_0 rfl (lv_at hl 0 rfl) ?_
  refine x_getf (pc := 1) (Cn := RX0) (T := TX0) (N := 12) C hX 0 rfl rfl miX0_takeStep_X0 7 (by decide) mmX0_takeStep_1 rfl dX0_takeStep_1 ?_
  refine lv_if_eq (pc := 4) (tgt := 20) hx hb dX0_takeStep_4 (by decide) (fun c1 => ?_) (fun c1 => ?_)
  · replace hf := ite_t c1 hf
    exact L20  hand step travel reversals placeRow turnRow wayRow _ _ _ hf hX (lv_sub hl [0] rfl)
  · replace hf := ite_f c1 hf
    refine lv_aload_n (pc := 7) hx hb dX0_takeStep_7 rfl (lv_at hl 0 rfl) ?_
    refine lv_aload_n (pc := 8) hx hb dX0_takeStep_8 rfl (lv_at hl 0 rfl) ?_
    refine x_getf (pc := 9) (Cn := RX0) (T := TX0) (N := 12) C hX 0 rfl rfl miX0_takeStep_X0 5 (by decide) mmX0_takeStep_2 rfl dX0_takeStep_9 ?_
    refine lv_aload_n (pc := 12) hx hb dX0_takeStep_12 rfl (lv_at hl 0 rfl) ?_
    obtain ⟨r3, g4, hf⟩ := cl1_adv hf
    refine x_callVi (pc := 13) (rest := [.ref h_strokeRow, .ref h0]) (w2 := [(h0, .inr (0, [.ref h_kindRow, .ref h_slackRow, .ref h_placeRow, .ref h_turnRow, .ref h_wayRow, .ref h_strokeRow, .int arms, .int strokes, .int hand, .int step, .int travel, .int reversals])), (h_kindRow, .inl (cI, 4, .inl kindRow)), (h_slackRow, .inl (cI, 4, .inl slackRow)), (h_placeRow, .inl (cI, 4, .inl placeRow)), (h_turnRow, .inl (cI, 4, .inl turnRow)), (h_wayRow, .inl (cI, 4, .inl wayRow)), (h_strokeRow, .inl (cI, 16, .inl strokeRow))]) C hX (kX0_strokeInTurn ad l D cI cB cZ cG cS h0 h_kindRow h_slackRow h_placeRow h_turnRow h_wayRow h_strokeRow arms strokes hand step travel reversals kindRow slackRow placeRow turnRow wayRow strokeRow r3 g4) (cwV 0 C.1.2.2.2.2 gX0_takeStep_X0_strokeInTurn rfl rfl rfl (by decide +kernel) ⟨Nat.le_of_ble_eq_true rfl, Nat.le_of_ble_eq_true rfl⟩) [0, 1, 2, 3, 4, 5, 6] [] [0, 1, 2, 3, 4, 5, 6] rfl rfl rfl rfl (by decide) rfl rfl 0 rfl rfl rfl hl.1 rfl rfl (Nat.le_of_ble_eq_true rfl) dX0_takeStep_13 (fun H locs hX => ?_)
    replace hf := chk_adv hf
    have i5 := hf.1
    replace hf := hf.2
    refine x_iald (pc := 16) C hX 6 0 rfl rfl i5 dX0_takeStep_16 ?_
    obtain ⟨u6, u7, u8, u9, u10, u11, g12, hf⟩ := cl6_adv hf
    refine x_callVv (pc := 17) (rest := []) (w2 := [(h0, .inr (0, [.ref h_kindRow, .ref h_slackRow, .ref h_placeRow, .ref h_turnRow, .ref h_wayRow, .ref h_strokeRow, .int arms, .int strokes, .int u6, .int step, .int u7, .int u8])), (h_kindRow, .inl (cI, 4, .inl kindRow)), (h_slackRow, .inl (cI, 4, .inl slackRow)), (h_placeRow, .inl (cI, 4, .inl u9)), (h_turnRow, .inl (cI, 4, .inl u10)), (h_wayRow, .inl (cI, 4, .inl u11)), (h_strokeRow, .inl (cI, 16, .inl strokeRow))]) C hX (kX0_moveHand ad l D cI cB cZ cG cS h0 h_kindRow h_slackRow h_placeRow h_turnRow h_wayRow h_strokeRow arms strokes hand step travel reversals kindRow slackRow placeRow turnRow wayRow strokeRow u6 u7 u8 u9 u10 u11 (strokeRow (r3).toNatClampNeg) g12) (cwV 1 C.1.2.2.2.2 gX0_takeStep_X0_moveHand rfl rfl rfl (by decide +kernel) ⟨Nat.le_of_ble_eq_true rfl, Nat.le_of_ble_eq_true rfl⟩) [0, 1, 2, 3, 4, 5, 6] [] [0, 1, 2, 3, 4, 5, 6] rfl rfl rfl rfl (by decide) rfl rfl 0 rfl rfl rfl hl.1 rfl rfl (Nat.le_of_ble_eq_true rfl) dX0_takeStep_17 (fun H locs hX => ?_)
    exact L20  u6 step u7 u8 u9 u10 u11 _ _ _ hf hX (lv_sub hl [0] rfl)
set_option maxHeartbeats 4000000 in
set_option maxRecDepth 100000 in
theorem kX0_takeSteps (ad : xAd) (l : Launch) (D : va_G) (cI cB cZ cG cS : ClassId) (h0 h_kindRow h_slackRow h_placeRow h_turnRow h_wayRow h_strokeRow : Nat) (arms : Int32) (strokes : Int32) (hand : Int32) (step : Int32) (travel : Int32) (reversals : Int32) (kindRow : (Nat → Int32)) (slackRow : (Nat → Int32)) (placeRow : (Nat → Int32)) (turnRow : (Nat → Int32)) (wayRow : (Nat → Int32)) (strokeRow : (Nat → Int32)) (o_hand' : Int32) (o_step' : Int32) (o_travel' : Int32) (o_reversals' : Int32) (o_placeRow' : (Nat → Int32)) (o_turnRow' : (Nat → Int32)) (o_wayRow' : (Nat → Int32)) (p1 : Int32) (hf : fX0_takeSteps p1 arms strokes hand step travel reversals kindRow slackRow placeRow turnRow wayRow strokeRow = some (o_hand', o_step', o_travel', o_reversals', o_placeRow', o_turnRow', o_wayRow')) : xMv ad l yX0_takeSteps wsX0_takeSteps ({ frames := 4, cells := 0, slots := 0, locals := 87 } : Room) D (xTY cI cB cZ cG cS) [.ref h0, .int p1] [(h0, .inr (0, [.ref h_kindRow, .ref h_slackRow, .ref h_placeRow, .ref h_turnRow, .ref h_wayRow, .ref h_strokeRow, .int arms, .int strokes, .int hand, .int step, .int travel, .int reversals])), (h_kindRow, .inl (cI, 4, .inl kindRow)), (h_slackRow, .inl (cI, 4, .inl slackRow)), (h_placeRow, .inl (cI, 4, .inl placeRow)), (h_turnRow, .inl (cI, 4, .inl turnRow)), (h_wayRow, .inl (cI, 4, .inl wayRow)), (h_strokeRow, .inl (cI, 16, .inl strokeRow))] [(h0, .inr (0, [.ref h_kindRow, .ref h_slackRow, .ref h_placeRow, .ref h_turnRow, .ref h_wayRow, .ref h_strokeRow, .int arms, .int strokes, .int o_hand', .int o_step', .int o_travel', .int o_reversals'])), (h_kindRow, .inl (cI, 4, .inl kindRow)), (h_slackRow, .inl (cI, 4, .inl slackRow)), (h_placeRow, .inl (cI, 4, .inl o_placeRow')), (h_turnRow, .inl (cI, 4, .inl o_turnRow')), (h_wayRow, .inl (cI, 4, .inl o_wayRow')), (h_strokeRow, .inl (cI, 16, .inl strokeRow))] := by
  refine xMv_of (cc := cX0_takeSteps) (maxL := 3) (by decide) rfl (Nat.le_of_ble_eq_true rfl) ?_
  intro p e s m args below meth c A Q ls C hX hl hret
  have hx := C.1.1
  have hb := C.1.2.1
  have hl : lv_has ls 3 [(0, .ref h0), (1, .int p1)] := hl
  have L2 : ∀ (n : Nat), ∀ (x1 : Int32) (x2 : Int32) (hand : Int32) (step : Int32) (travel : Int32) (reversals : Int32) (placeRow : (Nat → Int32)) (turnRow : (Nat → Int32)) (wayRow : (Nat → Int32)) (H : Heap) (locs : List Loc) (ls : Array Slot), fX0_takeSteps_L2 arms strokes kindRow slackRow strokeRow n x1 x2 hand step travel reversals placeRow turnRow wayRow = some (o_hand', o_step', o_travel', o_reversals', o_placeRow', o_turnRow', o_wayRow') → xSt A s D [(h0, .inr (0, [.ref h_kindRow, .ref h_slackRow, .ref h_placeRow, .ref h_turnRow, .ref h_wayRow, .ref h_strokeRow, .int arms, .int strokes, .int hand, .int step, .int travel, .int reversals])), (h_kindRow, .inl (cI, 4, .inl kindRow)), (h_slackRow, .inl (cI, 4, .inl slackRow)), (h_placeRow, .inl (cI, 4, .inl placeRow)), (h_turnRow, .inl (cI, 4, .inl turnRow)), (h_wayRow, .inl (cI, 4, .inl wayRow)), (h_strokeRow, .inl (cI, 16, .inl strokeRow))] H locs → lv_has ls 3 [(0, .ref h0), (1, .int x1), (2, .int x2)] → W p l e ({ frames := 4, cells := 0, slots := 0, locals := 87 } : Room) s m args below meth c H locs 0 0 Q (F0 m 2 ls []) := by
    intro n
    induction n with
    | zero =>
      intro x1 x2 hand step travel reversals placeRow turnRow wayRow H locs ls hf
      rw [fX0_takeSteps_L2] at hf
      cases hf
    | succ n ih =>
      intro x1 x2 hand step travel reversals placeRow turnRow wayRow H locs ls hf hX hl
      rw [fX0_takeSteps_L2] at hf
      refine lv_iload_n (pc := 2) hx hb dX0_takeSteps_2 rfl (lv_at hl 2 rfl) ?_
      refine lv_iload_n (pc := 3) hx hb dX0_takeSteps_3 rfl (lv_at hl 1 rfl) ?_
      refine lv_icmp_ge (pc := 4) (tgt := 17) hx hb dX0_takeSteps_4 (by decide) (fun c1 => ?_) (fun c1 => ?_)
      · replace hf := ite_t c1 hf
        obtain ⟨rfl, rfl, rfl, rfl, rfl, rfl, rfl⟩ := re7 hf
        exact hret _ _ _ _ hX dX0_takeSteps_17
      · replace hf := ite_f c1 hf
        refine lv_aload_n (pc := 7) hx hb dX0_takeSteps_7 rfl (lv_at hl 0 rfl) ?_
        obtain ⟨u2, u3, u4, u5, u6, u7, u8, g9, hf⟩ := cl7_adv hf
        refine x_callVv (pc := 8) (rest := []) (w2 := [(h0, .inr (0, [.ref h_kindRow, .ref h_slackRow, .ref h_placeRow, .ref h_turnRow, .ref h_wayRow, .ref h_strokeRow, .int arms, .int strokes, .int u2, .int u3, .int u4, .int u5])), (h_kindRow, .inl (cI, 4, .inl kindRow)), (h_slackRow, .inl (cI, 4, .inl slackRow)), (h_placeRow, .inl (cI, 4, .inl u6)), (h_turnRow, .inl (cI, 4, .inl u7)), (h_wayRow, .inl (cI, 4, .inl u8)), (h_strokeRow, .inl (cI, 16, .inl strokeRow))]) C hX (kX0_takeStep ad l D cI cB cZ cG cS h0 h_kindRow h_slackRow h_placeRow h_turnRow h_wayRow h_strokeRow arms strokes hand step travel reversals kindRow slackRow placeRow turnRow wayRow strokeRow u2 u3 u4 u5 u6 u7 u8 g9) (cwV 0 C.1.2.2.2.2 gX0_takeSteps_X0_takeStep rfl rfl rfl (by decide +kernel) ⟨Nat.le_of_ble_eq_true rfl, Nat.le_of_ble_eq_true rfl⟩) [0, 1, 2, 3, 4, 5, 6] [] [0, 1, 2, 3, 4, 5, 6] rfl rfl rfl rfl (by decide) rfl rfl 0 rfl rfl rfl hl.1 rfl rfl (Nat.le_of_ble_eq_true rfl) dX0_takeSteps_8 (fun H locs hX => ?_)
        obtain ⟨v10, ev10⟩ : ∃ y : Int32, y = (x2 + (1 : Int32)) := ⟨_, rfl⟩
        replace hf := bnd_use ev10 hf
        refine lv_iinc (pc := 11) (v := v10) (lv' := [(2, .int v10), (0, .ref h0), (1, .int x1)]) hx hb dX0_takeSteps_11 hl (k := 2) rfl (by rw [ev10]; rfl) (by decide) rfl (fun ls hl => ?_)
        refine lv_goto (pc := 14) (tgt := 2) hx hb dX0_takeSteps_14 (by decide) ?_
        exact ih x1 v10 u2 u3 u4 u5 u6 u7 u8 _ _ _ hf hX (lv_sub hl [1, 2, 0] rfl)
  unfold fX0_takeSteps at hf
  refine lv_iconst (pc := 0) (v := 0) hx hb dX0_takeSteps_0 (by decide) ?_
  refine lv_istore_n (pc := 1) (lv' := [(2, .int (0 : Int32)), (0, .ref h0), (1, .int p1)]) hx hb dX0_takeSteps_1 rfl hl (by decide) rfl (fun ls hl => ?_)
  exact L2  xF p1 (0 : Int32) hand step travel reversals placeRow turnRow wayRow _ _ _ hf hX (lv_sub hl [1, 2, 0] rfl)
