set_option maxHeartbeats 4000000 in
set_option maxRecDepth 100000 in
theorem kX5_in (ad : xAd) (l : Launch) (D : va_G) (cI cB cZ cG cS : ClassId)   (r0 : Int32) (p1 : Int64) (p2 : Int64) (p3 : Int64) (hf : fX5_in p1 p2 p3  = some r0) : xMi ad l yX5_in wsX5_in ({ frames := 0, cells := 0, slots := 0, locals := 0 } : Room) D (xTY cI cB cZ cG cS) [.long p1, .long p2, .long p3] [] [] r0 := by
  refine xMi_of (cc := cX5_in) (maxL := 6) (ty := .boolean) (by decide) rfl (Nat.le_of_ble_eq_true rfl) ?_
  intro p e s m args below meth c A Q ls C hX hl hret
  have hx := C.1.1
  have hb := C.1.2.1
  have hl : lv_has ls 6 [(0, .long p1), (2, .long p2), (4, .long p3)] := hl
  unfold fX5_in at hf
  refine lv_lload_n (pc := 0) hx hb dX5_in_0 rfl (lv_at hl 0 rfl) ?_
  refine lv_lload_n (pc := 1) hx hb dX5_in_1 rfl (lv_at hl 1 rfl) ?_
  refine W.lcmp (pc := 2) hx hb dX5_in_2 ?_
  refine lv_if_lt (pc := 3) (tgt := 17) hx hb dX5_in_3 (by decide) (fun c1 => ?_) (fun c1 => ?_)
  · replace hf := ite_t c1 hf
    refine lv_iconst (pc := 17) (v := 0) hx hb dX5_in_17 (by decide) ?_
    obtain ⟨rfl⟩ := re1 hf
    exact hret _ _ _ _ _ rfl rfl hX dX5_in_18
  · replace hf := ite_f c1 hf
    refine lv_lload_n (pc := 6) hx hb dX5_in_6 rfl (lv_at hl 0 rfl) ?_
    refine lv_lload (pc := 7) hx hb dX5_in_7 (lv_at hl 2 rfl) ?_
    refine W.lcmp (pc := 9) hx hb dX5_in_9 ?_
    refine lv_if_gt (pc := 10) (tgt := 17) hx hb dX5_in_10 (by decide) (fun c2 => ?_) (fun c2 => ?_)
    · replace hf := ite_t c2 hf
      refine lv_iconst (pc := 17) (v := 0) hx hb dX5_in_17 (by decide) ?_
      obtain ⟨rfl⟩ := re1 hf
      exact hret _ _ _ _ _ rfl rfl hX dX5_in_18
    · replace hf := ite_f c2 hf
      refine lv_iconst (pc := 13) (v := 1) hx hb dX5_in_13 (by decide) ?_
      refine lv_goto (pc := 14) (tgt := 18) hx hb dX5_in_14 (by decide) ?_
      obtain ⟨rfl⟩ := re1 hf
      exact hret _ _ _ _ _ rfl rfl hX dX5_in_18
set_option maxHeartbeats 4000000 in
set_option maxRecDepth 100000 in
theorem kX5_amount (ad : xAd) (l : Launch) (D : va_G) (cI cB cZ cG cS : ClassId)   (r0 : Int32) (p1 : Int32) (hf : fX5_amount p1  = some r0) : xMi ad l yX5_amount wsX5_amount ({ frames := 0, cells := 0, slots := 0, locals := 0 } : Room) D (xTY cI cB cZ cG cS) [.int p1] [] [] r0 := by
  refine xMi_of (cc := cX5_amount) (maxL := 1) (ty := .int) (by decide) rfl (Nat.le_of_ble_eq_true rfl) ?_
  intro p e s m args below meth c A Q ls C hX hl hret
  have hx := C.1.1
  have hb := C.1.2.1
  have hl : lv_has ls 1 [(0, .int p1)] := hl
  unfold fX5_amount at hf
  refine lv_iload_n (pc := 0) hx hb dX5_amount_0 rfl (lv_at hl 0 rfl) ?_
  refine lv_if_ge (pc := 1) (tgt := 9) hx hb dX5_amount_1 (by decide) (fun c1 => ?_) (fun c1 => ?_)
  · replace hf := ite_t c1 hf
    refine lv_iload_n (pc := 9) hx hb dX5_amount_9 rfl (lv_at hl 0 rfl) ?_
    obtain ⟨rfl⟩ := re1 hf
    exact hret _ _ _ _ _ rfl rfl hX dX5_amount_10
  · replace hf := ite_f c1 hf
    refine lv_iload_n (pc := 4) hx hb dX5_amount_4 rfl (lv_at hl 0 rfl) ?_
    refine lv_ineg (pc := 5) hx hb dX5_amount_5 ?_
    refine lv_goto (pc := 6) (tgt := 10) hx hb dX5_amount_6 (by decide) ?_
    obtain ⟨rfl⟩ := re1 hf
    exact hret _ _ _ _ _ rfl rfl hX dX5_amount_10
theorem mmX5_feed_1 : Cond.constantLong RX5 44 (127) ∈ wsX5_feed := List.mem_of_getElem? (i := 1) rfl
theorem mmX5_feed_2 : Cond.fieldLink RX5 50 "SlackArmsModel" "taped" "I" ∈ wsX5_feed := List.mem_of_getElem? (i := 2) rfl
theorem miX5_feed_X5 : ∀ w ∈ u_ws RX5 TX5 24, w ∈ wsX5_feed := fun w h => List.mem_cons_of_mem _ (List.mem_append_right _ h)
theorem mmX5_feed_3 : Cond.fieldLink RX5 16 "SlackArmsModel" "tape" "[I" ∈ wsX5_feed := List.mem_of_getElem? (i := 3) rfl
set_option maxHeartbeats 4000000 in
set_option maxRecDepth 100000 in
theorem kX5_feed (ad : xAd) (l : Launch) (D : va_G) (cI cB cZ cG cS : ClassId) (h0 h_state h_readPage h_tape h_ends h_letters h_seen h_lastBy h_isKept h_lanes h_lengths h_cells : Nat) (taped : Int32) (fault : Int32) (broken : Int32) (brokenAt : Int32) (spot : Int32) (here : Int32) (token : Int32) (value : Int32) (moved : Int32) (turned : Int32) (worst : Int32) (seenMany : Int32) (torn : Int32) (tape : (Nat → Int32)) (r0 : Int32) (o_taped' : Int32) (o_tape' : (Nat → Int32)) (p1 : Int32) (hf : fX5_feed p1 taped tape = some (r0, o_taped', o_tape')) : xMi ad l yX5_feed wsX5_feed ({ frames := 1, cells := 0, slots := 0, locals := 25 } : Room) D (xTY cI cB cZ cG cS) [.ref h0, .int p1] [(h0, .inr (5, [.ref h_state, .ref h_readPage, .ref h_tape, .int taped, .int fault, .int broken, .int brokenAt, .int spot, .int here, .int token, .int value, .ref h_ends, .ref h_letters, .int moved, .int turned, .int worst, .ref h_seen, .int seenMany, .ref h_lastBy, .ref h_isKept, .ref h_lanes, .ref h_lengths, .ref h_cells, .int torn])), (h_tape, .inl (cI, 160, .inl tape))] [(h0, .inr (5, [.ref h_state, .ref h_readPage, .ref h_tape, .int o_taped', .int fault, .int broken, .int brokenAt, .int spot, .int here, .int token, .int value, .ref h_ends, .ref h_letters, .int moved, .int turned, .int worst, .ref h_seen, .int seenMany, .ref h_lastBy, .ref h_isKept, .ref h_lanes, .ref h_lengths, .ref h_cells, .int torn])), (h_tape, .inl (cI, 160, .inl o_tape'))] r0 := by
  refine xMi_of (cc := cX5_feed) (maxL := 2) (ty := .int) (by decide) rfl (Nat.le_of_ble_eq_true rfl) ?_
  intro p e s m args below meth c A Q ls C hX hl hret
  have hx := C.1.1
  have hb := C.1.2.1
  have hl : lv_has ls 2 [(0, .ref h0), (1, .int p1)] := hl
  unfold fX5_feed at hf
  refine lv_iload_n (pc := 0) hx hb dX5_feed_0 rfl (lv_at hl 1 rfl) ?_
  refine lv_i2l (pc := 1) (v := ((p1).toInt64)) hx hb dX5_feed_1 rfl ?_
  refine lv_lconst (pc := 2) (v := 0) hx hb dX5_feed_2 (by decide) ?_
  refine lv_ldc2 (pc := 3) hx hb C.1.2.2.2.1 (C.1.2.2.2.2 _ mmX5_feed_1) dX5_feed_3 ?_
  obtain ⟨r1, g2, hf⟩ := cl1_adv hf
  refine x_callSi (pc := 6) (rest := []) C hX (kX5_in ad l D cI cB cZ cG cS r1 ((p1).toInt64) (0 : Int64) (127 : Int64) g2) (va_cwS 3 C.1.2.2.2.2 gX5_feed_X5_in rfl rfl rfl (by decide +kernel) ⟨Nat.le_of_ble_eq_true rfl, Nat.le_of_ble_eq_true rfl⟩) hl.1 rfl rfl (Nat.le_of_ble_eq_true rfl) dX5_feed_6 (fun H locs hX => ?_)
  refine lv_if_ne (pc := 9) (tgt := 14) hx hb dX5_feed_9 (by decide) (fun c3 => ?_) (fun c3 => ?_)
  · replace hf := ite_f c3 hf
    refine lv_aload_n (pc := 14) hx hb dX5_feed_14 rfl (lv_at hl 0 rfl) ?_
    refine x_getf (pc := 15) (Cn := RX5) (T := TX5) (N := 24) C hX 0 rfl rfl miX5_feed_X5 3 (by decide) mmX5_feed_2 rfl dX5_feed_15 ?_
    refine lv_sipush (pc := 18) (v := 160) hx hb dX5_feed_18 (by decide) ?_
    refine lv_icmp_ne (pc := 21) (tgt := 27) hx hb dX5_feed_21 (by decide) (fun c4 => ?_) (fun c4 => ?_)
    · replace hf := ite_f c4 hf
      refine lv_aload_n (pc := 27) hx hb dX5_feed_27 rfl (lv_at hl 0 rfl) ?_
      refine x_getf (pc := 28) (Cn := RX5) (T := TX5) (N := 24) C hX 0 rfl rfl miX5_feed_X5 2 (by decide) mmX5_feed_3 rfl dX5_feed_28 ?_
      refine lv_aload_n (pc := 31) hx hb dX5_feed_31 rfl (lv_at hl 0 rfl) ?_
      refine x_getf (pc := 32) (Cn := RX5) (T := TX5) (N := 24) C hX 0 rfl rfl miX5_feed_X5 3 (by decide) mmX5_feed_2 rfl dX5_feed_32 ?_
      refine lv_iload_n (pc := 35) hx hb dX5_feed_35 rfl (lv_at hl 1 rfl) ?_
      replace hf := chk_adv hf
      have i5 := hf.1
      replace hf := hf.2
      obtain ⟨f6, ef6⟩ : ∃ y : Nat → Int32, y = (upd tape (taped).toNatClampNeg p1) := ⟨_, rfl⟩
      replace hf := bnd_use ef6 hf
      refine x_iast (pc := 36) C hX 1 0 rfl rfl i5 [(h0, .inr (5, [.ref h_state, .ref h_readPage, .ref h_tape, .int taped, .int fault, .int broken, .int brokenAt, .int spot, .int here, .int token, .int value, .ref h_ends, .ref h_letters, .int moved, .int turned, .int worst, .ref h_seen, .int seenMany, .ref h_lastBy, .ref h_isKept, .ref h_lanes, .ref h_lengths, .ref h_cells, .int torn])), (h_tape, .inl (cI, 160, .inl f6))] (by subst ef6; rfl) dX5_feed_36 (fun H locs hX => ?_)
      refine lv_aload_n (pc := 37) hx hb dX5_feed_37 rfl (lv_at hl 0 rfl) ?_
      refine lv_dup (pc := 38) hx hb dX5_feed_38 rfl ?_
      refine x_getf (pc := 39) (Cn := RX5) (T := TX5) (N := 24) C hX 0 rfl rfl miX5_feed_X5 3 (by decide) mmX5_feed_2 rfl dX5_feed_39 ?_
      refine lv_iconst (pc := 42) (v := 1) hx hb dX5_feed_42 (by decide) ?_
      refine lv_iadd (pc := 43) hx hb dX5_feed_43 ?_
      refine lv_topi (fun v7 ev7 => ?_)
      replace hf := bnd_use ev7 hf
      refine x_putf (pc := 44) (Cn := RX5) (T := TX5) (N := 24) C hX tyX5 tyX5_ok nmX5 0 rfl rfl miX5_feed_X5 3 (by decide) mmX5_feed_2 rfl rfl (Nat.le_of_ble_eq_true rfl) [(h0, .inr (5, [.ref h_state, .ref h_readPage, .ref h_tape, .int v7, .int fault, .int broken, .int brokenAt, .int spot, .int here, .int token, .int value, .ref h_ends, .ref h_letters, .int moved, .int turned, .int worst, .ref h_seen, .int seenMany, .ref h_lastBy, .ref h_isKept, .ref h_lanes, .ref h_lengths, .ref h_cells, .int torn])), (h_tape, .inl (cI, 160, .inl f6))] rfl dX5_feed_44 (fun H locs hX => ?_)
      refine lv_aload_n (pc := 47) hx hb dX5_feed_47 rfl (lv_at hl 0 rfl) ?_
      refine x_getf (pc := 48) (Cn := RX5) (T := TX5) (N := 24) C hX 0 rfl rfl miX5_feed_X5 3 (by decide) mmX5_feed_2 rfl dX5_feed_48 ?_
      obtain ⟨rfl, rfl, rfl⟩ := re3 hf
      exact hret _ _ _ _ _ rfl rfl hX dX5_feed_51
    · replace hf := ite_t c4 hf
      refine lv_bipush (pc := 24) (v := -3) hx hb dX5_feed_24 (by decide) ?_
      obtain ⟨rfl, rfl, rfl⟩ := re3 hf
      exact hret _ _ _ _ _ rfl rfl hX dX5_feed_26
  · replace hf := ite_t c3 hf
    refine lv_iconst (pc := 12) (v := -1) hx hb dX5_feed_12 (by decide) ?_
    obtain ⟨rfl, rfl, rfl⟩ := re3 hf
    exact hret _ _ _ _ _ rfl rfl hX dX5_feed_13
theorem mmX5_end_1 : Cond.fieldLink RX5 50 "SlackArmsModel" "taped" "I" ∈ wsX5_end := List.mem_of_getElem? (i := 1) rfl
theorem miX5_end_X5 : ∀ w ∈ u_ws RX5 TX5 24, w ∈ wsX5_end := fun w h => List.mem_cons_of_mem _ (List.mem_append_right _ h)
set_option maxHeartbeats 4000000 in
set_option maxRecDepth 100000 in
theorem kX5_end (ad : xAd) (l : Launch) (D : va_G) (cI cB cZ cG cS : ClassId) (h0 h_state h_readPage h_tape h_ends h_letters h_seen h_lastBy h_isKept h_lanes h_lengths h_cells : Nat) (taped : Int32) (fault : Int32) (broken : Int32) (brokenAt : Int32) (spot : Int32) (here : Int32) (token : Int32) (value : Int32) (moved : Int32) (turned : Int32) (worst : Int32) (seenMany : Int32) (torn : Int32) (r0 : Int32) (o_taped' : Int32) (p1 : Int32) (hf : fX5_end p1 taped = some (r0, o_taped')) : xMi ad l yX5_end wsX5_end ({ frames := 1, cells := 0, slots := 0, locals := 25 } : Room) D (xTY cI cB cZ cG cS) [.ref h0, .int p1] [(h0, .inr (5, [.ref h_state, .ref h_readPage, .ref h_tape, .int taped, .int fault, .int broken, .int brokenAt, .int spot, .int here, .int token, .int value, .ref h_ends, .ref h_letters, .int moved, .int turned, .int worst, .ref h_seen, .int seenMany, .ref h_lastBy, .ref h_isKept, .ref h_lanes, .ref h_lengths, .ref h_cells, .int torn]))] [(h0, .inr (5, [.ref h_state, .ref h_readPage, .ref h_tape, .int o_taped', .int fault, .int broken, .int brokenAt, .int spot, .int here, .int token, .int value, .ref h_ends, .ref h_letters, .int moved, .int turned, .int worst, .ref h_seen, .int seenMany, .ref h_lastBy, .ref h_isKept, .ref h_lanes, .ref h_lengths, .ref h_cells, .int torn]))] r0 := by
  refine xMi_of (cc := cX5_end) (maxL := 3) (ty := .int) (by decide) rfl (Nat.le_of_ble_eq_true rfl) ?_
  intro p e s m args below meth c A Q ls C hX hl hret
  have hx := C.1.1
  have hb := C.1.2.1
  have hl : lv_has ls 3 [(0, .ref h0), (1, .int p1)] := hl
  unfold fX5_end at hf
  refine lv_iload_n (pc := 0) hx hb dX5_end_0 rfl (lv_at hl 1 rfl) ?_
  refine lv_i2l (pc := 1) (v := ((p1).toInt64)) hx hb dX5_end_1 rfl ?_
  refine lv_lconst (pc := 2) (v := 0) hx hb dX5_end_2 (by decide) ?_
  refine lv_aload_n (pc := 3) hx hb dX5_end_3 rfl (lv_at hl 0 rfl) ?_
  refine x_getf (pc := 4) (Cn := RX5) (T := TX5) (N := 24) C hX 0 rfl rfl miX5_end_X5 3 (by decide) mmX5_end_1 rfl dX5_end_4 ?_
  refine lv_i2l (pc := 7) (v := ((taped).toInt64)) hx hb dX5_end_7 rfl ?_
  obtain ⟨r1, g2, hf⟩ := cl1_adv hf
  refine x_callSi (pc := 8) (rest := []) C hX (kX5_in ad l D cI cB cZ cG cS r1 ((p1).toInt64) (0 : Int64) ((taped).toInt64) g2) (va_cwS 3 C.1.2.2.2.2 gX5_end_X5_in rfl rfl rfl (by decide +kernel) ⟨Nat.le_of_ble_eq_true rfl, Nat.le_of_ble_eq_true rfl⟩) hl.1 rfl rfl (Nat.le_of_ble_eq_true rfl) dX5_end_8 (fun H locs hX => ?_)
  refine lv_if_ne (pc := 11) (tgt := 16) hx hb dX5_end_11 (by decide) (fun c3 => ?_) (fun c3 => ?_)
  · replace hf := ite_f c3 hf
    refine lv_aload_n (pc := 16) hx hb dX5_end_16 rfl (lv_at hl 0 rfl) ?_
    refine x_getf (pc := 17) (Cn := RX5) (T := TX5) (N := 24) C hX 0 rfl rfl miX5_end_X5 3 (by decide) mmX5_end_1 rfl dX5_end_17 ?_
    refine lv_istore_n (pc := 20) (lv' := [(2, .int taped), (0, .ref h0), (1, .int p1)]) hx hb dX5_end_20 rfl hl (by decide) rfl (fun ls hl => ?_)
    refine lv_aload_n (pc := 21) hx hb dX5_end_21 rfl (lv_at hl 1 rfl) ?_
    refine lv_iload_n (pc := 22) hx hb dX5_end_22 rfl (lv_at hl 2 rfl) ?_
    refine x_putf (pc := 23) (Cn := RX5) (T := TX5) (N := 24) C hX tyX5 tyX5_ok nmX5 0 rfl rfl miX5_end_X5 3 (by decide) mmX5_end_1 rfl rfl (Nat.le_of_ble_eq_true rfl) [(h0, .inr (5, [.ref h_state, .ref h_readPage, .ref h_tape, .int p1, .int fault, .int broken, .int brokenAt, .int spot, .int here, .int token, .int value, .ref h_ends, .ref h_letters, .int moved, .int turned, .int worst, .ref h_seen, .int seenMany, .ref h_lastBy, .ref h_isKept, .ref h_lanes, .ref h_lengths, .ref h_cells, .int torn]))] rfl dX5_end_23 (fun H locs hX => ?_)
    refine lv_iload_n (pc := 26) hx hb dX5_end_26 rfl (lv_at hl 0 rfl) ?_
    obtain ⟨rfl, rfl⟩ := re2 hf
    exact hret _ _ _ _ _ rfl rfl hX dX5_end_27
  · replace hf := ite_t c3 hf
    refine lv_iconst (pc := 14) (v := -1) hx hb dX5_end_14 (by decide) ?_
    obtain ⟨rfl, rfl⟩ := re2 hf
    exact hret _ _ _ _ _ rfl rfl hX dX5_end_15
theorem mmX5_byteAt_1 : Cond.fieldLink RX5 50 "SlackArmsModel" "taped" "I" ∈ wsX5_byteAt := List.mem_of_getElem? (i := 1) rfl
theorem miX5_byteAt_X5 : ∀ w ∈ u_ws RX5 TX5 24, w ∈ wsX5_byteAt := fun w h => List.mem_cons_of_mem _ (List.mem_append_right _ h)
theorem mmX5_byteAt_2 : Cond.fieldLink RX5 16 "SlackArmsModel" "tape" "[I" ∈ wsX5_byteAt := List.mem_of_getElem? (i := 2) rfl
set_option maxHeartbeats 4000000 in
set_option maxRecDepth 100000 in
theorem kX5_byteAt (ad : xAd) (l : Launch) (D : va_G) (cI cB cZ cG cS : ClassId) (h0 h_state h_readPage h_tape h_ends h_letters h_seen h_lastBy h_isKept h_lanes h_lengths h_cells : Nat) (taped : Int32) (fault : Int32) (broken : Int32) (brokenAt : Int32) (spot : Int32) (here : Int32) (token : Int32) (value : Int32) (moved : Int32) (turned : Int32) (worst : Int32) (seenMany : Int32) (torn : Int32) (tape : (Nat → Int32)) (r0 : Int32) (p1 : Int32) (hf : fX5_byteAt p1 taped tape = some r0) : xMi ad l yX5_byteAt wsX5_byteAt ({ frames := 0, cells := 0, slots := 0, locals := 0 } : Room) D (xTY cI cB cZ cG cS) [.ref h0, .int p1] [(h0, .inr (5, [.ref h_state, .ref h_readPage, .ref h_tape, .int taped, .int fault, .int broken, .int brokenAt, .int spot, .int here, .int token, .int value, .ref h_ends, .ref h_letters, .int moved, .int turned, .int worst, .ref h_seen, .int seenMany, .ref h_lastBy, .ref h_isKept, .ref h_lanes, .ref h_lengths, .ref h_cells, .int torn])), (h_tape, .inl (cI, 160, .inl tape))] [(h0, .inr (5, [.ref h_state, .ref h_readPage, .ref h_tape, .int taped, .int fault, .int broken, .int brokenAt, .int spot, .int here, .int token, .int value, .ref h_ends, .ref h_letters, .int moved, .int turned, .int worst, .ref h_seen, .int seenMany, .ref h_lastBy, .ref h_isKept, .ref h_lanes, .ref h_lengths, .ref h_cells, .int torn])), (h_tape, .inl (cI, 160, .inl tape))] r0 := by
  refine xMi_of (cc := cX5_byteAt) (maxL := 2) (ty := .int) (by decide) rfl (Nat.le_of_ble_eq_true rfl) ?_
  intro p e s m args below meth c A Q ls C hX hl hret
  have hx := C.1.1
  have hb := C.1.2.1
  have hl : lv_has ls 2 [(0, .ref h0), (1, .int p1)] := hl
  unfold fX5_byteAt at hf
  refine lv_iload_n (pc := 0) hx hb dX5_byteAt_0 rfl (lv_at hl 1 rfl) ?_
  refine lv_aload_n (pc := 1) hx hb dX5_byteAt_1 rfl (lv_at hl 0 rfl) ?_
  refine x_getf (pc := 2) (Cn := RX5) (T := TX5) (N := 24) C hX 0 rfl rfl miX5_byteAt_X5 3 (by decide) mmX5_byteAt_1 rfl dX5_byteAt_2 ?_
  refine lv_icmp_ge (pc := 5) (tgt := 17) hx hb dX5_byteAt_5 (by decide) (fun c1 => ?_) (fun c1 => ?_)
  · replace hf := ite_t c1 hf
    refine lv_bipush (pc := 17) (v := -4) hx hb dX5_byteAt_17 (by decide) ?_
    obtain ⟨rfl⟩ := re1 hf
    exact hret _ _ _ _ _ rfl rfl hX dX5_byteAt_19
  · replace hf := ite_f c1 hf
    refine lv_aload_n (pc := 8) hx hb dX5_byteAt_8 rfl (lv_at hl 0 rfl) ?_
    refine x_getf (pc := 9) (Cn := RX5) (T := TX5) (N := 24) C hX 0 rfl rfl miX5_byteAt_X5 2 (by decide) mmX5_byteAt_2 rfl dX5_byteAt_9 ?_
    refine lv_iload_n (pc := 12) hx hb dX5_byteAt_12 rfl (lv_at hl 1 rfl) ?_
    replace hf := chk_adv hf
    have i2 := hf.1
    replace hf := hf.2
    refine x_iald (pc := 13) C hX 1 0 rfl rfl i2 dX5_byteAt_13 ?_
    refine lv_goto (pc := 14) (tgt := 19) hx hb dX5_byteAt_14 (by decide) ?_
    obtain ⟨rfl⟩ := re1 hf
    exact hret _ _ _ _ _ rfl rfl hX dX5_byteAt_19
theorem mmX5_fails_1 : Cond.fieldLink RX5 54 "SlackArmsModel" "broken" "I" ∈ wsX5_fails := List.mem_of_getElem? (i := 1) rfl
theorem miX5_fails_X5 : ∀ w ∈ u_ws RX5 TX5 24, w ∈ wsX5_fails := fun w h => List.mem_cons_of_mem _ (List.mem_append_right _ h)
theorem mmX5_fails_2 : Cond.fieldLink RX5 57 "SlackArmsModel" "here" "I" ∈ wsX5_fails := List.mem_of_getElem? (i := 2) rfl
theorem mmX5_fails_3 : Cond.fieldLink RX5 60 "SlackArmsModel" "brokenAt" "I" ∈ wsX5_fails := List.mem_of_getElem? (i := 3) rfl
set_option maxHeartbeats 4000000 in
set_option maxRecDepth 100000 in
theorem kX5_fails (ad : xAd) (l : Launch) (D : va_G) (cI cB cZ cG cS : ClassId) (h0 h_state h_readPage h_tape h_ends h_letters h_seen h_lastBy h_isKept h_lanes h_lengths h_cells : Nat) (taped : Int32) (fault : Int32) (broken : Int32) (brokenAt : Int32) (spot : Int32) (here : Int32) (token : Int32) (value : Int32) (moved : Int32) (turned : Int32) (worst : Int32) (seenMany : Int32) (torn : Int32) (o_broken' : Int32) (o_brokenAt' : Int32) (p1 : Int32) (hf : fX5_fails p1 broken brokenAt here = some (o_broken', o_brokenAt')) : xMv ad l yX5_fails wsX5_fails ({ frames := 0, cells := 0, slots := 0, locals := 0 } : Room) D (xTY cI cB cZ cG cS) [.ref h0, .int p1] [(h0, .inr (5, [.ref h_state, .ref h_readPage, .ref h_tape, .int taped, .int fault, .int broken, .int brokenAt, .int spot, .int here, .int token, .int value, .ref h_ends, .ref h_letters, .int moved, .int turned, .int worst, .ref h_seen, .int seenMany, .ref h_lastBy, .ref h_isKept, .ref h_lanes, .ref h_lengths, .ref h_cells, .int torn]))] [(h0, .inr (5, [.ref h_state, .ref h_readPage, .ref h_tape, .int taped, .int fault, .int o_broken', .int o_brokenAt', .int spot, .int here, .int token, .int value, .ref h_ends, .ref h_letters, .int moved, .int turned, .int worst, .ref h_seen, .int seenMany, .ref h_lastBy, .ref h_isKept, .ref h_lanes, .ref h_lengths, .ref h_cells, .int torn]))] := by
  refine xMv_of (cc := cX5_fails) (maxL := 2) (by decide) rfl (Nat.le_of_ble_eq_true rfl) ?_
  intro p e s m args below meth c A Q ls C hX hl hret
  have hx := C.1.1
  have hb := C.1.2.1
  have hl : lv_has ls 2 [(0, .ref h0), (1, .int p1)] := hl
  unfold fX5_fails at hf
  refine lv_aload_n (pc := 0) hx hb dX5_fails_0 rfl (lv_at hl 0 rfl) ?_
  refine x_getf (pc := 1) (Cn := RX5) (T := TX5) (N := 24) C hX 0 rfl rfl miX5_fails_X5 5 (by decide) mmX5_fails_1 rfl dX5_fails_1 ?_
  refine lv_if_ne (pc := 4) (tgt := 20) hx hb dX5_fails_4 (by decide) (fun c1 => ?_) (fun c1 => ?_)
  · replace hf := ite_f c1 hf
    obtain ⟨rfl, rfl⟩ := re2 hf
    exact hret _ _ _ _ hX dX5_fails_20
  · replace hf := ite_t c1 hf
    refine lv_aload_n (pc := 7) hx hb dX5_fails_7 rfl (lv_at hl 0 rfl) ?_
    refine lv_iload_n (pc := 8) hx hb dX5_fails_8 rfl (lv_at hl 1 rfl) ?_
    refine x_putf (pc := 9) (Cn := RX5) (T := TX5) (N := 24) C hX tyX5 tyX5_ok nmX5 0 rfl rfl miX5_fails_X5 5 (by decide) mmX5_fails_1 rfl rfl (Nat.le_of_ble_eq_true rfl) [(h0, .inr (5, [.ref h_state, .ref h_readPage, .ref h_tape, .int taped, .int fault, .int p1, .int brokenAt, .int spot, .int here, .int token, .int value, .ref h_ends, .ref h_letters, .int moved, .int turned, .int worst, .ref h_seen, .int seenMany, .ref h_lastBy, .ref h_isKept, .ref h_lanes, .ref h_lengths, .ref h_cells, .int torn]))] rfl dX5_fails_9 (fun H locs hX => ?_)
    refine lv_aload_n (pc := 12) hx hb dX5_fails_12 rfl (lv_at hl 0 rfl) ?_
    refine lv_aload_n (pc := 13) hx hb dX5_fails_13 rfl (lv_at hl 0 rfl) ?_
    refine x_getf (pc := 14) (Cn := RX5) (T := TX5) (N := 24) C hX 0 rfl rfl miX5_fails_X5 8 (by decide) mmX5_fails_2 rfl dX5_fails_14 ?_
    refine x_putf (pc := 17) (Cn := RX5) (T := TX5) (N := 24) C hX tyX5 tyX5_ok nmX5 0 rfl rfl miX5_fails_X5 6 (by decide) mmX5_fails_3 rfl rfl (Nat.le_of_ble_eq_true rfl) [(h0, .inr (5, [.ref h_state, .ref h_readPage, .ref h_tape, .int taped, .int fault, .int p1, .int here, .int spot, .int here, .int token, .int value, .ref h_ends, .ref h_letters, .int moved, .int turned, .int worst, .ref h_seen, .int seenMany, .ref h_lastBy, .ref h_isKept, .ref h_lanes, .ref h_lengths, .ref h_cells, .int torn]))] rfl dX5_fails_17 (fun H locs hX => ?_)
    obtain ⟨rfl, rfl⟩ := re2 hf
    exact hret _ _ _ _ hX dX5_fails_20
theorem mmX5_nameHere_1 : Cond.fieldLink RX5 63 "SlackArmsModel" "token" "I" ∈ wsX5_nameHere := List.mem_of_getElem? (i := 1) rfl
theorem miX5_nameHere_X5 : ∀ w ∈ u_ws RX5 TX5 24, w ∈ wsX5_nameHere := fun w h => List.mem_cons_of_mem _ (List.mem_append_right _ h)
theorem mmX5_nameHere_2 : Cond.fieldLink RX5 66 "SlackArmsModel" "spot" "I" ∈ wsX5_nameHere := List.mem_of_getElem? (i := 2) rfl
theorem mmX5_nameHere_3 : Cond.fieldLink RX5 57 "SlackArmsModel" "here" "I" ∈ wsX5_nameHere := List.mem_of_getElem? (i := 3) rfl
theorem mmX5_nameHere_4 : Cond.fieldLink RX5 19 "SlackArmsModel" "ends" "[I" ∈ wsX5_nameHere := List.mem_of_getElem? (i := 4) rfl
theorem mmX5_nameHere_5 : Cond.fieldLink RX5 22 "SlackArmsModel" "letters" "[I" ∈ wsX5_nameHere := List.mem_of_getElem? (i := 5) rfl
set_option maxHeartbeats 4000000 in
set_option maxRecDepth 100000 in
theorem kX5_nameHere (ad : xAd) (l : Launch) (D : va_G) (cI cB cZ cG cS : ClassId) (h0 h_state h_readPage h_tape h_ends h_letters h_seen h_lastBy h_isKept h_lanes h_lengths h_cells : Nat) (taped : Int32) (fault : Int32) (broken : Int32) (brokenAt : Int32) (spot : Int32) (here : Int32) (token : Int32) (value : Int32) (moved : Int32) (turned : Int32) (worst : Int32) (seenMany : Int32) (torn : Int32) (tape : (Nat → Int32)) (ends : (Nat → Int32)) (letters : (Nat → Int32)) (r0 : Int32)  (hf : fX5_nameHere  taped spot here token tape ends letters = some r0) : xMi ad l yX5_nameHere wsX5_nameHere ({ frames := 1, cells := 0, slots := 0, locals := 21 } : Room) D (xTY cI cB cZ cG cS) [.ref h0] [(h0, .inr (5, [.ref h_state, .ref h_readPage, .ref h_tape, .int taped, .int fault, .int broken, .int brokenAt, .int spot, .int here, .int token, .int value, .ref h_ends, .ref h_letters, .int moved, .int turned, .int worst, .ref h_seen, .int seenMany, .ref h_lastBy, .ref h_isKept, .ref h_lanes, .ref h_lengths, .ref h_cells, .int torn])), (h_tape, .inl (cI, 160, .inl tape)), (h_ends, .inl (cI, 7, .inl ends)), (h_letters, .inl (cI, 23, .inl letters))] [(h0, .inr (5, [.ref h_state, .ref h_readPage, .ref h_tape, .int taped, .int fault, .int broken, .int brokenAt, .int spot, .int here, .int token, .int value, .ref h_ends, .ref h_letters, .int moved, .int turned, .int worst, .ref h_seen, .int seenMany, .ref h_lastBy, .ref h_isKept, .ref h_lanes, .ref h_lengths, .ref h_cells, .int torn])), (h_tape, .inl (cI, 160, .inl tape)), (h_ends, .inl (cI, 7, .inl ends)), (h_letters, .inl (cI, 23, .inl letters))] r0 := by
  refine xMi_of (cc := cX5_nameHere) (maxL := 4) (ty := .int) (by decide) rfl (Nat.le_of_ble_eq_true rfl) ?_
  intro p e s m args below meth c A Q ls C hX hl hret
  have hx := C.1.1
  have hb := C.1.2.1
  have hl : lv_has ls 4 [(0, .ref h0)] := hl
  have L106 : ∀ (k2 : Int32 → Option (Int32)) (hk2 : ∀ (x1 : Int32) (H : Heap) (locs : List Loc) (ls : Array Slot), k2 x1 = some r0 → xSt A s D [(h0, .inr (5, [.ref h_state, .ref h_readPage, .ref h_tape, .int taped, .int fault, .int broken, .int brokenAt, .int spot, .int here, .int token, .int value, .ref h_ends, .ref h_letters, .int moved, .int turned, .int worst, .ref h_seen, .int seenMany, .ref h_lastBy, .ref h_isKept, .ref h_lanes, .ref h_lengths, .ref h_cells, .int torn])), (h_tape, .inl (cI, 160, .inl tape)), (h_ends, .inl (cI, 7, .inl ends)), (h_letters, .inl (cI, 23, .inl letters))] H locs → lv_has ls 4 [(0, .ref h0), (1, .int x1)] → W p l e ({ frames := 1, cells := 0, slots := 0, locals := 21 } : Room) s m args below meth c H locs 0 0 Q (F0 m 2 ls [])), ∀ (x1 : Int32) (x2 : Int32) (H : Heap) (locs : List Loc) (ls : Array Slot), fX5_nameHere_L106 taped spot here token tape ends letters k2 x1 x2 = some r0 → xSt A s D [(h0, .inr (5, [.ref h_state, .ref h_readPage, .ref h_tape, .int taped, .int fault, .int broken, .int brokenAt, .int spot, .int here, .int token, .int value, .ref h_ends, .ref h_letters, .int moved, .int turned, .int worst, .ref h_seen, .int seenMany, .ref h_lastBy, .ref h_isKept, .ref h_lanes, .ref h_lengths, .ref h_cells, .int torn])), (h_tape, .inl (cI, 160, .inl tape)), (h_ends, .inl (cI, 7, .inl ends)), (h_letters, .inl (cI, 23, .inl letters))] H locs → lv_has ls 4 [(0, .ref h0), (1, .int x1), (2, .int x2)] → W p l e ({ frames := 1, cells := 0, slots := 0, locals := 21 } : Room) s m args below meth c H locs 0 0 Q (F0 m 106 ls []) := by
    intro k2 hk2 x1 x2 H locs ls hf hX hl
    unfold fX5_nameHere_L106 at hf
    refine lv_iload_n (pc := 106) hx hb dX5_nameHere_106 rfl (lv_at hl 2 rfl) ?_
    refine lv_if_eq (pc := 107) (tgt := 112) hx hb dX5_nameHere_107 (by decide) (fun c7 => ?_) (fun c7 => ?_)
    · replace hf := ite_t c7 hf
      obtain ⟨v8, ev8⟩ : ∃ y : Int32, y = (x1 + (1 : Int32)) := ⟨_, rfl⟩
      replace hf := bnd_use ev8 hf
      refine lv_iinc (pc := 112) (v := v8) (lv' := [(1, .int v8), (0, .ref h0), (2, .int x2)]) hx hb dX5_nameHere_112 hl (k := 1) rfl (by rw [ev8]; rfl) (by decide) rfl (fun ls hl => ?_)
      refine lv_goto (pc := 115) (tgt := 2) hx hb dX5_nameHere_115 (by decide) ?_
      exact hk2 v8 _ _ _ hf hX (lv_sub hl [1, 0] rfl)
    · replace hf := ite_f c7 hf
      refine lv_iload_n (pc := 110) hx hb dX5_nameHere_110 rfl (lv_at hl 1 rfl) ?_
      obtain ⟨rfl⟩ := re1 hf
      exact hret _ _ _ _ _ rfl rfl hX dX5_nameHere_111
  have L99 : ∀ (k2 : Int32 → Option (Int32)) (hk2 : ∀ (x1 : Int32) (H : Heap) (locs : List Loc) (ls : Array Slot), k2 x1 = some r0 → xSt A s D [(h0, .inr (5, [.ref h_state, .ref h_readPage, .ref h_tape, .int taped, .int fault, .int broken, .int brokenAt, .int spot, .int here, .int token, .int value, .ref h_ends, .ref h_letters, .int moved, .int turned, .int worst, .ref h_seen, .int seenMany, .ref h_lastBy, .ref h_isKept, .ref h_lanes, .ref h_lengths, .ref h_cells, .int torn])), (h_tape, .inl (cI, 160, .inl tape)), (h_ends, .inl (cI, 7, .inl ends)), (h_letters, .inl (cI, 23, .inl letters))] H locs → lv_has ls 4 [(0, .ref h0), (1, .int x1)] → W p l e ({ frames := 1, cells := 0, slots := 0, locals := 21 } : Room) s m args below meth c H locs 0 0 Q (F0 m 2 ls [])) (k51 : Int32 → Int32 → Int32 → Option (Int32)) (hk51 : ∀ (x1 : Int32) (x2 : Int32) (x3 : Int32) (H : Heap) (locs : List Loc) (ls : Array Slot), k51 x1 x2 x3 = some r0 → xSt A s D [(h0, .inr (5, [.ref h_state, .ref h_readPage, .ref h_tape, .int taped, .int fault, .int broken, .int brokenAt, .int spot, .int here, .int token, .int value, .ref h_ends, .ref h_letters, .int moved, .int turned, .int worst, .ref h_seen, .int seenMany, .ref h_lastBy, .ref h_isKept, .ref h_lanes, .ref h_lengths, .ref h_cells, .int torn])), (h_tape, .inl (cI, 160, .inl tape)), (h_ends, .inl (cI, 7, .inl ends)), (h_letters, .inl (cI, 23, .inl letters))] H locs → lv_has ls 4 [(0, .ref h0), (1, .int x1), (2, .int x2), (3, .int x3)] → W p l e ({ frames := 1, cells := 0, slots := 0, locals := 21 } : Room) s m args below meth c H locs 0 0 Q (F0 m 51 ls [])), ∀ (x1 : Int32) (x3 : Int32) (y0 : Int32) (H : Heap) (locs : List Loc) (ls : Array Slot), fX5_nameHere_L99 taped spot here token tape ends letters k2 k51 x1 x3 y0 = some r0 → xSt A s D [(h0, .inr (5, [.ref h_state, .ref h_readPage, .ref h_tape, .int taped, .int fault, .int broken, .int brokenAt, .int spot, .int here, .int token, .int value, .ref h_ends, .ref h_letters, .int moved, .int turned, .int worst, .ref h_seen, .int seenMany, .ref h_lastBy, .ref h_isKept, .ref h_lanes, .ref h_lengths, .ref h_cells, .int torn])), (h_tape, .inl (cI, 160, .inl tape)), (h_ends, .inl (cI, 7, .inl ends)), (h_letters, .inl (cI, 23, .inl letters))] H locs → lv_has ls 4 [(0, .ref h0), (1, .int x1), (3, .int x3)] → W p l e ({ frames := 1, cells := 0, slots := 0, locals := 21 } : Room) s m args below meth c H locs 0 0 Q (F0 m 99 ls [.int y0]) := by
    intro k2 hk2 k51 hk51 x1 x3 y0 H locs ls hf hX hl
    unfold fX5_nameHere_L99 at hf
    refine lv_istore_n (pc := 99) (lv' := [(2, .int y0), (0, .ref h0), (1, .int x1), (3, .int x3)]) hx hb dX5_nameHere_99 rfl hl (by decide) rfl (fun ls hl => ?_)
    obtain ⟨v15, ev15⟩ : ∃ y : Int32, y = (x3 + (1 : Int32)) := ⟨_, rfl⟩
    replace hf := bnd_use ev15 hf
    refine lv_iinc (pc := 100) (v := v15) (lv' := [(3, .int v15), (2, .int y0), (0, .ref h0), (1, .int x1)]) hx hb dX5_nameHere_100 hl (k := 3) rfl (by rw [ev15]; rfl) (by decide) rfl (fun ls hl => ?_)
    refine lv_goto (pc := 103) (tgt := 51) hx hb dX5_nameHere_103 (by decide) ?_
    exact hk51 x1 y0 v15 _ _ _ hf hX (lv_sub hl [2, 3, 1, 0] rfl)
  have L51 : ∀ (k2 : Int32 → Option (Int32)) (hk2 : ∀ (x1 : Int32) (H : Heap) (locs : List Loc) (ls : Array Slot), k2 x1 = some r0 → xSt A s D [(h0, .inr (5, [.ref h_state, .ref h_readPage, .ref h_tape, .int taped, .int fault, .int broken, .int brokenAt, .int spot, .int here, .int token, .int value, .ref h_ends, .ref h_letters, .int moved, .int turned, .int worst, .ref h_seen, .int seenMany, .ref h_lastBy, .ref h_isKept, .ref h_lanes, .ref h_lengths, .ref h_cells, .int torn])), (h_tape, .inl (cI, 160, .inl tape)), (h_ends, .inl (cI, 7, .inl ends)), (h_letters, .inl (cI, 23, .inl letters))] H locs → lv_has ls 4 [(0, .ref h0), (1, .int x1)] → W p l e ({ frames := 1, cells := 0, slots := 0, locals := 21 } : Room) s m args below meth c H locs 0 0 Q (F0 m 2 ls [])) (n : Nat), ∀ (x1 : Int32) (x2 : Int32) (x3 : Int32) (H : Heap) (locs : List Loc) (ls : Array Slot), fX5_nameHere_L51 taped spot here token tape ends letters k2 n x1 x2 x3 = some r0 → xSt A s D [(h0, .inr (5, [.ref h_state, .ref h_readPage, .ref h_tape, .int taped, .int fault, .int broken, .int brokenAt, .int spot, .int here, .int token, .int value, .ref h_ends, .ref h_letters, .int moved, .int turned, .int worst, .ref h_seen, .int seenMany, .ref h_lastBy, .ref h_isKept, .ref h_lanes, .ref h_lengths, .ref h_cells, .int torn])), (h_tape, .inl (cI, 160, .inl tape)), (h_ends, .inl (cI, 7, .inl ends)), (h_letters, .inl (cI, 23, .inl letters))] H locs → lv_has ls 4 [(0, .ref h0), (1, .int x1), (2, .int x2), (3, .int x3)] → W p l e ({ frames := 1, cells := 0, slots := 0, locals := 21 } : Room) s m args below meth c H locs 0 0 Q (F0 m 51 ls []) := by
    intro k2 hk2
    intro n
    induction n with
    | zero =>
      intro x1 x2 x3 H locs ls hf
      rw [fX5_nameHere_L51] at hf
      cases hf
    | succ n ih =>
      intro x1 x2 x3 H locs ls hf hX hl
      rw [fX5_nameHere_L51] at hf
      refine lv_iload_n (pc := 51) hx hb dX5_nameHere_51 rfl (lv_at hl 2 rfl) ?_
      refine lv_if_eq (pc := 52) (tgt := 106) hx hb dX5_nameHere_52 (by decide) (fun c6 => ?_) (fun c6 => ?_)
      · replace hf := ite_t c6 hf
        exact L106 (k2) hk2 x1 x2 _ _ _ hf hX (lv_sub hl [0, 1, 2] rfl)
      · replace hf := ite_f c6 hf
        refine lv_iload_n (pc := 55) hx hb dX5_nameHere_55 rfl (lv_at hl 3 rfl) ?_
        refine lv_aload_n (pc := 56) hx hb dX5_nameHere_56 rfl (lv_at hl 0 rfl) ?_
        refine x_getf (pc := 57) (Cn := RX5) (T := TX5) (N := 24) C hX 0 rfl rfl miX5_nameHere_X5 7 (by decide) mmX5_nameHere_2 rfl dX5_nameHere_57 ?_
        refine lv_aload_n (pc := 60) hx hb dX5_nameHere_60 rfl (lv_at hl 0 rfl) ?_
        refine x_getf (pc := 61) (Cn := RX5) (T := TX5) (N := 24) C hX 0 rfl rfl miX5_nameHere_X5 8 (by decide) mmX5_nameHere_3 rfl dX5_nameHere_61 ?_
        refine lv_isub (pc := 64) hx hb dX5_nameHere_64 ?_
        refine lv_icmp_ge (pc := 65) (tgt := 106) hx hb dX5_nameHere_65 (by decide) (fun c9 => ?_) (fun c9 => ?_)
        · replace hf := ite_t c9 hf
          exact L106 (k2) hk2 x1 x2 _ _ _ hf hX (lv_sub hl [0, 1, 2] rfl)
        · replace hf := ite_f c9 hf
          refine lv_aload_n (pc := 68) hx hb dX5_nameHere_68 rfl (lv_at hl 0 rfl) ?_
          refine lv_aload_n (pc := 69) hx hb dX5_nameHere_69 rfl (lv_at hl 0 rfl) ?_
          refine x_getf (pc := 70) (Cn := RX5) (T := TX5) (N := 24) C hX 0 rfl rfl miX5_nameHere_X5 8 (by decide) mmX5_nameHere_3 rfl dX5_nameHere_70 ?_
          refine lv_iload_n (pc := 73) hx hb dX5_nameHere_73 rfl (lv_at hl 3 rfl) ?_
          refine lv_iadd (pc := 74) hx hb dX5_nameHere_74 ?_
          obtain ⟨r10, g11, hf⟩ := cl1_adv hf
          refine x_callVi (pc := 75) (rest := []) (w2 := [(h0, .inr (5, [.ref h_state, .ref h_readPage, .ref h_tape, .int taped, .int fault, .int broken, .int brokenAt, .int spot, .int here, .int token, .int value, .ref h_ends, .ref h_letters, .int moved, .int turned, .int worst, .ref h_seen, .int seenMany, .ref h_lastBy, .ref h_isKept, .ref h_lanes, .ref h_lengths, .ref h_cells, .int torn])), (h_tape, .inl (cI, 160, .inl tape)), (h_ends, .inl (cI, 7, .inl ends)), (h_letters, .inl (cI, 23, .inl letters))]) C hX (kX5_byteAt ad l D cI cB cZ cG cS h0 h_state h_readPage h_tape h_ends h_letters h_seen h_lastBy h_isKept h_lanes h_lengths h_cells taped fault broken brokenAt spot here token value moved turned worst seenMany torn tape r10 (here + x3) g11) (cwV 1 C.1.2.2.2.2 gX5_nameHere_X5_byteAt rfl rfl rfl (by decide +kernel) ⟨Nat.le_of_ble_eq_true rfl, Nat.le_of_ble_eq_true rfl⟩) [0, 1] [2, 3] [2, 3, 0, 1] rfl rfl rfl rfl (by decide) rfl rfl 0 rfl rfl rfl hl.1 rfl rfl (Nat.le_of_ble_eq_true rfl) dX5_nameHere_75 (fun H locs hX => ?_)
          refine lv_aload_n (pc := 78) hx hb dX5_nameHere_78 rfl (lv_at hl 0 rfl) ?_
          refine x_getf (pc := 79) (Cn := RX5) (T := TX5) (N := 24) C hX 0 rfl rfl miX5_nameHere_X5 12 (by decide) mmX5_nameHere_5 rfl dX5_nameHere_79 ?_
          refine lv_aload_n (pc := 82) hx hb dX5_nameHere_82 rfl (lv_at hl 0 rfl) ?_
          refine x_getf (pc := 83) (Cn := RX5) (T := TX5) (N := 24) C hX 0 rfl rfl miX5_nameHere_X5 11 (by decide) mmX5_nameHere_4 rfl dX5_nameHere_83 ?_
          refine lv_iload_n (pc := 86) hx hb dX5_nameHere_86 rfl (lv_at hl 1 rfl) ?_
          replace hf := chk_adv hf
          have i12 := hf.1
          replace hf := hf.2
          refine x_iald (pc := 87) C hX 2 0 rfl rfl i12 dX5_nameHere_87 ?_
          refine lv_iload_n (pc := 88) hx hb dX5_nameHere_88 rfl (lv_at hl 3 rfl) ?_
          refine lv_iadd (pc := 89) hx hb dX5_nameHere_89 ?_
          replace hf := chk_adv hf
          have i13 := hf.1
          replace hf := hf.2
          refine x_iald (pc := 90) C hX 3 0 rfl rfl i13 dX5_nameHere_90 ?_
          refine lv_icmp_ne (pc := 91) (tgt := 98) hx hb dX5_nameHere_91 (by decide) (fun c14 => ?_) (fun c14 => ?_)
          · replace hf := ite_f c14 hf
            refine lv_iconst (pc := 98) (v := 0) hx hb dX5_nameHere_98 (by decide) ?_
            exact L99 (k2) hk2 (fX5_nameHere_L51 taped spot here token tape ends letters k2 n) ih x1 x3 (0 : Int32) _ _ _ hf hX (lv_sub hl [0, 1, 3] rfl)
          · replace hf := ite_t c14 hf
            refine lv_iconst (pc := 94) (v := 1) hx hb dX5_nameHere_94 (by decide) ?_
            refine lv_goto (pc := 95) (tgt := 99) hx hb dX5_nameHere_95 (by decide) ?_
            exact L99 (k2) hk2 (fX5_nameHere_L51 taped spot here token tape ends letters k2 n) ih x1 x3 (1 : Int32) _ _ _ hf hX (lv_sub hl [0, 1, 3] rfl)
  have L48 : ∀ (k2 : Int32 → Option (Int32)) (hk2 : ∀ (x1 : Int32) (H : Heap) (locs : List Loc) (ls : Array Slot), k2 x1 = some r0 → xSt A s D [(h0, .inr (5, [.ref h_state, .ref h_readPage, .ref h_tape, .int taped, .int fault, .int broken, .int brokenAt, .int spot, .int here, .int token, .int value, .ref h_ends, .ref h_letters, .int moved, .int turned, .int worst, .ref h_seen, .int seenMany, .ref h_lastBy, .ref h_isKept, .ref h_lanes, .ref h_lengths, .ref h_cells, .int torn])), (h_tape, .inl (cI, 160, .inl tape)), (h_ends, .inl (cI, 7, .inl ends)), (h_letters, .inl (cI, 23, .inl letters))] H locs → lv_has ls 4 [(0, .ref h0), (1, .int x1)] → W p l e ({ frames := 1, cells := 0, slots := 0, locals := 21 } : Room) s m args below meth c H locs 0 0 Q (F0 m 2 ls [])), ∀ (x1 : Int32) (y0 : Int32) (H : Heap) (locs : List Loc) (ls : Array Slot), fX5_nameHere_L48 taped spot here token tape ends letters k2 x1 y0 = some r0 → xSt A s D [(h0, .inr (5, [.ref h_state, .ref h_readPage, .ref h_tape, .int taped, .int fault, .int broken, .int brokenAt, .int spot, .int here, .int token, .int value, .ref h_ends, .ref h_letters, .int moved, .int turned, .int worst, .ref h_seen, .int seenMany, .ref h_lastBy, .ref h_isKept, .ref h_lanes, .ref h_lengths, .ref h_cells, .int torn])), (h_tape, .inl (cI, 160, .inl tape)), (h_ends, .inl (cI, 7, .inl ends)), (h_letters, .inl (cI, 23, .inl letters))] H locs → lv_has ls 4 [(0, .ref h0), (1, .int x1)] → W p l e ({ frames := 1, cells := 0, slots := 0, locals := 21 } : Room) s m args below meth c H locs 0 0 Q (F0 m 48 ls [.int y0]) := by
    intro k2 hk2 x1 y0 H locs ls hf hX hl
    unfold fX5_nameHere_L48 at hf
    refine lv_istore_n (pc := 48) (lv' := [(2, .int y0), (0, .ref h0), (1, .int x1)]) hx hb dX5_nameHere_48 rfl hl (by decide) rfl (fun ls hl => ?_)
    refine lv_iconst (pc := 49) (v := 0) hx hb dX5_nameHere_49 (by decide) ?_
    refine lv_istore_n (pc := 50) (lv' := [(3, .int (0 : Int32)), (2, .int y0), (0, .ref h0), (1, .int x1)]) hx hb dX5_nameHere_50 rfl hl (by decide) rfl (fun ls hl => ?_)
    exact L51 (k2) hk2 xF x1 y0 (0 : Int32) _ _ _ hf hX (lv_sub hl [2, 3, 1, 0] rfl)
  have L2 : ∀ (n : Nat), ∀ (x1 : Int32) (H : Heap) (locs : List Loc) (ls : Array Slot), fX5_nameHere_L2 taped spot here token tape ends letters n x1 = some r0 → xSt A s D [(h0, .inr (5, [.ref h_state, .ref h_readPage, .ref h_tape, .int taped, .int fault, .int broken, .int brokenAt, .int spot, .int here, .int token, .int value, .ref h_ends, .ref h_letters, .int moved, .int turned, .int worst, .ref h_seen, .int seenMany, .ref h_lastBy, .ref h_isKept, .ref h_lanes, .ref h_lengths, .ref h_cells, .int torn])), (h_tape, .inl (cI, 160, .inl tape)), (h_ends, .inl (cI, 7, .inl ends)), (h_letters, .inl (cI, 23, .inl letters))] H locs → lv_has ls 4 [(0, .ref h0), (1, .int x1)] → W p l e ({ frames := 1, cells := 0, slots := 0, locals := 21 } : Room) s m args below meth c H locs 0 0 Q (F0 m 2 ls []) := by
    intro n
    induction n with
    | zero =>
      intro x1 H locs ls hf
      rw [fX5_nameHere_L2] at hf
      cases hf
    | succ n ih =>
      intro x1 H locs ls hf hX hl
      rw [fX5_nameHere_L2] at hf
      refine lv_iload_n (pc := 2) hx hb dX5_nameHere_2 rfl (lv_at hl 1 rfl) ?_
      refine lv_bipush (pc := 3) (v := 6) hx hb dX5_nameHere_3 (by decide) ?_
      refine lv_icmp_ge (pc := 5) (tgt := 118) hx hb dX5_nameHere_5 (by decide) (fun c1 => ?_) (fun c1 => ?_)
      · replace hf := ite_t c1 hf
        refine lv_bipush (pc := 118) (v := -4) hx hb dX5_nameHere_118 (by decide) ?_
        obtain ⟨rfl⟩ := re1 hf
        exact hret _ _ _ _ _ rfl rfl hX dX5_nameHere_120
      · replace hf := ite_f c1 hf
        refine lv_aload_n (pc := 8) hx hb dX5_nameHere_8 rfl (lv_at hl 0 rfl) ?_
        refine x_getf (pc := 9) (Cn := RX5) (T := TX5) (N := 24) C hX 0 rfl rfl miX5_nameHere_X5 9 (by decide) mmX5_nameHere_1 rfl dX5_nameHere_9 ?_
        refine lv_iconst (pc := 12) (v := 1) hx hb dX5_nameHere_12 (by decide) ?_
        refine lv_icmp_ne (pc := 13) (tgt := 118) hx hb dX5_nameHere_13 (by decide) (fun c2 => ?_) (fun c2 => ?_)
        · replace hf := ite_f c2 hf
          refine lv_bipush (pc := 118) (v := -4) hx hb dX5_nameHere_118 (by decide) ?_
          obtain ⟨rfl⟩ := re1 hf
          exact hret _ _ _ _ _ rfl rfl hX dX5_nameHere_120
        · replace hf := ite_t c2 hf
          refine lv_aload_n (pc := 16) hx hb dX5_nameHere_16 rfl (lv_at hl 0 rfl) ?_
          refine x_getf (pc := 17) (Cn := RX5) (T := TX5) (N := 24) C hX 0 rfl rfl miX5_nameHere_X5 7 (by decide) mmX5_nameHere_2 rfl dX5_nameHere_17 ?_
          refine lv_aload_n (pc := 20) hx hb dX5_nameHere_20 rfl (lv_at hl 0 rfl) ?_
          refine x_getf (pc := 21) (Cn := RX5) (T := TX5) (N := 24) C hX 0 rfl rfl miX5_nameHere_X5 8 (by decide) mmX5_nameHere_3 rfl dX5_nameHere_21 ?_
          refine lv_isub (pc := 24) hx hb dX5_nameHere_24 ?_
          refine lv_aload_n (pc := 25) hx hb dX5_nameHere_25 rfl (lv_at hl 0 rfl) ?_
          refine x_getf (pc := 26) (Cn := RX5) (T := TX5) (N := 24) C hX 0 rfl rfl miX5_nameHere_X5 11 (by decide) mmX5_nameHere_4 rfl dX5_nameHere_26 ?_
          refine lv_iload_n (pc := 29) hx hb dX5_nameHere_29 rfl (lv_at hl 1 rfl) ?_
          refine lv_iconst (pc := 30) (v := 1) hx hb dX5_nameHere_30 (by decide) ?_
          refine lv_iadd (pc := 31) hx hb dX5_nameHere_31 ?_
          replace hf := chk_adv hf
          have i3 := hf.1
          replace hf := hf.2
          refine x_iald (pc := 32) C hX 2 0 rfl rfl i3 dX5_nameHere_32 ?_
          refine lv_aload_n (pc := 33) hx hb dX5_nameHere_33 rfl (lv_at hl 0 rfl) ?_
          refine x_getf (pc := 34) (Cn := RX5) (T := TX5) (N := 24) C hX 0 rfl rfl miX5_nameHere_X5 11 (by decide) mmX5_nameHere_4 rfl dX5_nameHere_34 ?_
          refine lv_iload_n (pc := 37) hx hb dX5_nameHere_37 rfl (lv_at hl 1 rfl) ?_
          replace hf := chk_adv hf
          have i4 := hf.1
          replace hf := hf.2
          refine x_iald (pc := 38) C hX 2 0 rfl rfl i4 dX5_nameHere_38 ?_
          refine lv_isub (pc := 39) hx hb dX5_nameHere_39 ?_
          refine lv_icmp_ne (pc := 40) (tgt := 47) hx hb dX5_nameHere_40 (by decide) (fun c5 => ?_) (fun c5 => ?_)
          · replace hf := ite_f c5 hf
            refine lv_iconst (pc := 47) (v := 0) hx hb dX5_nameHere_47 (by decide) ?_
            exact L48 (fX5_nameHere_L2 taped spot here token tape ends letters n) ih x1 (0 : Int32) _ _ _ hf hX (lv_sub hl [0, 1] rfl)
          · replace hf := ite_t c5 hf
            refine lv_iconst (pc := 43) (v := 1) hx hb dX5_nameHere_43 (by decide) ?_
            refine lv_goto (pc := 44) (tgt := 48) hx hb dX5_nameHere_44 (by decide) ?_
            exact L48 (fX5_nameHere_L2 taped spot here token tape ends letters n) ih x1 (1 : Int32) _ _ _ hf hX (lv_sub hl [0, 1] rfl)
  unfold fX5_nameHere at hf
  refine lv_iconst (pc := 0) (v := 0) hx hb dX5_nameHere_0 (by decide) ?_
  refine lv_istore_n (pc := 1) (lv' := [(1, .int (0 : Int32)), (0, .ref h0)]) hx hb dX5_nameHere_1 rfl hl (by decide) rfl (fun ls hl => ?_)
  exact L2  xF (0 : Int32) _ _ _ hf hX (lv_sub hl [1, 0] rfl)
theorem mmX5_readsOn_1 : Cond.fieldLink RX5 54 "SlackArmsModel" "broken" "I" ∈ wsX5_readsOn := List.mem_of_getElem? (i := 1) rfl
theorem miX5_readsOn_X5 : ∀ w ∈ u_ws RX5 TX5 24, w ∈ wsX5_readsOn := fun w h => List.mem_cons_of_mem _ (List.mem_append_right _ h)
theorem mmX5_readsOn_2 : Cond.fieldLink RX5 66 "SlackArmsModel" "spot" "I" ∈ wsX5_readsOn := List.mem_of_getElem? (i := 2) rfl
theorem mmX5_readsOn_3 : Cond.fieldLink RX5 57 "SlackArmsModel" "here" "I" ∈ wsX5_readsOn := List.mem_of_getElem? (i := 3) rfl
theorem mmX5_readsOn_4 : Cond.fieldLink RX5 73 "SlackArmsModel" "value" "I" ∈ wsX5_readsOn := List.mem_of_getElem? (i := 4) rfl
theorem mmX5_readsOn_6 : Cond.constantLong RX5 76 (97) ∈ wsX5_readsOn := List.mem_of_getElem? (i := 6) rfl
theorem mmX5_readsOn_7 : Cond.constantLong RX5 78 (122) ∈ wsX5_readsOn := List.mem_of_getElem? (i := 7) rfl
theorem mmX5_readsOn_8 : Cond.constantLong RX5 80 (48) ∈ wsX5_readsOn := List.mem_of_getElem? (i := 8) rfl
theorem mmX5_readsOn_9 : Cond.constantLong RX5 82 (57) ∈ wsX5_readsOn := List.mem_of_getElem? (i := 9) rfl
theorem mmX5_readsOn_5 : Cond.fieldLink RX5 63 "SlackArmsModel" "token" "I" ∈ wsX5_readsOn := List.mem_of_getElem? (i := 5) rfl
set_option maxHeartbeats 4000000 in
set_option maxRecDepth 100000 in
theorem kX5_readsOn (ad : xAd) (l : Launch) (D : va_G) (cI cB cZ cG cS : ClassId) (h0 h_state h_readPage h_tape h_ends h_letters h_seen h_lastBy h_isKept h_lanes h_lengths h_cells : Nat) (taped : Int32) (fault : Int32) (broken : Int32) (brokenAt : Int32) (spot : Int32) (here : Int32) (token : Int32) (value : Int32) (moved : Int32) (turned : Int32) (worst : Int32) (seenMany : Int32) (torn : Int32) (tape : (Nat → Int32)) (o_broken' : Int32) (o_brokenAt' : Int32) (o_spot' : Int32) (o_here' : Int32) (o_token' : Int32) (o_value' : Int32)  (hf : fX5_readsOn  taped broken brokenAt spot here token value tape = some (o_broken', o_brokenAt', o_spot', o_here', o_token', o_value')) : xMv ad l yX5_readsOn wsX5_readsOn ({ frames := 1, cells := 0, slots := 0, locals := 25 } : Room) D (xTY cI cB cZ cG cS) [.ref h0] [(h0, .inr (5, [.ref h_state, .ref h_readPage, .ref h_tape, .int taped, .int fault, .int broken, .int brokenAt, .int spot, .int here, .int token, .int value, .ref h_ends, .ref h_letters, .int moved, .int turned, .int worst, .ref h_seen, .int seenMany, .ref h_lastBy, .ref h_isKept, .ref h_lanes, .ref h_lengths, .ref h_cells, .int torn])), (h_tape, .inl (cI, 160, .inl tape))] [(h0, .inr (5, [.ref h_state, .ref h_readPage, .ref h_tape, .int taped, .int fault, .int o_broken', .int o_brokenAt', .int o_spot', .int o_here', .int o_token', .int o_value', .ref h_ends, .ref h_letters, .int moved, .int turned, .int worst, .ref h_seen, .int seenMany, .ref h_lastBy, .ref h_isKept, .ref h_lanes, .ref h_lengths, .ref h_cells, .int torn])), (h_tape, .inl (cI, 160, .inl tape))] := by
  refine xMv_of (cc := cX5_readsOn) (maxL := 2) (by decide) rfl (Nat.le_of_ble_eq_true rfl) ?_
  intro p e s m args below meth c A Q ls C hX hl hret
  have hx := C.1.1
  have hb := C.1.2.1
  have hl : lv_has ls 2 [(0, .ref h0)] := hl
  have L201 : ∀ (k140 : Int32 → Int32 → Int32 → Int32 → Int32 → Int32 → Option (Int32 × Int32 × Int32 × Int32 × Int32 × Int32)) (hk140 : ∀ (broken : Int32) (brokenAt : Int32) (spot : Int32) (here : Int32) (token : Int32) (value : Int32) (H : Heap) (locs : List Loc) (ls : Array Slot), k140 broken brokenAt spot here token value = some (o_broken', o_brokenAt', o_spot', o_here', o_token', o_value') → xSt A s D [(h0, .inr (5, [.ref h_state, .ref h_readPage, .ref h_tape, .int taped, .int fault, .int broken, .int brokenAt, .int spot, .int here, .int token, .int value, .ref h_ends, .ref h_letters, .int moved, .int turned, .int worst, .ref h_seen, .int seenMany, .ref h_lastBy, .ref h_isKept, .ref h_lanes, .ref h_lengths, .ref h_cells, .int torn])), (h_tape, .inl (cI, 160, .inl tape))] H locs → lv_has ls 2 [(0, .ref h0)] → W p l e ({ frames := 1, cells := 0, slots := 0, locals := 25 } : Room) s m args below meth c H locs 0 0 Q (F0 m 140 ls [])), ∀ (y0 : Int32) (broken : Int32) (brokenAt : Int32) (spot : Int32) (here : Int32) (token : Int32) (value : Int32) (H : Heap) (locs : List Loc) (ls : Array Slot), fX5_readsOn_L201 taped tape k140 y0 broken brokenAt spot here token value = some (o_broken', o_brokenAt', o_spot', o_here', o_token', o_value') → xSt A s D [(h0, .inr (5, [.ref h_state, .ref h_readPage, .ref h_tape, .int taped, .int fault, .int broken, .int brokenAt, .int spot, .int here, .int token, .int value, .ref h_ends, .ref h_letters, .int moved, .int turned, .int worst, .ref h_seen, .int seenMany, .ref h_lastBy, .ref h_isKept, .ref h_lanes, .ref h_lengths, .ref h_cells, .int torn])), (h_tape, .inl (cI, 160, .inl tape))] H locs → lv_has ls 2 [(0, .ref h0)] → W p l e ({ frames := 1, cells := 0, slots := 0, locals := 25 } : Room) s m args below meth c H locs 0 0 Q (F0 m 201 ls [.int y0, .ref h0]) := by
    intro k140 hk140 y0 broken brokenAt spot here token value H locs ls hf hX hl
    unfold fX5_readsOn_L201 at hf
    refine x_putf (pc := 201) (Cn := RX5) (T := TX5) (N := 24) C hX tyX5 tyX5_ok nmX5 0 rfl rfl miX5_readsOn_X5 10 (by decide) mmX5_readsOn_4 rfl rfl (Nat.le_of_ble_eq_true rfl) [(h0, .inr (5, [.ref h_state, .ref h_readPage, .ref h_tape, .int taped, .int fault, .int broken, .int brokenAt, .int spot, .int here, .int token, .int y0, .ref h_ends, .ref h_letters, .int moved, .int turned, .int worst, .ref h_seen, .int seenMany, .ref h_lastBy, .ref h_isKept, .ref h_lanes, .ref h_lengths, .ref h_cells, .int torn])), (h_tape, .inl (cI, 160, .inl tape))] rfl dX5_readsOn_201 (fun H locs hX => ?_)
    refine lv_aload_n (pc := 204) hx hb dX5_readsOn_204 rfl (lv_at hl 0 rfl) ?_
    refine lv_dup (pc := 205) hx hb dX5_readsOn_205 rfl ?_
    refine x_getf (pc := 206) (Cn := RX5) (T := TX5) (N := 24) C hX 0 rfl rfl miX5_readsOn_X5 7 (by decide) mmX5_readsOn_2 rfl dX5_readsOn_206 ?_
    refine lv_iconst (pc := 209) (v := 1) hx hb dX5_readsOn_209 (by decide) ?_
    refine lv_iadd (pc := 210) hx hb dX5_readsOn_210 ?_
    refine lv_topi (fun v29 ev29 => ?_)
    replace hf := bnd_use ev29 hf
    refine x_putf (pc := 211) (Cn := RX5) (T := TX5) (N := 24) C hX tyX5 tyX5_ok nmX5 0 rfl rfl miX5_readsOn_X5 7 (by decide) mmX5_readsOn_2 rfl rfl (Nat.le_of_ble_eq_true rfl) [(h0, .inr (5, [.ref h_state, .ref h_readPage, .ref h_tape, .int taped, .int fault, .int broken, .int brokenAt, .int v29, .int here, .int token, .int y0, .ref h_ends, .ref h_letters, .int moved, .int turned, .int worst, .ref h_seen, .int seenMany, .ref h_lastBy, .ref h_isKept, .ref h_lanes, .ref h_lengths, .ref h_cells, .int torn])), (h_tape, .inl (cI, 160, .inl tape))] rfl dX5_readsOn_211 (fun H locs hX => ?_)
    refine lv_goto (pc := 214) (tgt := 140) hx hb dX5_readsOn_214 (by decide) ?_
    exact hk140 broken brokenAt v29 here token y0 _ _ _ hf hX (lv_sub hl [0] rfl)
  have L140 : ∀ (n : Nat), ∀ (broken : Int32) (brokenAt : Int32) (spot : Int32) (here : Int32) (token : Int32) (value : Int32) (H : Heap) (locs : List Loc) (ls : Array Slot), fX5_readsOn_L140 taped tape n broken brokenAt spot here token value = some (o_broken', o_brokenAt', o_spot', o_here', o_token', o_value') → xSt A s D [(h0, .inr (5, [.ref h_state, .ref h_readPage, .ref h_tape, .int taped, .int fault, .int broken, .int brokenAt, .int spot, .int here, .int token, .int value, .ref h_ends, .ref h_letters, .int moved, .int turned, .int worst, .ref h_seen, .int seenMany, .ref h_lastBy, .ref h_isKept, .ref h_lanes, .ref h_lengths, .ref h_cells, .int torn])), (h_tape, .inl (cI, 160, .inl tape))] H locs → lv_has ls 2 [(0, .ref h0)] → W p l e ({ frames := 1, cells := 0, slots := 0, locals := 25 } : Room) s m args below meth c H locs 0 0 Q (F0 m 140 ls []) := by
    intro n
    induction n with
    | zero =>
      intro broken brokenAt spot here token value H locs ls hf
      rw [fX5_readsOn_L140] at hf
      cases hf
    | succ n ih =>
      intro broken brokenAt spot here token value H locs ls hf hX hl
      rw [fX5_readsOn_L140] at hf
      refine lv_aload_n (pc := 140) hx hb dX5_readsOn_140 rfl (lv_at hl 0 rfl) ?_
      refine lv_aload_n (pc := 141) hx hb dX5_readsOn_141 rfl (lv_at hl 0 rfl) ?_
      refine x_getf (pc := 142) (Cn := RX5) (T := TX5) (N := 24) C hX 0 rfl rfl miX5_readsOn_X5 7 (by decide) mmX5_readsOn_2 rfl dX5_readsOn_142 ?_
      obtain ⟨r19, g20, hf⟩ := cl1_adv hf
      refine x_callVi (pc := 145) (rest := []) (w2 := [(h0, .inr (5, [.ref h_state, .ref h_readPage, .ref h_tape, .int taped, .int fault, .int broken, .int brokenAt, .int spot, .int here, .int token, .int value, .ref h_ends, .ref h_letters, .int moved, .int turned, .int worst, .ref h_seen, .int seenMany, .ref h_lastBy, .ref h_isKept, .ref h_lanes, .ref h_lengths, .ref h_cells, .int torn])), (h_tape, .inl (cI, 160, .inl tape))]) C hX (kX5_byteAt ad l D cI cB cZ cG cS h0 h_state h_readPage h_tape h_ends h_letters h_seen h_lastBy h_isKept h_lanes h_lengths h_cells taped fault broken brokenAt spot here token value moved turned worst seenMany torn tape r19 spot g20) (cwV 1 C.1.2.2.2.2 gX5_readsOn_X5_byteAt rfl rfl rfl (by decide +kernel) ⟨Nat.le_of_ble_eq_true rfl, Nat.le_of_ble_eq_true rfl⟩) [0, 1] [] [0, 1] rfl rfl rfl rfl (by decide) rfl rfl 0 rfl rfl rfl hl.1 rfl rfl (Nat.le_of_ble_eq_true rfl) dX5_readsOn_145 (fun H locs hX => ?_)
      refine lv_i2l (pc := 148) (v := ((r19).toInt64)) hx hb dX5_readsOn_148 rfl ?_
      refine lv_ldc2 (pc := 149) hx hb C.1.2.2.2.1 (C.1.2.2.2.2 _ mmX5_readsOn_8) dX5_readsOn_149 ?_
      refine lv_ldc2 (pc := 152) hx hb C.1.2.2.2.1 (C.1.2.2.2.2 _ mmX5_readsOn_9) dX5_readsOn_152 ?_
      obtain ⟨r21, g22, hf⟩ := cl1_adv hf
      refine x_callSi (pc := 155) (rest := []) C hX (kX5_in ad l D cI cB cZ cG cS r21 ((r19).toInt64) (48 : Int64) (57 : Int64) g22) (va_cwS 3 C.1.2.2.2.2 gX5_readsOn_X5_in rfl rfl rfl (by decide +kernel) ⟨Nat.le_of_ble_eq_true rfl, Nat.le_of_ble_eq_true rfl⟩) hl.1 rfl rfl (Nat.le_of_ble_eq_true rfl) dX5_readsOn_155 (fun H locs hX => ?_)
      refine lv_if_eq (pc := 158) (tgt := 217) hx hb dX5_readsOn_158 (by decide) (fun c23 => ?_) (fun c23 => ?_)
      · replace hf := ite_t c23 hf
        refine lv_aload_n (pc := 217) hx hb dX5_readsOn_217 rfl (lv_at hl 0 rfl) ?_
        refine lv_iconst (pc := 218) (v := 2) hx hb dX5_readsOn_218 (by decide) ?_
        refine x_putf (pc := 219) (Cn := RX5) (T := TX5) (N := 24) C hX tyX5 tyX5_ok nmX5 0 rfl rfl miX5_readsOn_X5 9 (by decide) mmX5_readsOn_5 rfl rfl (Nat.le_of_ble_eq_true rfl) [(h0, .inr (5, [.ref h_state, .ref h_readPage, .ref h_tape, .int taped, .int fault, .int broken, .int brokenAt, .int spot, .int here, .int (2 : Int32), .int value, .ref h_ends, .ref h_letters, .int moved, .int turned, .int worst, .ref h_seen, .int seenMany, .ref h_lastBy, .ref h_isKept, .ref h_lanes, .ref h_lengths, .ref h_cells, .int torn])), (h_tape, .inl (cI, 160, .inl tape))] rfl dX5_readsOn_219 (fun H locs hX => ?_)
        refine lv_aload_n (pc := 222) hx hb dX5_readsOn_222 rfl (lv_at hl 0 rfl) ?_
        refine x_getf (pc := 223) (Cn := RX5) (T := TX5) (N := 24) C hX 0 rfl rfl miX5_readsOn_X5 7 (by decide) mmX5_readsOn_2 rfl dX5_readsOn_223 ?_
        refine lv_aload_n (pc := 226) hx hb dX5_readsOn_226 rfl (lv_at hl 0 rfl) ?_
        refine x_getf (pc := 227) (Cn := RX5) (T := TX5) (N := 24) C hX 0 rfl rfl miX5_readsOn_X5 8 (by decide) mmX5_readsOn_3 rfl dX5_readsOn_227 ?_
        refine lv_isub (pc := 230) hx hb dX5_readsOn_230 ?_
        refine lv_iconst (pc := 231) (v := 2) hx hb dX5_readsOn_231 (by decide) ?_
        refine lv_icmp_le (pc := 232) (tgt := 269) hx hb dX5_readsOn_232 (by decide) (fun c24 => ?_) (fun c24 => ?_)
        · replace hf := ite_t c24 hf
          obtain ⟨rfl, rfl, rfl, rfl, rfl, rfl⟩ := re6 hf
          exact hret _ _ _ _ hX dX5_readsOn_269
        · replace hf := ite_f c24 hf
          refine lv_aload_n (pc := 235) hx hb dX5_readsOn_235 rfl (lv_at hl 0 rfl) ?_
          refine lv_iconst (pc := 236) (v := 1) hx hb dX5_readsOn_236 (by decide) ?_
          obtain ⟨u25, u26, g27, hf⟩ := cl2_adv hf
          refine x_callVv (pc := 237) (rest := []) (w2 := [(h0, .inr (5, [.ref h_state, .ref h_readPage, .ref h_tape, .int taped, .int fault, .int u25, .int u26, .int spot, .int here, .int (2 : Int32), .int value, .ref h_ends, .ref h_letters, .int moved, .int turned, .int worst, .ref h_seen, .int seenMany, .ref h_lastBy, .ref h_isKept, .ref h_lanes, .ref h_lengths, .ref h_cells, .int torn])), (h_tape, .inl (cI, 160, .inl tape))]) C hX (kX5_fails ad l D cI cB cZ cG cS h0 h_state h_readPage h_tape h_ends h_letters h_seen h_lastBy h_isKept h_lanes h_lengths h_cells taped fault broken brokenAt spot here (2 : Int32) value moved turned worst seenMany torn u25 u26 (1 : Int32) g27) (cwV 1 C.1.2.2.2.2 gX5_readsOn_X5_fails rfl rfl rfl (by decide +kernel) ⟨Nat.le_of_ble_eq_true rfl, Nat.le_of_ble_eq_true rfl⟩) [0] [1] [1, 0] rfl rfl rfl rfl (by decide) rfl rfl 0 rfl rfl rfl hl.1 rfl rfl (Nat.le_of_ble_eq_true rfl) dX5_readsOn_237 (fun H locs hX => ?_)
          refine lv_goto (pc := 240) (tgt := 269) hx hb dX5_readsOn_240 (by decide) ?_
          obtain ⟨rfl, rfl, rfl, rfl, rfl, rfl⟩ := re6 hf
          exact hret _ _ _ _ hX dX5_readsOn_269
      · replace hf := ite_f c23 hf
        refine lv_aload_n (pc := 161) hx hb dX5_readsOn_161 rfl (lv_at hl 0 rfl) ?_
        refine lv_aload_n (pc := 162) hx hb dX5_readsOn_162 rfl (lv_at hl 0 rfl) ?_
        refine x_getf (pc := 163) (Cn := RX5) (T := TX5) (N := 24) C hX 0 rfl rfl miX5_readsOn_X5 7 (by decide) mmX5_readsOn_2 rfl dX5_readsOn_163 ?_
        refine lv_aload_n (pc := 166) hx hb dX5_readsOn_166 rfl (lv_at hl 0 rfl) ?_
        refine x_getf (pc := 167) (Cn := RX5) (T := TX5) (N := 24) C hX 0 rfl rfl miX5_readsOn_X5 8 (by decide) mmX5_readsOn_3 rfl dX5_readsOn_167 ?_
        refine lv_isub (pc := 170) hx hb dX5_readsOn_170 ?_
        refine lv_iconst (pc := 171) (v := 2) hx hb dX5_readsOn_171 (by decide) ?_
        refine lv_icmp_ge (pc := 172) (tgt := 197) hx hb dX5_readsOn_172 (by decide) (fun c28 => ?_) (fun c28 => ?_)
        · replace hf := ite_t c28 hf
          refine lv_aload_n (pc := 197) hx hb dX5_readsOn_197 rfl (lv_at hl 0 rfl) ?_
          refine x_getf (pc := 198) (Cn := RX5) (T := TX5) (N := 24) C hX 0 rfl rfl miX5_readsOn_X5 10 (by decide) mmX5_readsOn_4 rfl dX5_readsOn_198 ?_
          exact L201 (fX5_readsOn_L140 taped tape n) ih value broken brokenAt spot here token value _ _ _ hf hX (lv_sub hl [0] rfl)
        · replace hf := ite_f c28 hf
          refine lv_bipush (pc := 175) (v := 10) hx hb dX5_readsOn_175 (by decide) ?_
          refine lv_aload_n (pc := 177) hx hb dX5_readsOn_177 rfl (lv_at hl 0 rfl) ?_
          refine x_getf (pc := 178) (Cn := RX5) (T := TX5) (N := 24) C hX 0 rfl rfl miX5_readsOn_X5 10 (by decide) mmX5_readsOn_4 rfl dX5_readsOn_178 ?_
          refine lv_imul (pc := 181) hx hb dX5_readsOn_181 ?_
          refine lv_aload_n (pc := 182) hx hb dX5_readsOn_182 rfl (lv_at hl 0 rfl) ?_
          refine lv_aload_n (pc := 183) hx hb dX5_readsOn_183 rfl (lv_at hl 0 rfl) ?_
          refine x_getf (pc := 184) (Cn := RX5) (T := TX5) (N := 24) C hX 0 rfl rfl miX5_readsOn_X5 7 (by decide) mmX5_readsOn_2 rfl dX5_readsOn_184 ?_
          obtain ⟨r30, g31, hf⟩ := cl1_adv hf
          refine x_callVi (pc := 187) (rest := [.int ((10 : Int32) * value), .ref h0]) (w2 := [(h0, .inr (5, [.ref h_state, .ref h_readPage, .ref h_tape, .int taped, .int fault, .int broken, .int brokenAt, .int spot, .int here, .int token, .int value, .ref h_ends, .ref h_letters, .int moved, .int turned, .int worst, .ref h_seen, .int seenMany, .ref h_lastBy, .ref h_isKept, .ref h_lanes, .ref h_lengths, .ref h_cells, .int torn])), (h_tape, .inl (cI, 160, .inl tape))]) C hX (kX5_byteAt ad l D cI cB cZ cG cS h0 h_state h_readPage h_tape h_ends h_letters h_seen h_lastBy h_isKept h_lanes h_lengths h_cells taped fault broken brokenAt spot here token value moved turned worst seenMany torn tape r30 spot g31) (cwV 1 C.1.2.2.2.2 gX5_readsOn_X5_byteAt rfl rfl rfl (by decide +kernel) ⟨Nat.le_of_ble_eq_true rfl, Nat.le_of_ble_eq_true rfl⟩) [0, 1] [] [0, 1] rfl rfl rfl rfl (by decide) rfl rfl 0 rfl rfl rfl hl.1 rfl rfl (Nat.le_of_ble_eq_true rfl) dX5_readsOn_187 (fun H locs hX => ?_)
          refine lv_iadd (pc := 190) hx hb dX5_readsOn_190 ?_
          refine lv_bipush (pc := 191) (v := 48) hx hb dX5_readsOn_191 (by decide) ?_
          refine lv_isub (pc := 193) hx hb dX5_readsOn_193 ?_
          refine lv_goto (pc := 194) (tgt := 201) hx hb dX5_readsOn_194 (by decide) ?_
          exact L201 (fX5_readsOn_L140 taped tape n) ih ((((10 : Int32) * value) + r30) - (48 : Int32)) broken brokenAt spot here token value _ _ _ hf hX (lv_sub hl [0] rfl)
  have L84 : ∀ (n : Nat), ∀ (broken : Int32) (brokenAt : Int32) (spot : Int32) (here : Int32) (token : Int32) (value : Int32) (H : Heap) (locs : List Loc) (ls : Array Slot), fX5_readsOn_L84 taped tape n broken brokenAt spot here token value = some (o_broken', o_brokenAt', o_spot', o_here', o_token', o_value') → xSt A s D [(h0, .inr (5, [.ref h_state, .ref h_readPage, .ref h_tape, .int taped, .int fault, .int broken, .int brokenAt, .int spot, .int here, .int token, .int value, .ref h_ends, .ref h_letters, .int moved, .int turned, .int worst, .ref h_seen, .int seenMany, .ref h_lastBy, .ref h_isKept, .ref h_lanes, .ref h_lengths, .ref h_cells, .int torn])), (h_tape, .inl (cI, 160, .inl tape))] H locs → lv_has ls 2 [(0, .ref h0)] → W p l e ({ frames := 1, cells := 0, slots := 0, locals := 25 } : Room) s m args below meth c H locs 0 0 Q (F0 m 84 ls []) := by
    intro n
    induction n with
    | zero =>
      intro broken brokenAt spot here token value H locs ls hf
      rw [fX5_readsOn_L84] at hf
      cases hf
    | succ n ih =>
      intro broken brokenAt spot here token value H locs ls hf hX hl
      rw [fX5_readsOn_L84] at hf
      refine lv_aload_n (pc := 84) hx hb dX5_readsOn_84 rfl (lv_at hl 0 rfl) ?_
      refine lv_aload_n (pc := 85) hx hb dX5_readsOn_85 rfl (lv_at hl 0 rfl) ?_
      refine x_getf (pc := 86) (Cn := RX5) (T := TX5) (N := 24) C hX 0 rfl rfl miX5_readsOn_X5 7 (by decide) mmX5_readsOn_2 rfl dX5_readsOn_86 ?_
      obtain ⟨r32, g33, hf⟩ := cl1_adv hf
      refine x_callVi (pc := 89) (rest := []) (w2 := [(h0, .inr (5, [.ref h_state, .ref h_readPage, .ref h_tape, .int taped, .int fault, .int broken, .int brokenAt, .int spot, .int here, .int token, .int value, .ref h_ends, .ref h_letters, .int moved, .int turned, .int worst, .ref h_seen, .int seenMany, .ref h_lastBy, .ref h_isKept, .ref h_lanes, .ref h_lengths, .ref h_cells, .int torn])), (h_tape, .inl (cI, 160, .inl tape))]) C hX (kX5_byteAt ad l D cI cB cZ cG cS h0 h_state h_readPage h_tape h_ends h_letters h_seen h_lastBy h_isKept h_lanes h_lengths h_cells taped fault broken brokenAt spot here token value moved turned worst seenMany torn tape r32 spot g33) (cwV 1 C.1.2.2.2.2 gX5_readsOn_X5_byteAt rfl rfl rfl (by decide +kernel) ⟨Nat.le_of_ble_eq_true rfl, Nat.le_of_ble_eq_true rfl⟩) [0, 1] [] [0, 1] rfl rfl rfl rfl (by decide) rfl rfl 0 rfl rfl rfl hl.1 rfl rfl (Nat.le_of_ble_eq_true rfl) dX5_readsOn_89 (fun H locs hX => ?_)
      refine lv_i2l (pc := 92) (v := ((r32).toInt64)) hx hb dX5_readsOn_92 rfl ?_
      refine lv_ldc2 (pc := 93) hx hb C.1.2.2.2.1 (C.1.2.2.2.2 _ mmX5_readsOn_6) dX5_readsOn_93 ?_
      refine lv_ldc2 (pc := 96) hx hb C.1.2.2.2.1 (C.1.2.2.2.2 _ mmX5_readsOn_7) dX5_readsOn_96 ?_
      obtain ⟨r34, g35, hf⟩ := cl1_adv hf
      refine x_callSi (pc := 99) (rest := []) C hX (kX5_in ad l D cI cB cZ cG cS r34 ((r32).toInt64) (97 : Int64) (122 : Int64) g35) (va_cwS 3 C.1.2.2.2.2 gX5_readsOn_X5_in rfl rfl rfl (by decide +kernel) ⟨Nat.le_of_ble_eq_true rfl, Nat.le_of_ble_eq_true rfl⟩) hl.1 rfl rfl (Nat.le_of_ble_eq_true rfl) dX5_readsOn_99 (fun H locs hX => ?_)
      refine lv_if_eq (pc := 102) (tgt := 118) hx hb dX5_readsOn_102 (by decide) (fun c36 => ?_) (fun c36 => ?_)
      · replace hf := ite_t c36 hf
        refine lv_aload_n (pc := 118) hx hb dX5_readsOn_118 rfl (lv_at hl 0 rfl) ?_
        refine lv_iconst (pc := 119) (v := 1) hx hb dX5_readsOn_119 (by decide) ?_
        refine x_putf (pc := 120) (Cn := RX5) (T := TX5) (N := 24) C hX tyX5 tyX5_ok nmX5 0 rfl rfl miX5_readsOn_X5 9 (by decide) mmX5_readsOn_5 rfl rfl (Nat.le_of_ble_eq_true rfl) [(h0, .inr (5, [.ref h_state, .ref h_readPage, .ref h_tape, .int taped, .int fault, .int broken, .int brokenAt, .int spot, .int here, .int (1 : Int32), .int value, .ref h_ends, .ref h_letters, .int moved, .int turned, .int worst, .ref h_seen, .int seenMany, .ref h_lastBy, .ref h_isKept, .ref h_lanes, .ref h_lengths, .ref h_cells, .int torn])), (h_tape, .inl (cI, 160, .inl tape))] rfl dX5_readsOn_120 (fun H locs hX => ?_)
        refine lv_goto (pc := 123) (tgt := 269) hx hb dX5_readsOn_123 (by decide) ?_
        obtain ⟨rfl, rfl, rfl, rfl, rfl, rfl⟩ := re6 hf
        exact hret _ _ _ _ hX dX5_readsOn_269
      · replace hf := ite_f c36 hf
        refine lv_aload_n (pc := 105) hx hb dX5_readsOn_105 rfl (lv_at hl 0 rfl) ?_
        refine lv_dup (pc := 106) hx hb dX5_readsOn_106 rfl ?_
        refine x_getf (pc := 107) (Cn := RX5) (T := TX5) (N := 24) C hX 0 rfl rfl miX5_readsOn_X5 7 (by decide) mmX5_readsOn_2 rfl dX5_readsOn_107 ?_
        refine lv_iconst (pc := 110) (v := 1) hx hb dX5_readsOn_110 (by decide) ?_
        refine lv_iadd (pc := 111) hx hb dX5_readsOn_111 ?_
        refine lv_topi (fun v37 ev37 => ?_)
        replace hf := bnd_use ev37 hf
        refine x_putf (pc := 112) (Cn := RX5) (T := TX5) (N := 24) C hX tyX5 tyX5_ok nmX5 0 rfl rfl miX5_readsOn_X5 7 (by decide) mmX5_readsOn_2 rfl rfl (Nat.le_of_ble_eq_true rfl) [(h0, .inr (5, [.ref h_state, .ref h_readPage, .ref h_tape, .int taped, .int fault, .int broken, .int brokenAt, .int v37, .int here, .int token, .int value, .ref h_ends, .ref h_letters, .int moved, .int turned, .int worst, .ref h_seen, .int seenMany, .ref h_lastBy, .ref h_isKept, .ref h_lanes, .ref h_lengths, .ref h_cells, .int torn])), (h_tape, .inl (cI, 160, .inl tape))] rfl dX5_readsOn_112 (fun H locs hX => ?_)
        refine lv_goto (pc := 115) (tgt := 84) hx hb dX5_readsOn_115 (by decide) ?_
        exact ih broken brokenAt v37 here token value _ _ _ hf hX (lv_sub hl [0] rfl)
  have L8 : ∀ (n : Nat), ∀ (broken : Int32) (brokenAt : Int32) (spot : Int32) (here : Int32) (token : Int32) (value : Int32) (H : Heap) (locs : List Loc) (ls : Array Slot), fX5_readsOn_L8 taped tape n broken brokenAt spot here token value = some (o_broken', o_brokenAt', o_spot', o_here', o_token', o_value') → xSt A s D [(h0, .inr (5, [.ref h_state, .ref h_readPage, .ref h_tape, .int taped, .int fault, .int broken, .int brokenAt, .int spot, .int here, .int token, .int value, .ref h_ends, .ref h_letters, .int moved, .int turned, .int worst, .ref h_seen, .int seenMany, .ref h_lastBy, .ref h_isKept, .ref h_lanes, .ref h_lengths, .ref h_cells, .int torn])), (h_tape, .inl (cI, 160, .inl tape))] H locs → lv_has ls 2 [(0, .ref h0)] → W p l e ({ frames := 1, cells := 0, slots := 0, locals := 25 } : Room) s m args below meth c H locs 0 0 Q (F0 m 8 ls []) := by
    intro n
    induction n with
    | zero =>
      intro broken brokenAt spot here token value H locs ls hf
      rw [fX5_readsOn_L8] at hf
      cases hf
    | succ n ih =>
      intro broken brokenAt spot here token value H locs ls hf hX hl
      rw [fX5_readsOn_L8] at hf
      refine lv_aload_n (pc := 8) hx hb dX5_readsOn_8 rfl (lv_at hl 0 rfl) ?_
      refine lv_aload_n (pc := 9) hx hb dX5_readsOn_9 rfl (lv_at hl 0 rfl) ?_
      refine x_getf (pc := 10) (Cn := RX5) (T := TX5) (N := 24) C hX 0 rfl rfl miX5_readsOn_X5 7 (by decide) mmX5_readsOn_2 rfl dX5_readsOn_10 ?_
      obtain ⟨r2, g3, hf⟩ := cl1_adv hf
      refine x_callVi (pc := 13) (rest := []) (w2 := [(h0, .inr (5, [.ref h_state, .ref h_readPage, .ref h_tape, .int taped, .int fault, .int broken, .int brokenAt, .int spot, .int here, .int token, .int value, .ref h_ends, .ref h_letters, .int moved, .int turned, .int worst, .ref h_seen, .int seenMany, .ref h_lastBy, .ref h_isKept, .ref h_lanes, .ref h_lengths, .ref h_cells, .int torn])), (h_tape, .inl (cI, 160, .inl tape))]) C hX (kX5_byteAt ad l D cI cB cZ cG cS h0 h_state h_readPage h_tape h_ends h_letters h_seen h_lastBy h_isKept h_lanes h_lengths h_cells taped fault broken brokenAt spot here token value moved turned worst seenMany torn tape r2 spot g3) (cwV 1 C.1.2.2.2.2 gX5_readsOn_X5_byteAt rfl rfl rfl (by decide +kernel) ⟨Nat.le_of_ble_eq_true rfl, Nat.le_of_ble_eq_true rfl⟩) [0, 1] [] [0, 1] rfl rfl rfl rfl (by decide) rfl rfl 0 rfl rfl rfl hl.1 rfl rfl (Nat.le_of_ble_eq_true rfl) dX5_readsOn_13 (fun H locs hX => ?_)
      refine lv_bipush (pc := 16) (v := 32) hx hb dX5_readsOn_16 (by decide) ?_
      refine lv_icmp_ne (pc := 18) (tgt := 34) hx hb dX5_readsOn_18 (by decide) (fun c4 => ?_) (fun c4 => ?_)
      · replace hf := ite_f c4 hf
        refine lv_aload_n (pc := 34) hx hb dX5_readsOn_34 rfl (lv_at hl 0 rfl) ?_
        refine lv_aload_n (pc := 35) hx hb dX5_readsOn_35 rfl (lv_at hl 0 rfl) ?_
        refine x_getf (pc := 36) (Cn := RX5) (T := TX5) (N := 24) C hX 0 rfl rfl miX5_readsOn_X5 7 (by decide) mmX5_readsOn_2 rfl dX5_readsOn_36 ?_
        refine x_putf (pc := 39) (Cn := RX5) (T := TX5) (N := 24) C hX tyX5 tyX5_ok nmX5 0 rfl rfl miX5_readsOn_X5 8 (by decide) mmX5_readsOn_3 rfl rfl (Nat.le_of_ble_eq_true rfl) [(h0, .inr (5, [.ref h_state, .ref h_readPage, .ref h_tape, .int taped, .int fault, .int broken, .int brokenAt, .int spot, .int spot, .int token, .int value, .ref h_ends, .ref h_letters, .int moved, .int turned, .int worst, .ref h_seen, .int seenMany, .ref h_lastBy, .ref h_isKept, .ref h_lanes, .ref h_lengths, .ref h_cells, .int torn])), (h_tape, .inl (cI, 160, .inl tape))] rfl dX5_readsOn_39 (fun H locs hX => ?_)
        refine lv_aload_n (pc := 42) hx hb dX5_readsOn_42 rfl (lv_at hl 0 rfl) ?_
        refine lv_aload_n (pc := 43) hx hb dX5_readsOn_43 rfl (lv_at hl 0 rfl) ?_
        refine x_getf (pc := 44) (Cn := RX5) (T := TX5) (N := 24) C hX 0 rfl rfl miX5_readsOn_X5 7 (by decide) mmX5_readsOn_2 rfl dX5_readsOn_44 ?_
        obtain ⟨r5, g6, hf⟩ := cl1_adv hf
        refine x_callVi (pc := 47) (rest := []) (w2 := [(h0, .inr (5, [.ref h_state, .ref h_readPage, .ref h_tape, .int taped, .int fault, .int broken, .int brokenAt, .int spot, .int spot, .int token, .int value, .ref h_ends, .ref h_letters, .int moved, .int turned, .int worst, .ref h_seen, .int seenMany, .ref h_lastBy, .ref h_isKept, .ref h_lanes, .ref h_lengths, .ref h_cells, .int torn])), (h_tape, .inl (cI, 160, .inl tape))]) C hX (kX5_byteAt ad l D cI cB cZ cG cS h0 h_state h_readPage h_tape h_ends h_letters h_seen h_lastBy h_isKept h_lanes h_lengths h_cells taped fault broken brokenAt spot spot token value moved turned worst seenMany torn tape r5 spot g6) (cwV 1 C.1.2.2.2.2 gX5_readsOn_X5_byteAt rfl rfl rfl (by decide +kernel) ⟨Nat.le_of_ble_eq_true rfl, Nat.le_of_ble_eq_true rfl⟩) [0, 1] [] [0, 1] rfl rfl rfl rfl (by decide) rfl rfl 0 rfl rfl rfl hl.1 rfl rfl (Nat.le_of_ble_eq_true rfl) dX5_readsOn_47 (fun H locs hX => ?_)
        refine lv_istore_n (pc := 50) (lv' := [(1, .int r5), (0, .ref h0)]) hx hb dX5_readsOn_50 rfl hl (by decide) rfl (fun ls hl => ?_)
        refine lv_aload_n (pc := 51) hx hb dX5_readsOn_51 rfl (lv_at hl 1 rfl) ?_
        refine lv_iconst (pc := 52) (v := 0) hx hb dX5_readsOn_52 (by decide) ?_
        refine x_putf (pc := 53) (Cn := RX5) (T := TX5) (N := 24) C hX tyX5 tyX5_ok nmX5 0 rfl rfl miX5_readsOn_X5 10 (by decide) mmX5_readsOn_4 rfl rfl (Nat.le_of_ble_eq_true rfl) [(h0, .inr (5, [.ref h_state, .ref h_readPage, .ref h_tape, .int taped, .int fault, .int broken, .int brokenAt, .int spot, .int spot, .int token, .int (0 : Int32), .ref h_ends, .ref h_letters, .int moved, .int turned, .int worst, .ref h_seen, .int seenMany, .ref h_lastBy, .ref h_isKept, .ref h_lanes, .ref h_lengths, .ref h_cells, .int torn])), (h_tape, .inl (cI, 160, .inl tape))] rfl dX5_readsOn_53 (fun H locs hX => ?_)
        refine lv_iload_n (pc := 56) hx hb dX5_readsOn_56 rfl (lv_at hl 0 rfl) ?_
        refine lv_bipush (pc := 57) (v := -4) hx hb dX5_readsOn_57 (by decide) ?_
        refine lv_icmp_ne (pc := 59) (tgt := 70) hx hb dX5_readsOn_59 (by decide) (fun c7 => ?_) (fun c7 => ?_)
        · replace hf := ite_f c7 hf
          refine lv_iload_n (pc := 70) hx hb dX5_readsOn_70 rfl (lv_at hl 0 rfl) ?_
          refine lv_i2l (pc := 71) (v := ((r5).toInt64)) hx hb dX5_readsOn_71 rfl ?_
          refine lv_ldc2 (pc := 72) hx hb C.1.2.2.2.1 (C.1.2.2.2.2 _ mmX5_readsOn_6) dX5_readsOn_72 ?_
          refine lv_ldc2 (pc := 75) hx hb C.1.2.2.2.1 (C.1.2.2.2.2 _ mmX5_readsOn_7) dX5_readsOn_75 ?_
          obtain ⟨r8, g9, hf⟩ := cl1_adv hf
          refine x_callSi (pc := 78) (rest := []) C hX (kX5_in ad l D cI cB cZ cG cS r8 ((r5).toInt64) (97 : Int64) (122 : Int64) g9) (va_cwS 3 C.1.2.2.2.2 gX5_readsOn_X5_in rfl rfl rfl (by decide +kernel) ⟨Nat.le_of_ble_eq_true rfl, Nat.le_of_ble_eq_true rfl⟩) hl.1 rfl rfl (Nat.le_of_ble_eq_true rfl) dX5_readsOn_78 (fun H locs hX => ?_)
          refine lv_if_eq (pc := 81) (tgt := 126) hx hb dX5_readsOn_81 (by decide) (fun c10 => ?_) (fun c10 => ?_)
          · replace hf := ite_t c10 hf
            refine lv_iload_n (pc := 126) hx hb dX5_readsOn_126 rfl (lv_at hl 0 rfl) ?_
            refine lv_i2l (pc := 127) (v := ((r5).toInt64)) hx hb dX5_readsOn_127 rfl ?_
            refine lv_ldc2 (pc := 128) hx hb C.1.2.2.2.1 (C.1.2.2.2.2 _ mmX5_readsOn_8) dX5_readsOn_128 ?_
            refine lv_ldc2 (pc := 131) hx hb C.1.2.2.2.1 (C.1.2.2.2.2 _ mmX5_readsOn_9) dX5_readsOn_131 ?_
            obtain ⟨r11, g12, hf⟩ := cl1_adv hf
            refine x_callSi (pc := 134) (rest := []) C hX (kX5_in ad l D cI cB cZ cG cS r11 ((r5).toInt64) (48 : Int64) (57 : Int64) g12) (va_cwS 3 C.1.2.2.2.2 gX5_readsOn_X5_in rfl rfl rfl (by decide +kernel) ⟨Nat.le_of_ble_eq_true rfl, Nat.le_of_ble_eq_true rfl⟩) hl.1 rfl rfl (Nat.le_of_ble_eq_true rfl) dX5_readsOn_134 (fun H locs hX => ?_)
            refine lv_if_eq (pc := 137) (tgt := 243) hx hb dX5_readsOn_137 (by decide) (fun c13 => ?_) (fun c13 => ?_)
            · replace hf := ite_t c13 hf
              refine lv_aload_n (pc := 243) hx hb dX5_readsOn_243 rfl (lv_at hl 1 rfl) ?_
              refine lv_iconst (pc := 244) (v := 3) hx hb dX5_readsOn_244 (by decide) ?_
              refine x_putf (pc := 245) (Cn := RX5) (T := TX5) (N := 24) C hX tyX5 tyX5_ok nmX5 0 rfl rfl miX5_readsOn_X5 9 (by decide) mmX5_readsOn_5 rfl rfl (Nat.le_of_ble_eq_true rfl) [(h0, .inr (5, [.ref h_state, .ref h_readPage, .ref h_tape, .int taped, .int fault, .int broken, .int brokenAt, .int spot, .int spot, .int (3 : Int32), .int (0 : Int32), .ref h_ends, .ref h_letters, .int moved, .int turned, .int worst, .ref h_seen, .int seenMany, .ref h_lastBy, .ref h_isKept, .ref h_lanes, .ref h_lengths, .ref h_cells, .int torn])), (h_tape, .inl (cI, 160, .inl tape))] rfl dX5_readsOn_245 (fun H locs hX => ?_)
              refine lv_aload_n (pc := 248) hx hb dX5_readsOn_248 rfl (lv_at hl 1 rfl) ?_
              refine lv_dup (pc := 249) hx hb dX5_readsOn_249 rfl ?_
              refine x_getf (pc := 250) (Cn := RX5) (T := TX5) (N := 24) C hX 0 rfl rfl miX5_readsOn_X5 7 (by decide) mmX5_readsOn_2 rfl dX5_readsOn_250 ?_
              refine lv_iconst (pc := 253) (v := 1) hx hb dX5_readsOn_253 (by decide) ?_
              refine lv_iadd (pc := 254) hx hb dX5_readsOn_254 ?_
              refine lv_topi (fun v14 ev14 => ?_)
              replace hf := bnd_use ev14 hf
              refine x_putf (pc := 255) (Cn := RX5) (T := TX5) (N := 24) C hX tyX5 tyX5_ok nmX5 0 rfl rfl miX5_readsOn_X5 7 (by decide) mmX5_readsOn_2 rfl rfl (Nat.le_of_ble_eq_true rfl) [(h0, .inr (5, [.ref h_state, .ref h_readPage, .ref h_tape, .int taped, .int fault, .int broken, .int brokenAt, .int v14, .int spot, .int (3 : Int32), .int (0 : Int32), .ref h_ends, .ref h_letters, .int moved, .int turned, .int worst, .ref h_seen, .int seenMany, .ref h_lastBy, .ref h_isKept, .ref h_lanes, .ref h_lengths, .ref h_cells, .int torn])), (h_tape, .inl (cI, 160, .inl tape))] rfl dX5_readsOn_255 (fun H locs hX => ?_)
              refine lv_iload_n (pc := 258) hx hb dX5_readsOn_258 rfl (lv_at hl 0 rfl) ?_
              refine lv_bipush (pc := 259) (v := 59) hx hb dX5_readsOn_259 (by decide) ?_
              refine lv_icmp_eq (pc := 261) (tgt := 269) hx hb dX5_readsOn_261 (by decide) (fun c15 => ?_) (fun c15 => ?_)
              · replace hf := ite_t c15 hf
                obtain ⟨rfl, rfl, rfl, rfl, rfl, rfl⟩ := re6 hf
                exact hret _ _ _ _ hX dX5_readsOn_269
              · replace hf := ite_f c15 hf
                refine lv_aload_n (pc := 264) hx hb dX5_readsOn_264 rfl (lv_at hl 1 rfl) ?_
                refine lv_iconst (pc := 265) (v := 1) hx hb dX5_readsOn_265 (by decide) ?_
                obtain ⟨u16, u17, g18, hf⟩ := cl2_adv hf
                refine x_callVv (pc := 266) (rest := []) (w2 := [(h0, .inr (5, [.ref h_state, .ref h_readPage, .ref h_tape, .int taped, .int fault, .int u16, .int u17, .int v14, .int spot, .int (3 : Int32), .int (0 : Int32), .ref h_ends, .ref h_letters, .int moved, .int turned, .int worst, .ref h_seen, .int seenMany, .ref h_lastBy, .ref h_isKept, .ref h_lanes, .ref h_lengths, .ref h_cells, .int torn])), (h_tape, .inl (cI, 160, .inl tape))]) C hX (kX5_fails ad l D cI cB cZ cG cS h0 h_state h_readPage h_tape h_ends h_letters h_seen h_lastBy h_isKept h_lanes h_lengths h_cells taped fault broken brokenAt v14 spot (3 : Int32) (0 : Int32) moved turned worst seenMany torn u16 u17 (1 : Int32) g18) (cwV 1 C.1.2.2.2.2 gX5_readsOn_X5_fails rfl rfl rfl (by decide +kernel) ⟨Nat.le_of_ble_eq_true rfl, Nat.le_of_ble_eq_true rfl⟩) [0] [1] [1, 0] rfl rfl rfl rfl (by decide) rfl rfl 0 rfl rfl rfl hl.1 rfl rfl (Nat.le_of_ble_eq_true rfl) dX5_readsOn_266 (fun H locs hX => ?_)
                obtain ⟨rfl, rfl, rfl, rfl, rfl, rfl⟩ := re6 hf
                exact hret _ _ _ _ hX dX5_readsOn_269
            · replace hf := ite_f c13 hf
              exact L140  xF broken brokenAt spot spot token (0 : Int32) _ _ _ hf hX (lv_sub hl [1] rfl)
          · replace hf := ite_f c10 hf
            exact L84  xF broken brokenAt spot spot token (0 : Int32) _ _ _ hf hX (lv_sub hl [1] rfl)
        · replace hf := ite_t c7 hf
          refine lv_aload_n (pc := 62) hx hb dX5_readsOn_62 rfl (lv_at hl 1 rfl) ?_
          refine lv_iconst (pc := 63) (v := 0) hx hb dX5_readsOn_63 (by decide) ?_
          refine x_putf (pc := 64) (Cn := RX5) (T := TX5) (N := 24) C hX tyX5 tyX5_ok nmX5 0 rfl rfl miX5_readsOn_X5 9 (by decide) mmX5_readsOn_5 rfl rfl (Nat.le_of_ble_eq_true rfl) [(h0, .inr (5, [.ref h_state, .ref h_readPage, .ref h_tape, .int taped, .int fault, .int broken, .int brokenAt, .int spot, .int spot, .int (0 : Int32), .int (0 : Int32), .ref h_ends, .ref h_letters, .int moved, .int turned, .int worst, .ref h_seen, .int seenMany, .ref h_lastBy, .ref h_isKept, .ref h_lanes, .ref h_lengths, .ref h_cells, .int torn])), (h_tape, .inl (cI, 160, .inl tape))] rfl dX5_readsOn_64 (fun H locs hX => ?_)
          refine lv_goto (pc := 67) (tgt := 269) hx hb dX5_readsOn_67 (by decide) ?_
          obtain ⟨rfl, rfl, rfl, rfl, rfl, rfl⟩ := re6 hf
          exact hret _ _ _ _ hX dX5_readsOn_269
      · replace hf := ite_t c4 hf
        refine lv_aload_n (pc := 21) hx hb dX5_readsOn_21 rfl (lv_at hl 0 rfl) ?_
        refine lv_dup (pc := 22) hx hb dX5_readsOn_22 rfl ?_
        refine x_getf (pc := 23) (Cn := RX5) (T := TX5) (N := 24) C hX 0 rfl rfl miX5_readsOn_X5 7 (by decide) mmX5_readsOn_2 rfl dX5_readsOn_23 ?_
        refine lv_iconst (pc := 26) (v := 1) hx hb dX5_readsOn_26 (by decide) ?_
        refine lv_iadd (pc := 27) hx hb dX5_readsOn_27 ?_
        refine lv_topi (fun v38 ev38 => ?_)
        replace hf := bnd_use ev38 hf
        refine x_putf (pc := 28) (Cn := RX5) (T := TX5) (N := 24) C hX tyX5 tyX5_ok nmX5 0 rfl rfl miX5_readsOn_X5 7 (by decide) mmX5_readsOn_2 rfl rfl (Nat.le_of_ble_eq_true rfl) [(h0, .inr (5, [.ref h_state, .ref h_readPage, .ref h_tape, .int taped, .int fault, .int broken, .int brokenAt, .int v38, .int here, .int token, .int value, .ref h_ends, .ref h_letters, .int moved, .int turned, .int worst, .ref h_seen, .int seenMany, .ref h_lastBy, .ref h_isKept, .ref h_lanes, .ref h_lengths, .ref h_cells, .int torn])), (h_tape, .inl (cI, 160, .inl tape))] rfl dX5_readsOn_28 (fun H locs hX => ?_)
        refine lv_goto (pc := 31) (tgt := 8) hx hb dX5_readsOn_31 (by decide) ?_
        exact ih broken brokenAt v38 here token value _ _ _ hf hX (lv_sub hl [0] rfl)
  unfold fX5_readsOn at hf
  refine lv_aload_n (pc := 0) hx hb dX5_readsOn_0 rfl (lv_at hl 0 rfl) ?_
  refine x_getf (pc := 1) (Cn := RX5) (T := TX5) (N := 24) C hX 0 rfl rfl miX5_readsOn_X5 5 (by decide) mmX5_readsOn_1 rfl dX5_readsOn_1 ?_
  refine lv_if_le (pc := 4) (tgt := 8) hx hb dX5_readsOn_4 (by decide) (fun c1 => ?_) (fun c1 => ?_)
  · replace hf := ite_t c1 hf
    exact L8  xF broken brokenAt spot here token value _ _ _ hf hX (lv_sub hl [0] rfl)
  · replace hf := ite_f c1 hf
    obtain ⟨rfl, rfl, rfl, rfl, rfl, rfl⟩ := re6 hf
    exact hret _ _ _ _ hX dX5_readsOn_7
theorem mmX5_number_1 : Cond.fieldLink RX5 54 "SlackArmsModel" "broken" "I" ∈ wsX5_number := List.mem_of_getElem? (i := 1) rfl
theorem miX5_number_X5 : ∀ w ∈ u_ws RX5 TX5 24, w ∈ wsX5_number := fun w h => List.mem_cons_of_mem _ (List.mem_append_right _ h)
theorem mmX5_number_3 : Cond.fieldLink RX5 73 "SlackArmsModel" "value" "I" ∈ wsX5_number := List.mem_of_getElem? (i := 3) rfl
theorem mmX5_number_2 : Cond.fieldLink RX5 63 "SlackArmsModel" "token" "I" ∈ wsX5_number := List.mem_of_getElem? (i := 2) rfl
set_option maxHeartbeats 4000000 in
set_option maxRecDepth 100000 in
theorem kX5_number (ad : xAd) (l : Launch) (D : va_G) (cI cB cZ cG cS : ClassId) (h0 h_state h_readPage h_tape h_ends h_letters h_seen h_lastBy h_isKept h_lanes h_lengths h_cells : Nat) (taped : Int32) (fault : Int32) (broken : Int32) (brokenAt : Int32) (spot : Int32) (here : Int32) (token : Int32) (value : Int32) (moved : Int32) (turned : Int32) (worst : Int32) (seenMany : Int32) (torn : Int32) (tape : (Nat → Int32)) (r0 : Int32) (o_broken' : Int32) (o_brokenAt' : Int32) (o_spot' : Int32) (o_here' : Int32) (o_token' : Int32) (o_value' : Int32) (p1 : Int32) (p2 : Int32) (hf : fX5_number p1 p2 taped broken brokenAt spot here token value tape = some (r0, o_broken', o_brokenAt', o_spot', o_here', o_token', o_value')) : xMi ad l yX5_number wsX5_number ({ frames := 2, cells := 0, slots := 0, locals := 46 } : Room) D (xTY cI cB cZ cG cS) [.ref h0, .int p1, .int p2] [(h0, .inr (5, [.ref h_state, .ref h_readPage, .ref h_tape, .int taped, .int fault, .int broken, .int brokenAt, .int spot, .int here, .int token, .int value, .ref h_ends, .ref h_letters, .int moved, .int turned, .int worst, .ref h_seen, .int seenMany, .ref h_lastBy, .ref h_isKept, .ref h_lanes, .ref h_lengths, .ref h_cells, .int torn])), (h_tape, .inl (cI, 160, .inl tape))] [(h0, .inr (5, [.ref h_state, .ref h_readPage, .ref h_tape, .int taped, .int fault, .int o_broken', .int o_brokenAt', .int o_spot', .int o_here', .int o_token', .int o_value', .ref h_ends, .ref h_letters, .int moved, .int turned, .int worst, .ref h_seen, .int seenMany, .ref h_lastBy, .ref h_isKept, .ref h_lanes, .ref h_lengths, .ref h_cells, .int torn])), (h_tape, .inl (cI, 160, .inl tape))] r0 := by
  refine xMi_of (cc := cX5_number) (maxL := 4) (ty := .int) (by decide) rfl (Nat.le_of_ble_eq_true rfl) ?_
  intro p e s m args below meth c A Q ls C hX hl hret
  have hx := C.1.1
  have hb := C.1.2.1
  have hl : lv_has ls 4 [(0, .ref h0), (1, .int p1), (2, .int p2)] := hl
  have L62 : ∀ (y0 : Int32) (broken : Int32) (brokenAt : Int32) (spot : Int32) (here : Int32) (token : Int32) (value : Int32) (H : Heap) (locs : List Loc) (ls : Array Slot), fX5_number_L62 taped tape y0 broken brokenAt spot here token value = some (r0, o_broken', o_brokenAt', o_spot', o_here', o_token', o_value') → xSt A s D [(h0, .inr (5, [.ref h_state, .ref h_readPage, .ref h_tape, .int taped, .int fault, .int broken, .int brokenAt, .int spot, .int here, .int token, .int value, .ref h_ends, .ref h_letters, .int moved, .int turned, .int worst, .ref h_seen, .int seenMany, .ref h_lastBy, .ref h_isKept, .ref h_lanes, .ref h_lengths, .ref h_cells, .int torn])), (h_tape, .inl (cI, 160, .inl tape))] H locs → lv_has ls 4 [(0, .ref h0)] → W p l e ({ frames := 2, cells := 0, slots := 0, locals := 46 } : Room) s m args below meth c H locs 0 0 Q (F0 m 62 ls [.int y0]) := by
    intro  y0 broken brokenAt spot here token value H locs ls hf hX hl
    unfold fX5_number_L62 at hf
    refine lv_istore_n (pc := 62) (lv' := [(3, .int y0), (0, .ref h0)]) hx hb dX5_number_62 rfl hl (by decide) rfl (fun ls hl => ?_)
    refine lv_aload_n (pc := 63) hx hb dX5_number_63 rfl (lv_at hl 1 rfl) ?_
    obtain ⟨u4, u5, u6, u7, u8, u9, g10, hf⟩ := cl6_adv hf
    refine x_callVv (pc := 64) (rest := []) (w2 := [(h0, .inr (5, [.ref h_state, .ref h_readPage, .ref h_tape, .int taped, .int fault, .int u4, .int u5, .int u6, .int u7, .int u8, .int u9, .ref h_ends, .ref h_letters, .int moved, .int turned, .int worst, .ref h_seen, .int seenMany, .ref h_lastBy, .ref h_isKept, .ref h_lanes, .ref h_lengths, .ref h_cells, .int torn])), (h_tape, .inl (cI, 160, .inl tape))]) C hX (kX5_readsOn ad l D cI cB cZ cG cS h0 h_state h_readPage h_tape h_ends h_letters h_seen h_lastBy h_isKept h_lanes h_lengths h_cells taped fault broken brokenAt spot here token value moved turned worst seenMany torn tape u4 u5 u6 u7 u8 u9 g10) (cwV 0 C.1.2.2.2.2 gX5_number_X5_readsOn rfl rfl rfl (by decide +kernel) ⟨Nat.le_of_ble_eq_true rfl, Nat.le_of_ble_eq_true rfl⟩) [0, 1] [] [0, 1] rfl rfl rfl rfl (by decide) rfl rfl 0 rfl rfl rfl hl.1 rfl rfl (Nat.le_of_ble_eq_true rfl) dX5_number_64 (fun H locs hX => ?_)
    refine lv_iload_n (pc := 67) hx hb dX5_number_67 rfl (lv_at hl 0 rfl) ?_
    obtain ⟨rfl, rfl, rfl, rfl, rfl, rfl, rfl⟩ := re7 hf
    exact hret _ _ _ _ _ rfl rfl hX dX5_number_68
  have L47 : ∀ (x1 : Int32) (broken : Int32) (brokenAt : Int32) (spot : Int32) (here : Int32) (token : Int32) (value : Int32) (H : Heap) (locs : List Loc) (ls : Array Slot), fX5_number_L47 taped tape x1 broken brokenAt spot here token value = some (r0, o_broken', o_brokenAt', o_spot', o_here', o_token', o_value') → xSt A s D [(h0, .inr (5, [.ref h_state, .ref h_readPage, .ref h_tape, .int taped, .int fault, .int broken, .int brokenAt, .int spot, .int here, .int token, .int value, .ref h_ends, .ref h_letters, .int moved, .int turned, .int worst, .ref h_seen, .int seenMany, .ref h_lastBy, .ref h_isKept, .ref h_lanes, .ref h_lengths, .ref h_cells, .int torn])), (h_tape, .inl (cI, 160, .inl tape))] H locs → lv_has ls 4 [(0, .ref h0), (1, .int x1)] → W p l e ({ frames := 2, cells := 0, slots := 0, locals := 46 } : Room) s m args below meth c H locs 0 0 Q (F0 m 47 ls []) := by
    intro  x1 broken brokenAt spot here token value H locs ls hf hX hl
    unfold fX5_number_L47 at hf
    refine lv_aload_n (pc := 47) hx hb dX5_number_47 rfl (lv_at hl 0 rfl) ?_
    refine x_getf (pc := 48) (Cn := RX5) (T := TX5) (N := 24) C hX 0 rfl rfl miX5_number_X5 5 (by decide) mmX5_number_1 rfl dX5_number_48 ?_
    refine lv_if_ne (pc := 51) (tgt := 61) hx hb dX5_number_51 (by decide) (fun c3 => ?_) (fun c3 => ?_)
    · replace hf := ite_f c3 hf
      refine lv_iload_n (pc := 61) hx hb dX5_number_61 rfl (lv_at hl 1 rfl) ?_
      exact L62  x1 broken brokenAt spot here token value _ _ _ hf hX (lv_sub hl [0] rfl)
    · replace hf := ite_t c3 hf
      refine lv_aload_n (pc := 54) hx hb dX5_number_54 rfl (lv_at hl 0 rfl) ?_
      refine x_getf (pc := 55) (Cn := RX5) (T := TX5) (N := 24) C hX 0 rfl rfl miX5_number_X5 10 (by decide) mmX5_number_3 rfl dX5_number_55 ?_
      refine lv_goto (pc := 58) (tgt := 62) hx hb dX5_number_58 (by decide) ?_
      exact L62  value broken brokenAt spot here token value _ _ _ hf hX (lv_sub hl [0] rfl)
  have L20 : ∀ (x1 : Int32) (x2 : Int32) (broken : Int32) (brokenAt : Int32) (spot : Int32) (here : Int32) (token : Int32) (value : Int32) (H : Heap) (locs : List Loc) (ls : Array Slot), fX5_number_L20 taped tape x1 x2 broken brokenAt spot here token value = some (r0, o_broken', o_brokenAt', o_spot', o_here', o_token', o_value') → xSt A s D [(h0, .inr (5, [.ref h_state, .ref h_readPage, .ref h_tape, .int taped, .int fault, .int broken, .int brokenAt, .int spot, .int here, .int token, .int value, .ref h_ends, .ref h_letters, .int moved, .int turned, .int worst, .ref h_seen, .int seenMany, .ref h_lastBy, .ref h_isKept, .ref h_lanes, .ref h_lengths, .ref h_cells, .int torn])), (h_tape, .inl (cI, 160, .inl tape))] H locs → lv_has ls 4 [(0, .ref h0), (1, .int x1), (2, .int x2)] → W p l e ({ frames := 2, cells := 0, slots := 0, locals := 46 } : Room) s m args below meth c H locs 0 0 Q (F0 m 20 ls []) := by
    intro  x1 x2 broken brokenAt spot here token value H locs ls hf hX hl
    unfold fX5_number_L20 at hf
    refine lv_aload_n (pc := 20) hx hb dX5_number_20 rfl (lv_at hl 0 rfl) ?_
    refine x_getf (pc := 21) (Cn := RX5) (T := TX5) (N := 24) C hX 0 rfl rfl miX5_number_X5 5 (by decide) mmX5_number_1 rfl dX5_number_21 ?_
    refine lv_if_ne (pc := 24) (tgt := 47) hx hb dX5_number_24 (by decide) (fun c2 => ?_) (fun c2 => ?_)
    · replace hf := ite_f c2 hf
      exact L47  x1 broken brokenAt spot here token value _ _ _ hf hX (lv_sub hl [0, 1] rfl)
    · replace hf := ite_t c2 hf
      refine lv_aload_n (pc := 27) hx hb dX5_number_27 rfl (lv_at hl 0 rfl) ?_
      refine x_getf (pc := 28) (Cn := RX5) (T := TX5) (N := 24) C hX 0 rfl rfl miX5_number_X5 10 (by decide) mmX5_number_3 rfl dX5_number_28 ?_
      refine lv_i2l (pc := 31) (v := ((value).toInt64)) hx hb dX5_number_31 rfl ?_
      refine lv_iload_n (pc := 32) hx hb dX5_number_32 rfl (lv_at hl 1 rfl) ?_
      refine lv_i2l (pc := 33) (v := ((x1).toInt64)) hx hb dX5_number_33 rfl ?_
      refine lv_iload_n (pc := 34) hx hb dX5_number_34 rfl (lv_at hl 2 rfl) ?_
      refine lv_i2l (pc := 35) (v := ((x2).toInt64)) hx hb dX5_number_35 rfl ?_
      obtain ⟨r11, g12, hf⟩ := cl1_adv hf
      refine x_callSi (pc := 36) (rest := []) C hX (kX5_in ad l D cI cB cZ cG cS r11 ((value).toInt64) ((x1).toInt64) ((x2).toInt64) g12) (va_cwS 3 C.1.2.2.2.2 gX5_number_X5_in rfl rfl rfl (by decide +kernel) ⟨Nat.le_of_ble_eq_true rfl, Nat.le_of_ble_eq_true rfl⟩) hl.1 rfl rfl (Nat.le_of_ble_eq_true rfl) dX5_number_36 (fun H locs hX => ?_)
      refine lv_if_ne (pc := 39) (tgt := 47) hx hb dX5_number_39 (by decide) (fun c13 => ?_) (fun c13 => ?_)
      · replace hf := ite_f c13 hf
        exact L47  x1 broken brokenAt spot here token value _ _ _ hf hX (lv_sub hl [0, 1] rfl)
      · replace hf := ite_t c13 hf
        refine lv_aload_n (pc := 42) hx hb dX5_number_42 rfl (lv_at hl 0 rfl) ?_
        refine lv_iconst (pc := 43) (v := 3) hx hb dX5_number_43 (by decide) ?_
        obtain ⟨u14, u15, g16, hf⟩ := cl2_adv hf
        refine x_callVv (pc := 44) (rest := []) (w2 := [(h0, .inr (5, [.ref h_state, .ref h_readPage, .ref h_tape, .int taped, .int fault, .int u14, .int u15, .int spot, .int here, .int token, .int value, .ref h_ends, .ref h_letters, .int moved, .int turned, .int worst, .ref h_seen, .int seenMany, .ref h_lastBy, .ref h_isKept, .ref h_lanes, .ref h_lengths, .ref h_cells, .int torn])), (h_tape, .inl (cI, 160, .inl tape))]) C hX (kX5_fails ad l D cI cB cZ cG cS h0 h_state h_readPage h_tape h_ends h_letters h_seen h_lastBy h_isKept h_lanes h_lengths h_cells taped fault broken brokenAt spot here token value moved turned worst seenMany torn u14 u15 (3 : Int32) g16) (cwV 1 C.1.2.2.2.2 gX5_number_X5_fails rfl rfl rfl (by decide +kernel) ⟨Nat.le_of_ble_eq_true rfl, Nat.le_of_ble_eq_true rfl⟩) [0] [1] [1, 0] rfl rfl rfl rfl (by decide) rfl rfl 0 rfl rfl rfl hl.1 rfl rfl (Nat.le_of_ble_eq_true rfl) dX5_number_44 (fun H locs hX => ?_)
        exact L47  x1 u14 u15 spot here token value _ _ _ hf hX (lv_sub hl [0, 1] rfl)
  unfold fX5_number at hf
  refine lv_aload_n (pc := 0) hx hb dX5_number_0 rfl (lv_at hl 0 rfl) ?_
  refine x_getf (pc := 1) (Cn := RX5) (T := TX5) (N := 24) C hX 0 rfl rfl miX5_number_X5 5 (by decide) mmX5_number_1 rfl dX5_number_1 ?_
  refine lv_if_ne (pc := 4) (tgt := 20) hx hb dX5_number_4 (by decide) (fun c1 => ?_) (fun c1 => ?_)
  · replace hf := ite_f c1 hf
    exact L20  p1 p2 broken brokenAt spot here token value _ _ _ hf hX (lv_sub hl [0, 1, 2] rfl)
  · replace hf := ite_t c1 hf
    refine lv_aload_n (pc := 7) hx hb dX5_number_7 rfl (lv_at hl 0 rfl) ?_
    refine x_getf (pc := 8) (Cn := RX5) (T := TX5) (N := 24) C hX 0 rfl rfl miX5_number_X5 9 (by decide) mmX5_number_2 rfl dX5_number_8 ?_
    refine lv_iconst (pc := 11) (v := 2) hx hb dX5_number_11 (by decide) ?_
    refine lv_icmp_eq (pc := 12) (tgt := 20) hx hb dX5_number_12 (by decide) (fun c17 => ?_) (fun c17 => ?_)
    · replace hf := ite_t c17 hf
      exact L20  p1 p2 broken brokenAt spot here token value _ _ _ hf hX (lv_sub hl [0, 1, 2] rfl)
    · replace hf := ite_f c17 hf
      refine lv_aload_n (pc := 15) hx hb dX5_number_15 rfl (lv_at hl 0 rfl) ?_
      refine lv_iconst (pc := 16) (v := 2) hx hb dX5_number_16 (by decide) ?_
      obtain ⟨u18, u19, g20, hf⟩ := cl2_adv hf
      refine x_callVv (pc := 17) (rest := []) (w2 := [(h0, .inr (5, [.ref h_state, .ref h_readPage, .ref h_tape, .int taped, .int fault, .int u18, .int u19, .int spot, .int here, .int token, .int value, .ref h_ends, .ref h_letters, .int moved, .int turned, .int worst, .ref h_seen, .int seenMany, .ref h_lastBy, .ref h_isKept, .ref h_lanes, .ref h_lengths, .ref h_cells, .int torn])), (h_tape, .inl (cI, 160, .inl tape))]) C hX (kX5_fails ad l D cI cB cZ cG cS h0 h_state h_readPage h_tape h_ends h_letters h_seen h_lastBy h_isKept h_lanes h_lengths h_cells taped fault broken brokenAt spot here token value moved turned worst seenMany torn u18 u19 (2 : Int32) g20) (cwV 1 C.1.2.2.2.2 gX5_number_X5_fails rfl rfl rfl (by decide +kernel) ⟨Nat.le_of_ble_eq_true rfl, Nat.le_of_ble_eq_true rfl⟩) [0] [1] [1, 0] rfl rfl rfl rfl (by decide) rfl rfl 0 rfl rfl rfl hl.1 rfl rfl (Nat.le_of_ble_eq_true rfl) dX5_number_17 (fun H locs hX => ?_)
      exact L20  p1 p2 u18 u19 spot here token value _ _ _ hf hX (lv_sub hl [0, 1, 2] rfl)
theorem mmX5_readMore_1 : Cond.fieldLink RX5 13 "SlackArmsModel" "readPage" "[I" ∈ wsX5_readMore := List.mem_of_getElem? (i := 1) rfl
theorem miX5_readMore_X5 : ∀ w ∈ u_ws RX5 TX5 24, w ∈ wsX5_readMore := fun w h => List.mem_cons_of_mem _ (List.mem_append_right _ h)
set_option maxHeartbeats 4000000 in
set_option maxRecDepth 100000 in
theorem kX5_readMore (ad : xAd) (l : Launch) (D : va_G) (cI cB cZ cG cS : ClassId) (h0 h_state h_readPage h_tape h_ends h_letters h_seen h_lastBy h_isKept h_lanes h_lengths h_cells : Nat) (taped : Int32) (fault : Int32) (broken : Int32) (brokenAt : Int32) (spot : Int32) (here : Int32) (token : Int32) (value : Int32) (moved : Int32) (turned : Int32) (worst : Int32) (seenMany : Int32) (torn : Int32) (readPage : (Nat → Int32)) (tape : (Nat → Int32)) (o_broken' : Int32) (o_brokenAt' : Int32) (o_spot' : Int32) (o_here' : Int32) (o_token' : Int32) (o_value' : Int32) (o_readPage' : (Nat → Int32)) (p1 : Int32) (hf : fX5_readMore p1 taped broken brokenAt spot here token value readPage tape = some (o_broken', o_brokenAt', o_spot', o_here', o_token', o_value', o_readPage')) : xMv ad l yX5_readMore wsX5_readMore ({ frames := 3, cells := 0, slots := 0, locals := 69 } : Room) D (xTY cI cB cZ cG cS) [.ref h0, .int p1] [(h0, .inr (5, [.ref h_state, .ref h_readPage, .ref h_tape, .int taped, .int fault, .int broken, .int brokenAt, .int spot, .int here, .int token, .int value, .ref h_ends, .ref h_letters, .int moved, .int turned, .int worst, .ref h_seen, .int seenMany, .ref h_lastBy, .ref h_isKept, .ref h_lanes, .ref h_lengths, .ref h_cells, .int torn])), (h_readPage, .inl (cI, 40, .inl readPage)), (h_tape, .inl (cI, 160, .inl tape))] [(h0, .inr (5, [.ref h_state, .ref h_readPage, .ref h_tape, .int taped, .int fault, .int o_broken', .int o_brokenAt', .int o_spot', .int o_here', .int o_token', .int o_value', .ref h_ends, .ref h_letters, .int moved, .int turned, .int worst, .ref h_seen, .int seenMany, .ref h_lastBy, .ref h_isKept, .ref h_lanes, .ref h_lengths, .ref h_cells, .int torn])), (h_readPage, .inl (cI, 40, .inl o_readPage')), (h_tape, .inl (cI, 160, .inl tape))] := by
  refine xMv_of (cc := cX5_readMore) (maxL := 3) (by decide) rfl (Nat.le_of_ble_eq_true rfl) ?_
  intro p e s m args below meth c A Q ls C hX hl hret
  have hx := C.1.1
  have hb := C.1.2.1
  have hl : lv_has ls 3 [(0, .ref h0), (1, .int p1)] := hl
  have L84 : ∀ (y0 : Int32) (y1 : Int32) (broken : Int32) (brokenAt : Int32) (spot : Int32) (here : Int32) (token : Int32) (value : Int32) (readPage : (Nat → Int32)) (H : Heap) (locs : List Loc) (ls : Array Slot), fX5_readMore_L84 taped tape y0 y1 broken brokenAt spot here token value readPage = some (o_broken', o_brokenAt', o_spot', o_here', o_token', o_value', o_readPage') → xSt A s D [(h0, .inr (5, [.ref h_state, .ref h_readPage, .ref h_tape, .int taped, .int fault, .int broken, .int brokenAt, .int spot, .int here, .int token, .int value, .ref h_ends, .ref h_letters, .int moved, .int turned, .int worst, .ref h_seen, .int seenMany, .ref h_lastBy, .ref h_isKept, .ref h_lanes, .ref h_lengths, .ref h_cells, .int torn])), (h_readPage, .inl (cI, 40, .inl readPage)), (h_tape, .inl (cI, 160, .inl tape))] H locs → lv_has ls 3 [(0, .ref h0)] → W p l e ({ frames := 3, cells := 0, slots := 0, locals := 69 } : Room) s m args below meth c H locs 0 0 Q (F0 m 84 ls [.int y1, .int y0, .ref h_readPage]) := by
    intro  y0 y1 broken brokenAt spot here token value readPage H locs ls hf hX hl
    unfold fX5_readMore_L84 at hf
    replace hf := chk_adv hf
    have i12 := hf.1
    replace hf := hf.2
    obtain ⟨f13, ef13⟩ : ∃ y : Nat → Int32, y = (upd readPage (y0).toNatClampNeg y1) := ⟨_, rfl⟩
    replace hf := bnd_use ef13 hf
    refine x_iast (pc := 84) C hX 1 0 rfl rfl i12 [(h0, .inr (5, [.ref h_state, .ref h_readPage, .ref h_tape, .int taped, .int fault, .int broken, .int brokenAt, .int spot, .int here, .int token, .int value, .ref h_ends, .ref h_letters, .int moved, .int turned, .int worst, .ref h_seen, .int seenMany, .ref h_lastBy, .ref h_isKept, .ref h_lanes, .ref h_lengths, .ref h_cells, .int torn])), (h_readPage, .inl (cI, 40, .inl f13)), (h_tape, .inl (cI, 160, .inl tape))] (by subst ef13; rfl) dX5_readMore_84 (fun H locs hX => ?_)
    refine lv_aload_n (pc := 85) hx hb dX5_readMore_85 rfl (lv_at hl 0 rfl) ?_
    refine x_getf (pc := 86) (Cn := RX5) (T := TX5) (N := 24) C hX 0 rfl rfl miX5_readMore_X5 1 (by decide) mmX5_readMore_1 rfl dX5_readMore_86 ?_
    refine lv_bipush (pc := 89) (v := 37) hx hb dX5_readMore_89 (by decide) ?_
    refine lv_dup2_11 (pc := 91) hx hb dX5_readMore_91 rfl rfl ?_
    replace hf := chk_adv hf
    have i14 := hf.1
    replace hf := hf.2
    refine x_iald (pc := 92) C hX 1 0 rfl rfl i14 dX5_readMore_92 ?_
    refine lv_iconst (pc := 93) (v := 1) hx hb dX5_readMore_93 (by decide) ?_
    refine lv_iadd (pc := 94) hx hb dX5_readMore_94 ?_
    refine lv_topi (fun v15 ev15 => ?_)
    replace hf := bnd_use ev15 hf
    replace hf := chk_adv hf
    have i16 := hf.1
    replace hf := hf.2
    obtain ⟨f17, ef17⟩ : ∃ y : Nat → Int32, y = (upd f13 ((37 : Int32)).toNatClampNeg v15) := ⟨_, rfl⟩
    replace hf := bnd_use ef17 hf
    refine x_iast (pc := 95) C hX 1 0 rfl rfl i16 [(h0, .inr (5, [.ref h_state, .ref h_readPage, .ref h_tape, .int taped, .int fault, .int broken, .int brokenAt, .int spot, .int here, .int token, .int value, .ref h_ends, .ref h_letters, .int moved, .int turned, .int worst, .ref h_seen, .int seenMany, .ref h_lastBy, .ref h_isKept, .ref h_lanes, .ref h_lengths, .ref h_cells, .int torn])), (h_readPage, .inl (cI, 40, .inl f17)), (h_tape, .inl (cI, 160, .inl tape))] (by subst ef17; rfl) dX5_readMore_95 (fun H locs hX => ?_)
    obtain ⟨rfl, rfl, rfl, rfl, rfl, rfl, rfl⟩ := re7 hf
    exact hret _ _ _ _ hX dX5_readMore_96
  unfold fX5_readMore at hf
  refine lv_iload_n (pc := 0) hx hb dX5_readMore_0 rfl (lv_at hl 1 rfl) ?_
  refine lv_iconst (pc := 1) (v := 3) hx hb dX5_readMore_1 (by decide) ?_
  refine lv_icmp_gt (pc := 2) (tgt := 51) hx hb dX5_readMore_2 (by decide) (fun c1 => ?_) (fun c1 => ?_)
  · replace hf := ite_t c1 hf
    refine lv_aload_n (pc := 51) hx hb dX5_readMore_51 rfl (lv_at hl 0 rfl) ?_
    refine lv_iconst (pc := 52) (v := 0) hx hb dX5_readMore_52 (by decide) ?_
    refine lv_bipush (pc := 53) (v := 9) hx hb dX5_readMore_53 (by decide) ?_
    obtain ⟨r2, u3, u4, u5, u6, u7, u8, g9, hf⟩ := cl7_adv hf
    refine x_callVi (pc := 55) (rest := []) (w2 := [(h0, .inr (5, [.ref h_state, .ref h_readPage, .ref h_tape, .int taped, .int fault, .int u3, .int u4, .int u5, .int u6, .int u7, .int u8, .ref h_ends, .ref h_letters, .int moved, .int turned, .int worst, .ref h_seen, .int seenMany, .ref h_lastBy, .ref h_isKept, .ref h_lanes, .ref h_lengths, .ref h_cells, .int torn])), (h_readPage, .inl (cI, 40, .inl readPage)), (h_tape, .inl (cI, 160, .inl tape))]) C hX (kX5_number ad l D cI cB cZ cG cS h0 h_state h_readPage h_tape h_ends h_letters h_seen h_lastBy h_isKept h_lanes h_lengths h_cells taped fault broken brokenAt spot here token value moved turned worst seenMany torn tape r2 u3 u4 u5 u6 u7 u8 (0 : Int32) (9 : Int32) g9) (cwV 2 C.1.2.2.2.2 gX5_readMore_X5_number rfl rfl rfl (by decide +kernel) ⟨Nat.le_of_ble_eq_true rfl, Nat.le_of_ble_eq_true rfl⟩) [0, 2] [1] [1, 0, 2] rfl rfl rfl rfl (by decide) rfl rfl 0 rfl rfl rfl hl.1 rfl rfl (Nat.le_of_ble_eq_true rfl) dX5_readMore_55 (fun H locs hX => ?_)
    refine lv_istore_n (pc := 58) (lv' := [(2, .int r2), (0, .ref h0), (1, .int p1)]) hx hb dX5_readMore_58 rfl hl (by decide) rfl (fun ls hl => ?_)
    refine lv_aload_n (pc := 59) hx hb dX5_readMore_59 rfl (lv_at hl 1 rfl) ?_
    refine x_getf (pc := 60) (Cn := RX5) (T := TX5) (N := 24) C hX 0 rfl rfl miX5_readMore_X5 1 (by decide) mmX5_readMore_1 rfl dX5_readMore_60 ?_
    refine lv_bipush (pc := 63) (v := 21) hx hb dX5_readMore_63 (by decide) ?_
    refine lv_aload_n (pc := 65) hx hb dX5_readMore_65 rfl (lv_at hl 1 rfl) ?_
    refine x_getf (pc := 66) (Cn := RX5) (T := TX5) (N := 24) C hX 0 rfl rfl miX5_readMore_X5 1 (by decide) mmX5_readMore_1 rfl dX5_readMore_66 ?_
    refine lv_bipush (pc := 69) (v := 37) hx hb dX5_readMore_69 (by decide) ?_
    replace hf := chk_adv hf
    have i10 := hf.1
    replace hf := hf.2
    refine x_iald (pc := 71) C hX 1 0 rfl rfl i10 dX5_readMore_71 ?_
    refine lv_iadd (pc := 72) hx hb dX5_readMore_72 ?_
    refine lv_iload_n (pc := 73) hx hb dX5_readMore_73 rfl (lv_at hl 2 rfl) ?_
    refine lv_iconst (pc := 74) (v := 4) hx hb dX5_readMore_74 (by decide) ?_
    refine lv_icmp_ne (pc := 75) (tgt := 82) hx hb dX5_readMore_75 (by decide) (fun c11 => ?_) (fun c11 => ?_)
    · replace hf := ite_f c11 hf
      refine lv_iload_n (pc := 82) hx hb dX5_readMore_82 rfl (lv_at hl 0 rfl) ?_
      refine lv_ineg (pc := 83) hx hb dX5_readMore_83 ?_
      exact L84  ((21 : Int32) + (readPage ((37 : Int32)).toNatClampNeg)) (-r2) u3 u4 u5 u6 u7 u8 readPage _ _ _ hf hX (lv_sub hl [1] rfl)
    · replace hf := ite_t c11 hf
      refine lv_iload_n (pc := 78) hx hb dX5_readMore_78 rfl (lv_at hl 0 rfl) ?_
      refine lv_goto (pc := 79) (tgt := 84) hx hb dX5_readMore_79 (by decide) ?_
      exact L84  ((21 : Int32) + (readPage ((37 : Int32)).toNatClampNeg)) r2 u3 u4 u5 u6 u7 u8 readPage _ _ _ hf hX (lv_sub hl [1] rfl)
  · replace hf := ite_f c1 hf
    refine lv_aload_n (pc := 5) hx hb dX5_readMore_5 rfl (lv_at hl 0 rfl) ?_
    refine x_getf (pc := 6) (Cn := RX5) (T := TX5) (N := 24) C hX 0 rfl rfl miX5_readMore_X5 1 (by decide) mmX5_readMore_1 rfl dX5_readMore_6 ?_
    refine lv_aload_n (pc := 9) hx hb dX5_readMore_9 rfl (lv_at hl 0 rfl) ?_
    refine x_getf (pc := 10) (Cn := RX5) (T := TX5) (N := 24) C hX 0 rfl rfl miX5_readMore_X5 1 (by decide) mmX5_readMore_1 rfl dX5_readMore_10 ?_
    refine lv_bipush (pc := 13) (v := 20) hx hb dX5_readMore_13 (by decide) ?_
    replace hf := chk_adv hf
    have i18 := hf.1
    replace hf := hf.2
    refine x_iald (pc := 15) C hX 1 0 rfl rfl i18 dX5_readMore_15 ?_
    refine lv_iload_n (pc := 16) hx hb dX5_readMore_16 rfl (lv_at hl 1 rfl) ?_
    replace hf := chk_adv hf
    have i19 := hf.1
    replace hf := hf.2
    obtain ⟨f20, ef20⟩ : ∃ y : Nat → Int32, y = (upd readPage ((readPage ((20 : Int32)).toNatClampNeg)).toNatClampNeg p1) := ⟨_, rfl⟩
    replace hf := bnd_use ef20 hf
    refine x_iast (pc := 17) C hX 1 0 rfl rfl i19 [(h0, .inr (5, [.ref h_state, .ref h_readPage, .ref h_tape, .int taped, .int fault, .int broken, .int brokenAt, .int spot, .int here, .int token, .int value, .ref h_ends, .ref h_letters, .int moved, .int turned, .int worst, .ref h_seen, .int seenMany, .ref h_lastBy, .ref h_isKept, .ref h_lanes, .ref h_lengths, .ref h_cells, .int torn])), (h_readPage, .inl (cI, 40, .inl f20)), (h_tape, .inl (cI, 160, .inl tape))] (by subst ef20; rfl) dX5_readMore_17 (fun H locs hX => ?_)
    refine lv_aload_n (pc := 18) hx hb dX5_readMore_18 rfl (lv_at hl 0 rfl) ?_
    refine x_getf (pc := 19) (Cn := RX5) (T := TX5) (N := 24) C hX 0 rfl rfl miX5_readMore_X5 1 (by decide) mmX5_readMore_1 rfl dX5_readMore_19 ?_
    refine lv_iconst (pc := 22) (v := 4) hx hb dX5_readMore_22 (by decide) ?_
    refine lv_aload_n (pc := 23) hx hb dX5_readMore_23 rfl (lv_at hl 0 rfl) ?_
    refine x_getf (pc := 24) (Cn := RX5) (T := TX5) (N := 24) C hX 0 rfl rfl miX5_readMore_X5 1 (by decide) mmX5_readMore_1 rfl dX5_readMore_24 ?_
    refine lv_bipush (pc := 27) (v := 20) hx hb dX5_readMore_27 (by decide) ?_
    replace hf := chk_adv hf
    have i21 := hf.1
    replace hf := hf.2
    refine x_iald (pc := 29) C hX 1 0 rfl rfl i21 dX5_readMore_29 ?_
    refine lv_iadd (pc := 30) hx hb dX5_readMore_30 ?_
    refine lv_aload_n (pc := 31) hx hb dX5_readMore_31 rfl (lv_at hl 0 rfl) ?_
    refine lv_iconst (pc := 32) (v := 0) hx hb dX5_readMore_32 (by decide) ?_
    refine lv_bipush (pc := 33) (v := 9) hx hb dX5_readMore_33 (by decide) ?_
    obtain ⟨r22, u23, u24, u25, u26, u27, u28, g29, hf⟩ := cl7_adv hf
    refine x_callVi (pc := 35) (rest := [.int ((4 : Int32) + (f20 ((20 : Int32)).toNatClampNeg)), .ref h_readPage]) (w2 := [(h0, .inr (5, [.ref h_state, .ref h_readPage, .ref h_tape, .int taped, .int fault, .int u23, .int u24, .int u25, .int u26, .int u27, .int u28, .ref h_ends, .ref h_letters, .int moved, .int turned, .int worst, .ref h_seen, .int seenMany, .ref h_lastBy, .ref h_isKept, .ref h_lanes, .ref h_lengths, .ref h_cells, .int torn])), (h_readPage, .inl (cI, 40, .inl f20)), (h_tape, .inl (cI, 160, .inl tape))]) C hX (kX5_number ad l D cI cB cZ cG cS h0 h_state h_readPage h_tape h_ends h_letters h_seen h_lastBy h_isKept h_lanes h_lengths h_cells taped fault broken brokenAt spot here token value moved turned worst seenMany torn tape r22 u23 u24 u25 u26 u27 u28 (0 : Int32) (9 : Int32) g29) (cwV 2 C.1.2.2.2.2 gX5_readMore_X5_number rfl rfl rfl (by decide +kernel) ⟨Nat.le_of_ble_eq_true rfl, Nat.le_of_ble_eq_true rfl⟩) [0, 2] [1] [1, 0, 2] rfl rfl rfl rfl (by decide) rfl rfl 0 rfl rfl rfl hl.1 rfl rfl (Nat.le_of_ble_eq_true rfl) dX5_readMore_35 (fun H locs hX => ?_)
    replace hf := chk_adv hf
    have i30 := hf.1
    replace hf := hf.2
    obtain ⟨f31, ef31⟩ : ∃ y : Nat → Int32, y = (upd f20 (((4 : Int32) + (f20 ((20 : Int32)).toNatClampNeg))).toNatClampNeg r22) := ⟨_, rfl⟩
    replace hf := bnd_use ef31 hf
    refine x_iast (pc := 38) C hX 1 0 rfl rfl i30 [(h0, .inr (5, [.ref h_state, .ref h_readPage, .ref h_tape, .int taped, .int fault, .int u23, .int u24, .int u25, .int u26, .int u27, .int u28, .ref h_ends, .ref h_letters, .int moved, .int turned, .int worst, .ref h_seen, .int seenMany, .ref h_lastBy, .ref h_isKept, .ref h_lanes, .ref h_lengths, .ref h_cells, .int torn])), (h_readPage, .inl (cI, 40, .inl f31)), (h_tape, .inl (cI, 160, .inl tape))] (by subst ef31; rfl) dX5_readMore_38 (fun H locs hX => ?_)
    refine lv_aload_n (pc := 39) hx hb dX5_readMore_39 rfl (lv_at hl 0 rfl) ?_
    refine x_getf (pc := 40) (Cn := RX5) (T := TX5) (N := 24) C hX 0 rfl rfl miX5_readMore_X5 1 (by decide) mmX5_readMore_1 rfl dX5_readMore_40 ?_
    refine lv_bipush (pc := 43) (v := 20) hx hb dX5_readMore_43 (by decide) ?_
    refine lv_dup2_11 (pc := 45) hx hb dX5_readMore_45 rfl rfl ?_
    replace hf := chk_adv hf
    have i32 := hf.1
    replace hf := hf.2
    refine x_iald (pc := 46) C hX 1 0 rfl rfl i32 dX5_readMore_46 ?_
    refine lv_iconst (pc := 47) (v := 1) hx hb dX5_readMore_47 (by decide) ?_
    refine lv_iadd (pc := 48) hx hb dX5_readMore_48 ?_
    refine lv_topi (fun v33 ev33 => ?_)
    replace hf := bnd_use ev33 hf
    replace hf := chk_adv hf
    have i34 := hf.1
    replace hf := hf.2
    obtain ⟨f35, ef35⟩ : ∃ y : Nat → Int32, y = (upd f31 ((20 : Int32)).toNatClampNeg v33) := ⟨_, rfl⟩
    replace hf := bnd_use ef35 hf
    refine x_iast (pc := 49) C hX 1 0 rfl rfl i34 [(h0, .inr (5, [.ref h_state, .ref h_readPage, .ref h_tape, .int taped, .int fault, .int u23, .int u24, .int u25, .int u26, .int u27, .int u28, .ref h_ends, .ref h_letters, .int moved, .int turned, .int worst, .ref h_seen, .int seenMany, .ref h_lastBy, .ref h_isKept, .ref h_lanes, .ref h_lengths, .ref h_cells, .int torn])), (h_readPage, .inl (cI, 40, .inl f35)), (h_tape, .inl (cI, 160, .inl tape))] (by subst ef35; rfl) dX5_readMore_49 (fun H locs hX => ?_)
    obtain ⟨rfl, rfl, rfl, rfl, rfl, rfl, rfl⟩ := re7 hf
    exact hret _ _ _ _ hX dX5_readMore_50
theorem mmX5_readLine_1 : Cond.constantLong RX5 99 (5) ∈ wsX5_readLine := List.mem_of_getElem? (i := 1) rfl
theorem mmX5_readLine_3 : Cond.fieldLink RX5 54 "SlackArmsModel" "broken" "I" ∈ wsX5_readLine := List.mem_of_getElem? (i := 3) rfl
theorem miX5_readLine_X5 : ∀ w ∈ u_ws RX5 TX5 24, w ∈ wsX5_readLine := fun w h => List.mem_cons_of_mem _ (List.mem_append_right _ h)
theorem mmX5_readLine_4 : Cond.fieldLink RX5 63 "SlackArmsModel" "token" "I" ∈ wsX5_readLine := List.mem_of_getElem? (i := 4) rfl
theorem mmX5_readLine_2 : Cond.fieldLink RX5 13 "SlackArmsModel" "readPage" "[I" ∈ wsX5_readLine := List.mem_of_getElem? (i := 2) rfl
set_option maxHeartbeats 4000000 in
set_option maxRecDepth 100000 in
theorem kX5_readLine (ad : xAd) (l : Launch) (D : va_G) (cI cB cZ cG cS : ClassId) (h0 h_state h_readPage h_tape h_ends h_letters h_seen h_lastBy h_isKept h_lanes h_lengths h_cells : Nat) (taped : Int32) (fault : Int32) (broken : Int32) (brokenAt : Int32) (spot : Int32) (here : Int32) (token : Int32) (value : Int32) (moved : Int32) (turned : Int32) (worst : Int32) (seenMany : Int32) (torn : Int32) (readPage : (Nat → Int32)) (tape : (Nat → Int32)) (ends : (Nat → Int32)) (letters : (Nat → Int32)) (o_broken' : Int32) (o_brokenAt' : Int32) (o_spot' : Int32) (o_here' : Int32) (o_token' : Int32) (o_value' : Int32) (o_readPage' : (Nat → Int32))  (hf : fX5_readLine  taped broken brokenAt spot here token value readPage tape ends letters = some (o_broken', o_brokenAt', o_spot', o_here', o_token', o_value', o_readPage')) : xMv ad l yX5_readLine wsX5_readLine ({ frames := 4, cells := 0, slots := 0, locals := 91 } : Room) D (xTY cI cB cZ cG cS) [.ref h0] [(h0, .inr (5, [.ref h_state, .ref h_readPage, .ref h_tape, .int taped, .int fault, .int broken, .int brokenAt, .int spot, .int here, .int token, .int value, .ref h_ends, .ref h_letters, .int moved, .int turned, .int worst, .ref h_seen, .int seenMany, .ref h_lastBy, .ref h_isKept, .ref h_lanes, .ref h_lengths, .ref h_cells, .int torn])), (h_readPage, .inl (cI, 40, .inl readPage)), (h_tape, .inl (cI, 160, .inl tape)), (h_ends, .inl (cI, 7, .inl ends)), (h_letters, .inl (cI, 23, .inl letters))] [(h0, .inr (5, [.ref h_state, .ref h_readPage, .ref h_tape, .int taped, .int fault, .int o_broken', .int o_brokenAt', .int o_spot', .int o_here', .int o_token', .int o_value', .ref h_ends, .ref h_letters, .int moved, .int turned, .int worst, .ref h_seen, .int seenMany, .ref h_lastBy, .ref h_isKept, .ref h_lanes, .ref h_lengths, .ref h_cells, .int torn])), (h_readPage, .inl (cI, 40, .inl o_readPage')), (h_tape, .inl (cI, 160, .inl tape)), (h_ends, .inl (cI, 7, .inl ends)), (h_letters, .inl (cI, 23, .inl letters))] := by
  refine xMv_of (cc := cX5_readLine) (maxL := 2) (by decide) rfl (Nat.le_of_ble_eq_true rfl) ?_
  intro p e s m args below meth c A Q ls C hX hl hret
  have hx := C.1.1
  have hb := C.1.2.1
  have hl : lv_has ls 2 [(0, .ref h0)] := hl
  have L98 : ∀ (broken : Int32) (brokenAt : Int32) (spot : Int32) (here : Int32) (token : Int32) (value : Int32) (readPage : (Nat → Int32)) (H : Heap) (locs : List Loc) (ls : Array Slot), fX5_readLine_L98 taped tape ends letters broken brokenAt spot here token value readPage = some (o_broken', o_brokenAt', o_spot', o_here', o_token', o_value', o_readPage') → xSt A s D [(h0, .inr (5, [.ref h_state, .ref h_readPage, .ref h_tape, .int taped, .int fault, .int broken, .int brokenAt, .int spot, .int here, .int token, .int value, .ref h_ends, .ref h_letters, .int moved, .int turned, .int worst, .ref h_seen, .int seenMany, .ref h_lastBy, .ref h_isKept, .ref h_lanes, .ref h_lengths, .ref h_cells, .int torn])), (h_readPage, .inl (cI, 40, .inl readPage)), (h_tape, .inl (cI, 160, .inl tape)), (h_ends, .inl (cI, 7, .inl ends)), (h_letters, .inl (cI, 23, .inl letters))] H locs → lv_has ls 2 [(0, .ref h0)] → W p l e ({ frames := 4, cells := 0, slots := 0, locals := 91 } : Room) s m args below meth c H locs 0 0 Q (F0 m 98 ls []) := by
    intro  broken brokenAt spot here token value readPage H locs ls hf hX hl
    unfold fX5_readLine_L98 at hf
    refine lv_aload_n (pc := 98) hx hb dX5_readLine_98 rfl (lv_at hl 0 rfl) ?_
    obtain ⟨u25, u26, u27, u28, u29, u30, g31, hf⟩ := cl6_adv hf
    refine x_callVv (pc := 99) (rest := []) (w2 := [(h0, .inr (5, [.ref h_state, .ref h_readPage, .ref h_tape, .int taped, .int fault, .int u25, .int u26, .int u27, .int u28, .int u29, .int u30, .ref h_ends, .ref h_letters, .int moved, .int turned, .int worst, .ref h_seen, .int seenMany, .ref h_lastBy, .ref h_isKept, .ref h_lanes, .ref h_lengths, .ref h_cells, .int torn])), (h_readPage, .inl (cI, 40, .inl readPage)), (h_tape, .inl (cI, 160, .inl tape)), (h_ends, .inl (cI, 7, .inl ends)), (h_letters, .inl (cI, 23, .inl letters))]) C hX (kX5_readsOn ad l D cI cB cZ cG cS h0 h_state h_readPage h_tape h_ends h_letters h_seen h_lastBy h_isKept h_lanes h_lengths h_cells taped fault broken brokenAt spot here token value moved turned worst seenMany torn tape u25 u26 u27 u28 u29 u30 g31) (cwV 0 C.1.2.2.2.2 gX5_readLine_X5_readsOn rfl rfl rfl (by decide +kernel) ⟨Nat.le_of_ble_eq_true rfl, Nat.le_of_ble_eq_true rfl⟩) [0, 2] [1, 3, 4] [3, 0, 4, 1, 2] rfl rfl rfl rfl (by decide) rfl rfl 0 rfl rfl rfl hl.1 rfl rfl (Nat.le_of_ble_eq_true rfl) dX5_readLine_99 (fun H locs hX => ?_)
    obtain ⟨rfl, rfl, rfl, rfl, rfl, rfl, rfl⟩ := re7 hf
    exact hret _ _ _ _ hX dX5_readLine_102
  have L61 : ∀ (x1 : Int32) (broken : Int32) (brokenAt : Int32) (spot : Int32) (here : Int32) (token : Int32) (value : Int32) (readPage : (Nat → Int32)) (H : Heap) (locs : List Loc) (ls : Array Slot), fX5_readLine_L61 taped tape ends letters x1 broken brokenAt spot here token value readPage = some (o_broken', o_brokenAt', o_spot', o_here', o_token', o_value', o_readPage') → xSt A s D [(h0, .inr (5, [.ref h_state, .ref h_readPage, .ref h_tape, .int taped, .int fault, .int broken, .int brokenAt, .int spot, .int here, .int token, .int value, .ref h_ends, .ref h_letters, .int moved, .int turned, .int worst, .ref h_seen, .int seenMany, .ref h_lastBy, .ref h_isKept, .ref h_lanes, .ref h_lengths, .ref h_cells, .int torn])), (h_readPage, .inl (cI, 40, .inl readPage)), (h_tape, .inl (cI, 160, .inl tape)), (h_ends, .inl (cI, 7, .inl ends)), (h_letters, .inl (cI, 23, .inl letters))] H locs → lv_has ls 2 [(0, .ref h0), (1, .int x1)] → W p l e ({ frames := 4, cells := 0, slots := 0, locals := 91 } : Room) s m args below meth c H locs 0 0 Q (F0 m 61 ls []) := by
    intro  x1 broken brokenAt spot here token value readPage H locs ls hf hX hl
    unfold fX5_readLine_L61 at hf
    refine lv_aload_n (pc := 61) hx hb dX5_readLine_61 rfl (lv_at hl 0 rfl) ?_
    obtain ⟨u8, u9, u10, u11, u12, u13, g14, hf⟩ := cl6_adv hf
    refine x_callVv (pc := 62) (rest := []) (w2 := [(h0, .inr (5, [.ref h_state, .ref h_readPage, .ref h_tape, .int taped, .int fault, .int u8, .int u9, .int u10, .int u11, .int u12, .int u13, .ref h_ends, .ref h_letters, .int moved, .int turned, .int worst, .ref h_seen, .int seenMany, .ref h_lastBy, .ref h_isKept, .ref h_lanes, .ref h_lengths, .ref h_cells, .int torn])), (h_readPage, .inl (cI, 40, .inl readPage)), (h_tape, .inl (cI, 160, .inl tape)), (h_ends, .inl (cI, 7, .inl ends)), (h_letters, .inl (cI, 23, .inl letters))]) C hX (kX5_readsOn ad l D cI cB cZ cG cS h0 h_state h_readPage h_tape h_ends h_letters h_seen h_lastBy h_isKept h_lanes h_lengths h_cells taped fault broken brokenAt spot here token value moved turned worst seenMany torn tape u8 u9 u10 u11 u12 u13 g14) (cwV 0 C.1.2.2.2.2 gX5_readLine_X5_readsOn rfl rfl rfl (by decide +kernel) ⟨Nat.le_of_ble_eq_true rfl, Nat.le_of_ble_eq_true rfl⟩) [0, 2] [1, 3, 4] [3, 0, 4, 1, 2] rfl rfl rfl rfl (by decide) rfl rfl 0 rfl rfl rfl hl.1 rfl rfl (Nat.le_of_ble_eq_true rfl) dX5_readLine_62 (fun H locs hX => ?_)
    refine lv_aload_n (pc := 65) hx hb dX5_readLine_65 rfl (lv_at hl 0 rfl) ?_
    refine x_getf (pc := 66) (Cn := RX5) (T := TX5) (N := 24) C hX 0 rfl rfl miX5_readLine_X5 5 (by decide) mmX5_readLine_3 rfl dX5_readLine_66 ?_
    refine lv_if_le (pc := 69) (tgt := 73) hx hb dX5_readLine_69 (by decide) (fun c15 => ?_) (fun c15 => ?_)
    · replace hf := ite_t c15 hf
      refine lv_aload_n (pc := 73) hx hb dX5_readLine_73 rfl (lv_at hl 0 rfl) ?_
      refine lv_iload_n (pc := 74) hx hb dX5_readLine_74 rfl (lv_at hl 1 rfl) ?_
      obtain ⟨u16, u17, u18, u19, u20, u21, u22, g23, hf⟩ := cl7_adv hf
      refine x_callVv (pc := 75) (rest := []) (w2 := [(h0, .inr (5, [.ref h_state, .ref h_readPage, .ref h_tape, .int taped, .int fault, .int u16, .int u17, .int u18, .int u19, .int u20, .int u21, .ref h_ends, .ref h_letters, .int moved, .int turned, .int worst, .ref h_seen, .int seenMany, .ref h_lastBy, .ref h_isKept, .ref h_lanes, .ref h_lengths, .ref h_cells, .int torn])), (h_readPage, .inl (cI, 40, .inl u22)), (h_tape, .inl (cI, 160, .inl tape)), (h_ends, .inl (cI, 7, .inl ends)), (h_letters, .inl (cI, 23, .inl letters))]) C hX (kX5_readMore ad l D cI cB cZ cG cS h0 h_state h_readPage h_tape h_ends h_letters h_seen h_lastBy h_isKept h_lanes h_lengths h_cells taped fault u8 u9 u10 u11 u12 u13 moved turned worst seenMany torn readPage tape u16 u17 u18 u19 u20 u21 u22 x1 g23) (cwV 1 C.1.2.2.2.2 gX5_readLine_X5_readMore rfl rfl rfl (by decide +kernel) ⟨Nat.le_of_ble_eq_true rfl, Nat.le_of_ble_eq_true rfl⟩) [0, 1, 2] [3, 4] [2, 3, 4, 0, 1] rfl rfl rfl rfl (by decide) rfl rfl 0 rfl rfl rfl hl.1 rfl rfl (Nat.le_of_ble_eq_true rfl) dX5_readLine_75 (fun H locs hX => ?_)
      refine lv_aload_n (pc := 78) hx hb dX5_readLine_78 rfl (lv_at hl 0 rfl) ?_
      refine x_getf (pc := 79) (Cn := RX5) (T := TX5) (N := 24) C hX 0 rfl rfl miX5_readLine_X5 5 (by decide) mmX5_readLine_3 rfl dX5_readLine_79 ?_
      refine lv_if_ne (pc := 82) (tgt := 98) hx hb dX5_readLine_82 (by decide) (fun c24 => ?_) (fun c24 => ?_)
      · replace hf := ite_f c24 hf
        exact L98  u16 u17 u18 u19 u20 u21 u22 _ _ _ hf hX (lv_sub hl [0] rfl)
      · replace hf := ite_t c24 hf
        refine lv_aload_n (pc := 85) hx hb dX5_readLine_85 rfl (lv_at hl 0 rfl) ?_
        refine x_getf (pc := 86) (Cn := RX5) (T := TX5) (N := 24) C hX 0 rfl rfl miX5_readLine_X5 9 (by decide) mmX5_readLine_4 rfl dX5_readLine_86 ?_
        refine lv_iconst (pc := 89) (v := 3) hx hb dX5_readLine_89 (by decide) ?_
        refine lv_icmp_eq (pc := 90) (tgt := 98) hx hb dX5_readLine_90 (by decide) (fun c32 => ?_) (fun c32 => ?_)
        · replace hf := ite_t c32 hf
          exact L98  u16 u17 u18 u19 u20 u21 u22 _ _ _ hf hX (lv_sub hl [0] rfl)
        · replace hf := ite_f c32 hf
          refine lv_aload_n (pc := 93) hx hb dX5_readLine_93 rfl (lv_at hl 0 rfl) ?_
          refine lv_iconst (pc := 94) (v := 2) hx hb dX5_readLine_94 (by decide) ?_
          obtain ⟨u33, u34, g35, hf⟩ := cl2_adv hf
          refine x_callVv (pc := 95) (rest := []) (w2 := [(h0, .inr (5, [.ref h_state, .ref h_readPage, .ref h_tape, .int taped, .int fault, .int u33, .int u34, .int u18, .int u19, .int u20, .int u21, .ref h_ends, .ref h_letters, .int moved, .int turned, .int worst, .ref h_seen, .int seenMany, .ref h_lastBy, .ref h_isKept, .ref h_lanes, .ref h_lengths, .ref h_cells, .int torn])), (h_readPage, .inl (cI, 40, .inl u22)), (h_tape, .inl (cI, 160, .inl tape)), (h_ends, .inl (cI, 7, .inl ends)), (h_letters, .inl (cI, 23, .inl letters))]) C hX (kX5_fails ad l D cI cB cZ cG cS h0 h_state h_readPage h_tape h_ends h_letters h_seen h_lastBy h_isKept h_lanes h_lengths h_cells taped fault u16 u17 u18 u19 u20 u21 moved turned worst seenMany torn u33 u34 (2 : Int32) g35) (cwV 1 C.1.2.2.2.2 gX5_readLine_X5_fails rfl rfl rfl (by decide +kernel) ⟨Nat.le_of_ble_eq_true rfl, Nat.le_of_ble_eq_true rfl⟩) [0] [1, 2, 3, 4] [4, 0, 1, 2, 3] rfl rfl rfl rfl (by decide) rfl rfl 0 rfl rfl rfl hl.1 rfl rfl (Nat.le_of_ble_eq_true rfl) dX5_readLine_95 (fun H locs hX => ?_)
          exact L98  u33 u34 u18 u19 u20 u21 u22 _ _ _ hf hX (lv_sub hl [0] rfl)
    · replace hf := ite_f c15 hf
      obtain ⟨rfl, rfl, rfl, rfl, rfl, rfl, rfl⟩ := re7 hf
      exact hret _ _ _ _ hX dX5_readLine_72
  have L56 : ∀ (x1 : Int32) (broken : Int32) (brokenAt : Int32) (spot : Int32) (here : Int32) (token : Int32) (value : Int32) (readPage : (Nat → Int32)) (H : Heap) (locs : List Loc) (ls : Array Slot), fX5_readLine_L56 taped tape ends letters x1 broken brokenAt spot here token value readPage = some (o_broken', o_brokenAt', o_spot', o_here', o_token', o_value', o_readPage') → xSt A s D [(h0, .inr (5, [.ref h_state, .ref h_readPage, .ref h_tape, .int taped, .int fault, .int broken, .int brokenAt, .int spot, .int here, .int token, .int value, .ref h_ends, .ref h_letters, .int moved, .int turned, .int worst, .ref h_seen, .int seenMany, .ref h_lastBy, .ref h_isKept, .ref h_lanes, .ref h_lengths, .ref h_cells, .int torn])), (h_readPage, .inl (cI, 40, .inl readPage)), (h_tape, .inl (cI, 160, .inl tape)), (h_ends, .inl (cI, 7, .inl ends)), (h_letters, .inl (cI, 23, .inl letters))] H locs → lv_has ls 2 [(0, .ref h0), (1, .int x1)] → W p l e ({ frames := 4, cells := 0, slots := 0, locals := 91 } : Room) s m args below meth c H locs 0 0 Q (F0 m 56 ls []) := by
    intro  x1 broken brokenAt spot here token value readPage H locs ls hf hX hl
    unfold fX5_readLine_L56 at hf
    refine lv_aload_n (pc := 56) hx hb dX5_readLine_56 rfl (lv_at hl 0 rfl) ?_
    refine lv_iconst (pc := 57) (v := 5) hx hb dX5_readLine_57 (by decide) ?_
    obtain ⟨u38, u39, g40, hf⟩ := cl2_adv hf
    refine x_callVv (pc := 58) (rest := []) (w2 := [(h0, .inr (5, [.ref h_state, .ref h_readPage, .ref h_tape, .int taped, .int fault, .int u38, .int u39, .int spot, .int here, .int token, .int value, .ref h_ends, .ref h_letters, .int moved, .int turned, .int worst, .ref h_seen, .int seenMany, .ref h_lastBy, .ref h_isKept, .ref h_lanes, .ref h_lengths, .ref h_cells, .int torn])), (h_readPage, .inl (cI, 40, .inl readPage)), (h_tape, .inl (cI, 160, .inl tape)), (h_ends, .inl (cI, 7, .inl ends)), (h_letters, .inl (cI, 23, .inl letters))]) C hX (kX5_fails ad l D cI cB cZ cG cS h0 h_state h_readPage h_tape h_ends h_letters h_seen h_lastBy h_isKept h_lanes h_lengths h_cells taped fault broken brokenAt spot here token value moved turned worst seenMany torn u38 u39 (5 : Int32) g40) (cwV 1 C.1.2.2.2.2 gX5_readLine_X5_fails rfl rfl rfl (by decide +kernel) ⟨Nat.le_of_ble_eq_true rfl, Nat.le_of_ble_eq_true rfl⟩) [0] [1, 2, 3, 4] [4, 0, 1, 2, 3] rfl rfl rfl rfl (by decide) rfl rfl 0 rfl rfl rfl hl.1 rfl rfl (Nat.le_of_ble_eq_true rfl) dX5_readLine_58 (fun H locs hX => ?_)
    exact L61  x1 u38 u39 spot here token value readPage _ _ _ hf hX (lv_sub hl [0, 1] rfl)
  have L39 : ∀ (x1 : Int32) (broken : Int32) (brokenAt : Int32) (spot : Int32) (here : Int32) (token : Int32) (value : Int32) (readPage : (Nat → Int32)) (H : Heap) (locs : List Loc) (ls : Array Slot), fX5_readLine_L39 taped tape ends letters x1 broken brokenAt spot here token value readPage = some (o_broken', o_brokenAt', o_spot', o_here', o_token', o_value', o_readPage') → xSt A s D [(h0, .inr (5, [.ref h_state, .ref h_readPage, .ref h_tape, .int taped, .int fault, .int broken, .int brokenAt, .int spot, .int here, .int token, .int value, .ref h_ends, .ref h_letters, .int moved, .int turned, .int worst, .ref h_seen, .int seenMany, .ref h_lastBy, .ref h_isKept, .ref h_lanes, .ref h_lengths, .ref h_cells, .int torn])), (h_readPage, .inl (cI, 40, .inl readPage)), (h_tape, .inl (cI, 160, .inl tape)), (h_ends, .inl (cI, 7, .inl ends)), (h_letters, .inl (cI, 23, .inl letters))] H locs → lv_has ls 2 [(0, .ref h0), (1, .int x1)] → W p l e ({ frames := 4, cells := 0, slots := 0, locals := 91 } : Room) s m args below meth c H locs 0 0 Q (F0 m 39 ls []) := by
    intro  x1 broken brokenAt spot here token value readPage H locs ls hf hX hl
    unfold fX5_readLine_L39 at hf
    refine lv_iload_n (pc := 39) hx hb dX5_readLine_39 rfl (lv_at hl 1 rfl) ?_
    refine lv_iconst (pc := 40) (v := 3) hx hb dX5_readLine_40 (by decide) ?_
    refine lv_icmp_le (pc := 41) (tgt := 61) hx hb dX5_readLine_41 (by decide) (fun c7 => ?_) (fun c7 => ?_)
    · replace hf := ite_t c7 hf
      exact L61  x1 broken brokenAt spot here token value readPage _ _ _ hf hX (lv_sub hl [0, 1] rfl)
    · replace hf := ite_f c7 hf
      refine lv_aload_n (pc := 44) hx hb dX5_readLine_44 rfl (lv_at hl 0 rfl) ?_
      refine x_getf (pc := 45) (Cn := RX5) (T := TX5) (N := 24) C hX 0 rfl rfl miX5_readLine_X5 1 (by decide) mmX5_readLine_2 rfl dX5_readLine_45 ?_
      refine lv_bipush (pc := 48) (v := 37) hx hb dX5_readLine_48 (by decide) ?_
      replace hf := chk_adv hf
      have i36 := hf.1
      replace hf := hf.2
      refine x_iald (pc := 50) C hX 1 0 rfl rfl i36 dX5_readLine_50 ?_
      refine lv_bipush (pc := 51) (v := 16) hx hb dX5_readLine_51 (by decide) ?_
      refine lv_icmp_ne (pc := 53) (tgt := 61) hx hb dX5_readLine_53 (by decide) (fun c37 => ?_) (fun c37 => ?_)
      · replace hf := ite_f c37 hf
        exact L61  x1 broken brokenAt spot here token value readPage _ _ _ hf hX (lv_sub hl [0, 1] rfl)
      · replace hf := ite_t c37 hf
        exact L56  x1 broken brokenAt spot here token value readPage _ _ _ hf hX (lv_sub hl [0, 1] rfl)
  unfold fX5_readLine at hf
  refine lv_aload_n (pc := 0) hx hb dX5_readLine_0 rfl (lv_at hl 0 rfl) ?_
  obtain ⟨r1, g2, hf⟩ := cl1_adv hf
  refine x_callVi (pc := 1) (rest := []) (w2 := [(h0, .inr (5, [.ref h_state, .ref h_readPage, .ref h_tape, .int taped, .int fault, .int broken, .int brokenAt, .int spot, .int here, .int token, .int value, .ref h_ends, .ref h_letters, .int moved, .int turned, .int worst, .ref h_seen, .int seenMany, .ref h_lastBy, .ref h_isKept, .ref h_lanes, .ref h_lengths, .ref h_cells, .int torn])), (h_readPage, .inl (cI, 40, .inl readPage)), (h_tape, .inl (cI, 160, .inl tape)), (h_ends, .inl (cI, 7, .inl ends)), (h_letters, .inl (cI, 23, .inl letters))]) C hX (kX5_nameHere ad l D cI cB cZ cG cS h0 h_state h_readPage h_tape h_ends h_letters h_seen h_lastBy h_isKept h_lanes h_lengths h_cells taped fault broken brokenAt spot here token value moved turned worst seenMany torn tape ends letters r1 g2) (cwV 0 C.1.2.2.2.2 gX5_readLine_X5_nameHere rfl rfl rfl (by decide +kernel) ⟨Nat.le_of_ble_eq_true rfl, Nat.le_of_ble_eq_true rfl⟩) [0, 2, 3, 4] [1] [1, 0, 2, 3, 4] rfl rfl rfl rfl (by decide) rfl rfl 0 rfl rfl rfl hl.1 rfl rfl (Nat.le_of_ble_eq_true rfl) dX5_readLine_1 (fun H locs hX => ?_)
  refine lv_istore_n (pc := 4) (lv' := [(1, .int r1), (0, .ref h0)]) hx hb dX5_readLine_4 rfl hl (by decide) rfl (fun ls hl => ?_)
  refine lv_iload_n (pc := 5) hx hb dX5_readLine_5 rfl (lv_at hl 0 rfl) ?_
  refine lv_i2l (pc := 6) (v := ((r1).toInt64)) hx hb dX5_readLine_6 rfl ?_
  refine lv_lconst (pc := 7) (v := 0) hx hb dX5_readLine_7 (by decide) ?_
  refine lv_ldc2 (pc := 8) hx hb C.1.2.2.2.1 (C.1.2.2.2.2 _ mmX5_readLine_1) dX5_readLine_8 ?_
  obtain ⟨r3, g4, hf⟩ := cl1_adv hf
  refine x_callSi (pc := 11) (rest := []) C hX (kX5_in ad l D cI cB cZ cG cS r3 ((r1).toInt64) (0 : Int64) (5 : Int64) g4) (va_cwS 3 C.1.2.2.2.2 gX5_readLine_X5_in rfl rfl rfl (by decide +kernel) ⟨Nat.le_of_ble_eq_true rfl, Nat.le_of_ble_eq_true rfl⟩) hl.1 rfl rfl (Nat.le_of_ble_eq_true rfl) dX5_readLine_11 (fun H locs hX => ?_)
  refine lv_if_ne (pc := 14) (tgt := 23) hx hb dX5_readLine_14 (by decide) (fun c5 => ?_) (fun c5 => ?_)
  · replace hf := ite_f c5 hf
    refine lv_iload_n (pc := 23) hx hb dX5_readLine_23 rfl (lv_at hl 0 rfl) ?_
    refine lv_iconst (pc := 24) (v := 3) hx hb dX5_readLine_24 (by decide) ?_
    refine lv_icmp_gt (pc := 25) (tgt := 39) hx hb dX5_readLine_25 (by decide) (fun c6 => ?_) (fun c6 => ?_)
    · replace hf := ite_t c6 hf
      exact L39  r1 broken brokenAt spot here token value readPage _ _ _ hf hX (lv_sub hl [1, 0] rfl)
    · replace hf := ite_f c6 hf
      refine lv_aload_n (pc := 28) hx hb dX5_readLine_28 rfl (lv_at hl 1 rfl) ?_
      refine x_getf (pc := 29) (Cn := RX5) (T := TX5) (N := 24) C hX 0 rfl rfl miX5_readLine_X5 1 (by decide) mmX5_readLine_2 rfl dX5_readLine_29 ?_
      refine lv_bipush (pc := 32) (v := 20) hx hb dX5_readLine_32 (by decide) ?_
      replace hf := chk_adv hf
      have i41 := hf.1
      replace hf := hf.2
      refine x_iald (pc := 34) C hX 1 0 rfl rfl i41 dX5_readLine_34 ?_
      refine lv_iconst (pc := 35) (v := 4) hx hb dX5_readLine_35 (by decide) ?_
      refine lv_icmp_eq (pc := 36) (tgt := 56) hx hb dX5_readLine_36 (by decide) (fun c42 => ?_) (fun c42 => ?_)
      · replace hf := ite_t c42 hf
        exact L56  r1 broken brokenAt spot here token value readPage _ _ _ hf hX (lv_sub hl [1, 0] rfl)
      · replace hf := ite_f c42 hf
        exact L39  r1 broken brokenAt spot here token value readPage _ _ _ hf hX (lv_sub hl [1, 0] rfl)
  · replace hf := ite_t c5 hf
    refine lv_aload_n (pc := 17) hx hb dX5_readLine_17 rfl (lv_at hl 1 rfl) ?_
    refine lv_iconst (pc := 18) (v := 2) hx hb dX5_readLine_18 (by decide) ?_
    obtain ⟨u43, u44, g45, hf⟩ := cl2_adv hf
    refine x_callVv (pc := 19) (rest := []) (w2 := [(h0, .inr (5, [.ref h_state, .ref h_readPage, .ref h_tape, .int taped, .int fault, .int u43, .int u44, .int spot, .int here, .int token, .int value, .ref h_ends, .ref h_letters, .int moved, .int turned, .int worst, .ref h_seen, .int seenMany, .ref h_lastBy, .ref h_isKept, .ref h_lanes, .ref h_lengths, .ref h_cells, .int torn])), (h_readPage, .inl (cI, 40, .inl readPage)), (h_tape, .inl (cI, 160, .inl tape)), (h_ends, .inl (cI, 7, .inl ends)), (h_letters, .inl (cI, 23, .inl letters))]) C hX (kX5_fails ad l D cI cB cZ cG cS h0 h_state h_readPage h_tape h_ends h_letters h_seen h_lastBy h_isKept h_lanes h_lengths h_cells taped fault broken brokenAt spot here token value moved turned worst seenMany torn u43 u44 (2 : Int32) g45) (cwV 1 C.1.2.2.2.2 gX5_readLine_X5_fails rfl rfl rfl (by decide +kernel) ⟨Nat.le_of_ble_eq_true rfl, Nat.le_of_ble_eq_true rfl⟩) [0] [1, 2, 3, 4] [4, 0, 1, 2, 3] rfl rfl rfl rfl (by decide) rfl rfl 0 rfl rfl rfl hl.1 rfl rfl (Nat.le_of_ble_eq_true rfl) dX5_readLine_19 (fun H locs hX => ?_)
    obtain ⟨rfl, rfl, rfl, rfl, rfl, rfl, rfl⟩ := re7 hf
    exact hret _ _ _ _ hX dX5_readLine_22
