theorem mmX4_drift_1 : Cond.fieldLink RX4 10 "SlackArms" "now" "LSlackArms$Gear;" ∈ wsX4_drift := List.mem_of_getElem? (i := 1) rfl
theorem miX4_drift_X4 : ∀ w ∈ u_ws RX4 TX4 9, w ∈ wsX4_drift := fun w h => List.mem_cons_of_mem _ (List.mem_append_left _ (List.mem_append_right _ h))
theorem mmX4_drift_2 : Cond.fieldLink RX4 84 "SlackArms$Gear" "arms" "I" ∈ wsX4_drift := List.mem_of_getElem? (i := 2) rfl
theorem miX4_drift_X0 : ∀ w ∈ u_ws RX0 TX0 12, w ∈ wsX4_drift := fun w h => List.mem_cons_of_mem _ (List.mem_append_right _ h)
theorem mmX4_drift_3 : Cond.fieldLink RX4 16 "SlackArms" "trial" "LSlackArms$Gear;" ∈ wsX4_drift := List.mem_of_getElem? (i := 3) rfl
theorem mmX4_drift_5 : Cond.fieldLink RX4 163 "SlackArms$Gear" "travel" "I" ∈ wsX4_drift := List.mem_of_getElem? (i := 5) rfl
theorem mmX4_drift_4 : Cond.constant RX4 241 (1103515245) ∈ wsX4_drift := List.mem_of_getElem? (i := 4) rfl
set_option maxHeartbeats 4000000 in
set_option maxRecDepth 100000 in
theorem kX4_drift (ad : xAd) (l : Launch) (D : va_G) (cI cB cZ cG cS : ClassId) (h0 h_now h_trial h_images h_kept h_tape h_sights h_sheets h_looks h_now_kindRow h_now_slackRow h_now_placeRow h_now_turnRow h_now_wayRow h_now_strokeRow h_trial_kindRow h_trial_slackRow h_trial_placeRow h_trial_turnRow h_trial_wayRow h_trial_strokeRow : Nat) (tornFault : Int32) (now_arms : Int32) (now_strokes : Int32) (now_hand : Int32) (now_step : Int32) (now_travel : Int32) (now_reversals : Int32) (now_kindRow : (Nat → Int32)) (now_slackRow : (Nat → Int32)) (now_placeRow : (Nat → Int32)) (now_turnRow : (Nat → Int32)) (now_wayRow : (Nat → Int32)) (now_strokeRow : (Nat → Int32)) (trial_arms : Int32) (trial_strokes : Int32) (trial_hand : Int32) (trial_step : Int32) (trial_travel : Int32) (trial_reversals : Int32) (trial_kindRow : (Nat → Int32)) (trial_slackRow : (Nat → Int32)) (trial_placeRow : (Nat → Int32)) (trial_turnRow : (Nat → Int32)) (trial_wayRow : (Nat → Int32)) (trial_strokeRow : (Nat → Int32)) (r0 : Int32) (o_trial_arms' : Int32) (o_trial_strokes' : Int32) (o_trial_hand' : Int32) (o_trial_step' : Int32) (o_trial_travel' : Int32) (o_trial_reversals' : Int32) (o_trial_kindRow' : (Nat → Int32)) (o_trial_slackRow' : (Nat → Int32)) (o_trial_placeRow' : (Nat → Int32)) (o_trial_turnRow' : (Nat → Int32)) (o_trial_wayRow' : (Nat → Int32)) (o_trial_strokeRow' : (Nat → Int32)) (p1 : Int32) (p2 : Int32) (p3 : Int32) (hf : fX4_drift p1 p2 p3 now_arms now_strokes now_hand now_step now_kindRow now_slackRow now_placeRow now_turnRow now_wayRow now_strokeRow trial_arms trial_strokes trial_hand trial_step trial_travel trial_reversals trial_kindRow trial_slackRow trial_placeRow trial_turnRow trial_wayRow trial_strokeRow = some (r0, o_trial_arms', o_trial_strokes', o_trial_hand', o_trial_step', o_trial_travel', o_trial_reversals', o_trial_kindRow', o_trial_slackRow', o_trial_placeRow', o_trial_turnRow', o_trial_wayRow', o_trial_strokeRow')) : xMi ad l yX4_drift wsX4_drift ({ frames := 3, cells := 0, slots := 0, locals := 67 } : Room) D (xTY cI cB cZ cG cS) [.ref h0, .int p1, .int p2, .int p3] [(h0, .inr (4, [.ref h_now, .ref h_trial, .ref h_images, .ref h_kept, .ref h_tape, .ref h_sights, .ref h_sheets, .ref h_looks, .int tornFault])), (h_now, .inr (0, [.ref h_now_kindRow, .ref h_now_slackRow, .ref h_now_placeRow, .ref h_now_turnRow, .ref h_now_wayRow, .ref h_now_strokeRow, .int now_arms, .int now_strokes, .int now_hand, .int now_step, .int now_travel, .int now_reversals])), (h_now_kindRow, .inl (cI, 4, .inl now_kindRow)), (h_now_slackRow, .inl (cI, 4, .inl now_slackRow)), (h_now_placeRow, .inl (cI, 4, .inl now_placeRow)), (h_now_turnRow, .inl (cI, 4, .inl now_turnRow)), (h_now_wayRow, .inl (cI, 4, .inl now_wayRow)), (h_now_strokeRow, .inl (cI, 16, .inl now_strokeRow)), (h_trial, .inr (0, [.ref h_trial_kindRow, .ref h_trial_slackRow, .ref h_trial_placeRow, .ref h_trial_turnRow, .ref h_trial_wayRow, .ref h_trial_strokeRow, .int trial_arms, .int trial_strokes, .int trial_hand, .int trial_step, .int trial_travel, .int trial_reversals])), (h_trial_kindRow, .inl (cI, 4, .inl trial_kindRow)), (h_trial_slackRow, .inl (cI, 4, .inl trial_slackRow)), (h_trial_placeRow, .inl (cI, 4, .inl trial_placeRow)), (h_trial_turnRow, .inl (cI, 4, .inl trial_turnRow)), (h_trial_wayRow, .inl (cI, 4, .inl trial_wayRow)), (h_trial_strokeRow, .inl (cI, 16, .inl trial_strokeRow))] [(h0, .inr (4, [.ref h_now, .ref h_trial, .ref h_images, .ref h_kept, .ref h_tape, .ref h_sights, .ref h_sheets, .ref h_looks, .int tornFault])), (h_now, .inr (0, [.ref h_now_kindRow, .ref h_now_slackRow, .ref h_now_placeRow, .ref h_now_turnRow, .ref h_now_wayRow, .ref h_now_strokeRow, .int now_arms, .int now_strokes, .int now_hand, .int now_step, .int now_travel, .int now_reversals])), (h_now_kindRow, .inl (cI, 4, .inl now_kindRow)), (h_now_slackRow, .inl (cI, 4, .inl now_slackRow)), (h_now_placeRow, .inl (cI, 4, .inl now_placeRow)), (h_now_turnRow, .inl (cI, 4, .inl now_turnRow)), (h_now_wayRow, .inl (cI, 4, .inl now_wayRow)), (h_now_strokeRow, .inl (cI, 16, .inl now_strokeRow)), (h_trial, .inr (0, [.ref h_trial_kindRow, .ref h_trial_slackRow, .ref h_trial_placeRow, .ref h_trial_turnRow, .ref h_trial_wayRow, .ref h_trial_strokeRow, .int o_trial_arms', .int o_trial_strokes', .int o_trial_hand', .int o_trial_step', .int o_trial_travel', .int o_trial_reversals'])), (h_trial_kindRow, .inl (cI, 4, .inl o_trial_kindRow')), (h_trial_slackRow, .inl (cI, 4, .inl o_trial_slackRow')), (h_trial_placeRow, .inl (cI, 4, .inl o_trial_placeRow')), (h_trial_turnRow, .inl (cI, 4, .inl o_trial_turnRow')), (h_trial_wayRow, .inl (cI, 4, .inl o_trial_wayRow')), (h_trial_strokeRow, .inl (cI, 16, .inl o_trial_strokeRow'))] r0 := by
  refine xMi_of (cc := cX4_drift) (maxL := 7) (ty := .int) (by decide) rfl (Nat.le_of_ble_eq_true rfl) ?_
  intro p e s m args below meth c A Q ls C hX hl hret
  have hx := C.1.1
  have hb := C.1.2.1
  have hl : lv_has ls 7 [(0, .ref h0), (1, .int p1), (2, .int p2), (3, .int p3)] := hl
  have L50 : ∀ (n : Nat), ∀ (x2 : Int32) (x3 : Int32) (x4 : Int32) (x5 : Int32) (trial_arms : Int32) (trial_strokes : Int32) (trial_hand : Int32) (trial_step : Int32) (trial_travel : Int32) (trial_reversals : Int32) (trial_kindRow : (Nat → Int32)) (trial_slackRow : (Nat → Int32)) (trial_placeRow : (Nat → Int32)) (trial_turnRow : (Nat → Int32)) (trial_wayRow : (Nat → Int32)) (trial_strokeRow : (Nat → Int32)) (H : Heap) (locs : List Loc) (ls : Array Slot), fX4_drift_L50 now_arms now_strokes now_hand now_step now_kindRow now_slackRow now_placeRow now_turnRow now_wayRow now_strokeRow n x2 x3 x4 x5 trial_arms trial_strokes trial_hand trial_step trial_travel trial_reversals trial_kindRow trial_slackRow trial_placeRow trial_turnRow trial_wayRow trial_strokeRow = some (r0, o_trial_arms', o_trial_strokes', o_trial_hand', o_trial_step', o_trial_travel', o_trial_reversals', o_trial_kindRow', o_trial_slackRow', o_trial_placeRow', o_trial_turnRow', o_trial_wayRow', o_trial_strokeRow') → xSt A s D [(h0, .inr (4, [.ref h_now, .ref h_trial, .ref h_images, .ref h_kept, .ref h_tape, .ref h_sights, .ref h_sheets, .ref h_looks, .int tornFault])), (h_now, .inr (0, [.ref h_now_kindRow, .ref h_now_slackRow, .ref h_now_placeRow, .ref h_now_turnRow, .ref h_now_wayRow, .ref h_now_strokeRow, .int now_arms, .int now_strokes, .int now_hand, .int now_step, .int now_travel, .int now_reversals])), (h_now_kindRow, .inl (cI, 4, .inl now_kindRow)), (h_now_slackRow, .inl (cI, 4, .inl now_slackRow)), (h_now_placeRow, .inl (cI, 4, .inl now_placeRow)), (h_now_turnRow, .inl (cI, 4, .inl now_turnRow)), (h_now_wayRow, .inl (cI, 4, .inl now_wayRow)), (h_now_strokeRow, .inl (cI, 16, .inl now_strokeRow)), (h_trial, .inr (0, [.ref h_trial_kindRow, .ref h_trial_slackRow, .ref h_trial_placeRow, .ref h_trial_turnRow, .ref h_trial_wayRow, .ref h_trial_strokeRow, .int trial_arms, .int trial_strokes, .int trial_hand, .int trial_step, .int trial_travel, .int trial_reversals])), (h_trial_kindRow, .inl (cI, 4, .inl trial_kindRow)), (h_trial_slackRow, .inl (cI, 4, .inl trial_slackRow)), (h_trial_placeRow, .inl (cI, 4, .inl trial_placeRow)), (h_trial_turnRow, .inl (cI, 4, .inl trial_turnRow)), (h_trial_wayRow, .inl (cI, 4, .inl trial_wayRow)), (h_trial_strokeRow, .inl (cI, 16, .inl trial_strokeRow))] H locs → lv_has ls 7 [(0, .ref h0), (2, .int x2), (3, .int x3), (4, .int x4), (5, .int x5)] → W p l e ({ frames := 3, cells := 0, slots := 0, locals := 67 } : Room) s m args below meth c H locs 0 0 Q (F0 m 50 ls []) := by
    intro n
    induction n with
    | zero =>
      intro x2 x3 x4 x5 trial_arms trial_strokes trial_hand trial_step trial_travel trial_reversals trial_kindRow trial_slackRow trial_placeRow trial_turnRow trial_wayRow trial_strokeRow H locs ls hf
      rw [fX4_drift_L50] at hf
      cases hf
    | succ n ih =>
      intro x2 x3 x4 x5 trial_arms trial_strokes trial_hand trial_step trial_travel trial_reversals trial_kindRow trial_slackRow trial_placeRow trial_turnRow trial_wayRow trial_strokeRow H locs ls hf hX hl
      rw [fX4_drift_L50] at hf
      refine lv_iload (pc := 50) hx hb dX4_drift_50 (lv_at hl 4 rfl) ?_
      refine lv_iload_n (pc := 52) hx hb dX4_drift_52 rfl (lv_at hl 1 rfl) ?_
      refine lv_icmp_ge (pc := 53) (tgt := 99) hx hb dX4_drift_53 (by decide) (fun c21 => ?_) (fun c21 => ?_)
      · replace hf := ite_t c21 hf
        refine lv_iload_n (pc := 99) hx hb dX4_drift_99 rfl (lv_at hl 2 rfl) ?_
        refine lv_if_ne (pc := 100) (tgt := 113) hx hb dX4_drift_100 (by decide) (fun c22 => ?_) (fun c22 => ?_)
        · replace hf := ite_f c22 hf
          refine lv_aload_n (pc := 113) hx hb dX4_drift_113 rfl (lv_at hl 0 rfl) ?_
          refine x_getf (pc := 114) (Cn := RX4) (T := TX4) (N := 9) C hX 0 rfl rfl miX4_drift_X4 1 (by decide) mmX4_drift_3 rfl dX4_drift_114 ?_
          refine x_getf (pc := 117) (Cn := RX0) (T := TX0) (N := 12) C hX 8 rfl rfl miX4_drift_X0 10 (by decide) mmX4_drift_5 rfl dX4_drift_117 ?_
          obtain ⟨rfl, rfl, rfl, rfl, rfl, rfl, rfl, rfl, rfl, rfl, rfl, rfl, rfl⟩ := re13 hf
          exact hret _ _ _ _ _ rfl rfl hX dX4_drift_120
        · replace hf := ite_t c22 hf
          refine lv_aload_n (pc := 103) hx hb dX4_drift_103 rfl (lv_at hl 0 rfl) ?_
          refine x_getf (pc := 104) (Cn := RX4) (T := TX4) (N := 9) C hX 0 rfl rfl miX4_drift_X4 1 (by decide) mmX4_drift_3 rfl dX4_drift_104 ?_
          obtain ⟨r23, g24, hf⟩ := cl1_adv hf
          refine x_callVi (pc := 107) (rest := []) (w2 := [(h0, .inr (4, [.ref h_now, .ref h_trial, .ref h_images, .ref h_kept, .ref h_tape, .ref h_sights, .ref h_sheets, .ref h_looks, .int tornFault])), (h_now, .inr (0, [.ref h_now_kindRow, .ref h_now_slackRow, .ref h_now_placeRow, .ref h_now_turnRow, .ref h_now_wayRow, .ref h_now_strokeRow, .int now_arms, .int now_strokes, .int now_hand, .int now_step, .int now_travel, .int now_reversals])), (h_now_kindRow, .inl (cI, 4, .inl now_kindRow)), (h_now_slackRow, .inl (cI, 4, .inl now_slackRow)), (h_now_placeRow, .inl (cI, 4, .inl now_placeRow)), (h_now_turnRow, .inl (cI, 4, .inl now_turnRow)), (h_now_wayRow, .inl (cI, 4, .inl now_wayRow)), (h_now_strokeRow, .inl (cI, 16, .inl now_strokeRow)), (h_trial, .inr (0, [.ref h_trial_kindRow, .ref h_trial_slackRow, .ref h_trial_placeRow, .ref h_trial_turnRow, .ref h_trial_wayRow, .ref h_trial_strokeRow, .int trial_arms, .int trial_strokes, .int trial_hand, .int trial_step, .int trial_travel, .int trial_reversals])), (h_trial_kindRow, .inl (cI, 4, .inl trial_kindRow)), (h_trial_slackRow, .inl (cI, 4, .inl trial_slackRow)), (h_trial_placeRow, .inl (cI, 4, .inl trial_placeRow)), (h_trial_turnRow, .inl (cI, 4, .inl trial_turnRow)), (h_trial_wayRow, .inl (cI, 4, .inl trial_wayRow)), (h_trial_strokeRow, .inl (cI, 16, .inl trial_strokeRow))]) C hX (kX0_error ad l D cI cB cZ cG cS h_trial h_trial_kindRow h_trial_slackRow h_trial_placeRow h_trial_turnRow h_trial_wayRow h_trial_strokeRow trial_arms trial_strokes trial_hand trial_step trial_travel trial_reversals trial_kindRow trial_slackRow trial_placeRow trial_turnRow trial_wayRow trial_strokeRow r23 g24) (cwV 0 C.1.2.2.2.2 gX4_drift_X0_error rfl rfl rfl (by decide +kernel) ⟨Nat.le_of_ble_eq_true rfl, Nat.le_of_ble_eq_true rfl⟩) [8, 9, 10, 11, 12, 13, 14] [0, 1, 2, 3, 4, 5, 6, 7] [0, 1, 2, 3, 4, 5, 6, 7, 8, 9, 10, 11, 12, 13, 14] rfl rfl rfl rfl (by decide) rfl rfl 0 rfl rfl rfl hl.1 rfl rfl (Nat.le_of_ble_eq_true rfl) dX4_drift_107 (fun H locs hX => ?_)
          refine lv_goto (pc := 110) (tgt := 120) hx hb dX4_drift_110 (by decide) ?_
          obtain ⟨rfl, rfl, rfl, rfl, rfl, rfl, rfl, rfl, rfl, rfl, rfl, rfl, rfl⟩ := re13 hf
          exact hret _ _ _ _ _ rfl rfl hX dX4_drift_120
      · replace hf := ite_f c21 hf
        refine lv_iload (pc := 56) hx hb dX4_drift_56 (lv_at hl 3 rfl) ?_
        refine lv_ldc (pc := 58) hx hb C.1.2.2.2.1 (C.1.2.2.2.2 _ mmX4_drift_4) dX4_drift_58 ?_
        refine lv_imul (pc := 60) hx hb dX4_drift_60 ?_
        refine lv_sipush (pc := 61) (v := 12345) hx hb dX4_drift_61 (by decide) ?_
        refine lv_iadd (pc := 64) hx hb dX4_drift_64 ?_
        refine lv_topi (fun v25 ev25 => ?_)
        replace hf := bnd_use ev25 hf
        refine lv_istore (pc := 65) (lv' := [(4, .int v25), (0, .ref h0), (2, .int x2), (3, .int x3), (5, .int x5)]) hx hb dX4_drift_65 hl (by decide) rfl (fun ls hl => ?_)
        refine lv_iload (pc := 67) hx hb dX4_drift_67 (lv_at hl 0 rfl) ?_
        refine lv_bipush (pc := 69) (v := 16) hx hb dX4_drift_69 (by decide) ?_
        refine lv_iushr (pc := 71) (v := (iushr v25 (16 : Int32))) hx hb dX4_drift_71 rfl ?_
        refine lv_sipush (pc := 72) (v := 32767) hx hb dX4_drift_72 (by decide) ?_
        refine lv_iand (pc := 75) hx hb dX4_drift_75 ?_
        refine lv_topi (fun v26 ev26 => ?_)
        replace hf := bnd_use ev26 hf
        refine lv_istore (pc := 76) (lv' := [(6, .int v26), (4, .int v25), (0, .ref h0), (2, .int x2), (3, .int x3), (5, .int x5)]) hx hb dX4_drift_76 hl (by decide) rfl (fun ls hl => ?_)
        refine lv_aload_n (pc := 78) hx hb dX4_drift_78 rfl (lv_at hl 2 rfl) ?_
        refine x_getf (pc := 79) (Cn := RX4) (T := TX4) (N := 9) C hX 0 rfl rfl miX4_drift_X4 1 (by decide) mmX4_drift_3 rfl dX4_drift_79 ?_
        refine lv_iload (pc := 82) hx hb dX4_drift_82 (lv_at hl 0 rfl) ?_
        refine lv_bipush (pc := 84) (v := 19) hx hb dX4_drift_84 (by decide) ?_
        replace hf := chk_adv hf
        have i27 := hf.1
        replace hf := hf.2
        refine lv_irem (pc := 86) hx hb dX4_drift_86 i27 ?_
        refine lv_bipush (pc := 87) (v := 9) hx hb dX4_drift_87 (by decide) ?_
        refine lv_isub (pc := 89) hx hb dX4_drift_89 ?_
        obtain ⟨u28, u29, u30, u31, u32, u33, g34, hf⟩ := cl6_adv hf
        refine x_callVv (pc := 90) (rest := []) (w2 := [(h0, .inr (4, [.ref h_now, .ref h_trial, .ref h_images, .ref h_kept, .ref h_tape, .ref h_sights, .ref h_sheets, .ref h_looks, .int tornFault])), (h_now, .inr (0, [.ref h_now_kindRow, .ref h_now_slackRow, .ref h_now_placeRow, .ref h_now_turnRow, .ref h_now_wayRow, .ref h_now_strokeRow, .int now_arms, .int now_strokes, .int now_hand, .int now_step, .int now_travel, .int now_reversals])), (h_now_kindRow, .inl (cI, 4, .inl now_kindRow)), (h_now_slackRow, .inl (cI, 4, .inl now_slackRow)), (h_now_placeRow, .inl (cI, 4, .inl now_placeRow)), (h_now_turnRow, .inl (cI, 4, .inl now_turnRow)), (h_now_wayRow, .inl (cI, 4, .inl now_wayRow)), (h_now_strokeRow, .inl (cI, 16, .inl now_strokeRow)), (h_trial, .inr (0, [.ref h_trial_kindRow, .ref h_trial_slackRow, .ref h_trial_placeRow, .ref h_trial_turnRow, .ref h_trial_wayRow, .ref h_trial_strokeRow, .int trial_arms, .int trial_strokes, .int u28, .int trial_step, .int u29, .int u30])), (h_trial_kindRow, .inl (cI, 4, .inl trial_kindRow)), (h_trial_slackRow, .inl (cI, 4, .inl trial_slackRow)), (h_trial_placeRow, .inl (cI, 4, .inl u31)), (h_trial_turnRow, .inl (cI, 4, .inl u32)), (h_trial_wayRow, .inl (cI, 4, .inl u33)), (h_trial_strokeRow, .inl (cI, 16, .inl trial_strokeRow))]) C hX (kX0_moveHand ad l D cI cB cZ cG cS h_trial h_trial_kindRow h_trial_slackRow h_trial_placeRow h_trial_turnRow h_trial_wayRow h_trial_strokeRow trial_arms trial_strokes trial_hand trial_step trial_travel trial_reversals trial_kindRow trial_slackRow trial_placeRow trial_turnRow trial_wayRow trial_strokeRow u28 u29 u30 u31 u32 u33 ((v26 - v26 / (19 : Int32) * (19 : Int32)) - (9 : Int32)) g34) (cwV 1 C.1.2.2.2.2 gX4_drift_X0_moveHand rfl rfl rfl (by decide +kernel) ⟨Nat.le_of_ble_eq_true rfl, Nat.le_of_ble_eq_true rfl⟩) [8, 9, 10, 11, 12, 13, 14] [0, 1, 2, 3, 4, 5, 6, 7] [0, 1, 2, 3, 4, 5, 6, 7, 8, 9, 10, 11, 12, 13, 14] rfl rfl rfl rfl (by decide) rfl rfl 0 rfl rfl rfl hl.1 rfl rfl (Nat.le_of_ble_eq_true rfl) dX4_drift_90 (fun H locs hX => ?_)
        obtain ⟨v35, ev35⟩ : ∃ y : Int32, y = (x5 + (1 : Int32)) := ⟨_, rfl⟩
        replace hf := bnd_use ev35 hf
        refine lv_iinc (pc := 93) (v := v35) (lv' := [(5, .int v35), (6, .int v26), (4, .int v25), (0, .ref h0), (2, .int x2), (3, .int x3)]) hx hb dX4_drift_93 hl (k := 5) rfl (by rw [ev35]; rfl) (by decide) rfl (fun ls hl => ?_)
        refine lv_goto (pc := 96) (tgt := 50) hx hb dX4_drift_96 (by decide) ?_
        exact ih x2 x3 v25 v35 trial_arms trial_strokes u28 trial_step u29 u30 trial_kindRow trial_slackRow u31 u32 u33 trial_strokeRow _ _ _ hf hX (lv_sub hl [3, 4, 5, 2, 0] rfl)
  unfold fX4_drift at hf
  refine lv_iload_n (pc := 0) hx hb dX4_drift_0 rfl (lv_at hl 2 rfl) ?_
  refine lv_iconst (pc := 1) (v := 1) hx hb dX4_drift_1 (by decide) ?_
  refine lv_sipush (pc := 2) (v := 200) hx hb dX4_drift_2 (by decide) ?_
  obtain ⟨r1, g2, hf⟩ := cl1_adv hf
  refine x_callSi (pc := 5) (rest := []) C hX (kX4_within ad l D cI cB cZ cG cS r1 p2 (1 : Int32) (200 : Int32) g2) (va_cwS 3 C.1.2.2.2.2 gX4_drift_X4_within rfl rfl rfl (by decide +kernel) ⟨Nat.le_of_ble_eq_true rfl, Nat.le_of_ble_eq_true rfl⟩) hl.1 rfl rfl (Nat.le_of_ble_eq_true rfl) dX4_drift_5 (fun H locs hX => ?_)
  refine lv_if_eq (pc := 8) (tgt := 18) hx hb dX4_drift_8 (by decide) (fun c3 => ?_) (fun c3 => ?_)
  · replace hf := ite_t c3 hf
    refine lv_iconst (pc := 18) (v := -1) hx hb dX4_drift_18 (by decide) ?_
    obtain ⟨rfl, rfl, rfl, rfl, rfl, rfl, rfl, rfl, rfl, rfl, rfl, rfl, rfl⟩ := re13 hf
    exact hret _ _ _ _ _ rfl rfl hX dX4_drift_19
  · replace hf := ite_f c3 hf
    refine lv_iload_n (pc := 11) hx hb dX4_drift_11 rfl (lv_at hl 3 rfl) ?_
    obtain ⟨r4, g5, hf⟩ := cl1_adv hf
    refine x_callSi (pc := 12) (rest := []) C hX (kX4_isFirstOrSecond ad l D cI cB cZ cG cS r4 p3 g5) (va_cwS 1 C.1.2.2.2.2 gX4_drift_X4_isFirstOrSecond rfl rfl rfl (by decide +kernel) ⟨Nat.le_of_ble_eq_true rfl, Nat.le_of_ble_eq_true rfl⟩) hl.1 rfl rfl (Nat.le_of_ble_eq_true rfl) dX4_drift_12 (fun H locs hX => ?_)
    refine lv_if_ne (pc := 15) (tgt := 20) hx hb dX4_drift_15 (by decide) (fun c6 => ?_) (fun c6 => ?_)
    · replace hf := ite_f c6 hf
      refine lv_aload_n (pc := 20) hx hb dX4_drift_20 rfl (lv_at hl 0 rfl) ?_
      refine x_getf (pc := 21) (Cn := RX4) (T := TX4) (N := 9) C hX 0 rfl rfl miX4_drift_X4 0 (by decide) mmX4_drift_1 rfl dX4_drift_21 ?_
      refine x_getf (pc := 24) (Cn := RX0) (T := TX0) (N := 12) C hX 1 rfl rfl miX4_drift_X0 6 (by decide) mmX4_drift_2 rfl dX4_drift_24 ?_
      refine lv_if_ne (pc := 27) (tgt := 33) hx hb dX4_drift_27 (by decide) (fun c7 => ?_) (fun c7 => ?_)
      · replace hf := ite_f c7 hf
        refine lv_aload_n (pc := 33) hx hb dX4_drift_33 rfl (lv_at hl 0 rfl) ?_
        refine x_getf (pc := 34) (Cn := RX4) (T := TX4) (N := 9) C hX 0 rfl rfl miX4_drift_X4 1 (by decide) mmX4_drift_3 rfl dX4_drift_34 ?_
        refine lv_aload_n (pc := 37) hx hb dX4_drift_37 rfl (lv_at hl 0 rfl) ?_
        refine x_getf (pc := 38) (Cn := RX4) (T := TX4) (N := 9) C hX 0 rfl rfl miX4_drift_X4 0 (by decide) mmX4_drift_1 rfl dX4_drift_38 ?_
        obtain ⟨u8, u9, u10, u11, u12, u13, u14, u15, u16, u17, u18, u19, g20, hf⟩ := cl12_adv hf
        refine x_callVv (pc := 41) (rest := []) (w2 := [(h0, .inr (4, [.ref h_now, .ref h_trial, .ref h_images, .ref h_kept, .ref h_tape, .ref h_sights, .ref h_sheets, .ref h_looks, .int tornFault])), (h_now, .inr (0, [.ref h_now_kindRow, .ref h_now_slackRow, .ref h_now_placeRow, .ref h_now_turnRow, .ref h_now_wayRow, .ref h_now_strokeRow, .int now_arms, .int now_strokes, .int now_hand, .int now_step, .int now_travel, .int now_reversals])), (h_now_kindRow, .inl (cI, 4, .inl now_kindRow)), (h_now_slackRow, .inl (cI, 4, .inl now_slackRow)), (h_now_placeRow, .inl (cI, 4, .inl now_placeRow)), (h_now_turnRow, .inl (cI, 4, .inl now_turnRow)), (h_now_wayRow, .inl (cI, 4, .inl now_wayRow)), (h_now_strokeRow, .inl (cI, 16, .inl now_strokeRow)), (h_trial, .inr (0, [.ref h_trial_kindRow, .ref h_trial_slackRow, .ref h_trial_placeRow, .ref h_trial_turnRow, .ref h_trial_wayRow, .ref h_trial_strokeRow, .int u8, .int u9, .int u10, .int u11, .int u12, .int u13])), (h_trial_kindRow, .inl (cI, 4, .inl u14)), (h_trial_slackRow, .inl (cI, 4, .inl u15)), (h_trial_placeRow, .inl (cI, 4, .inl u16)), (h_trial_turnRow, .inl (cI, 4, .inl u17)), (h_trial_wayRow, .inl (cI, 4, .inl u18)), (h_trial_strokeRow, .inl (cI, 16, .inl u19))]) C hX (kX0_copyFrom ad l D cI cB cZ cG cS h_trial h_trial_kindRow h_trial_slackRow h_trial_placeRow h_trial_turnRow h_trial_wayRow h_trial_strokeRow h_now h_now_kindRow h_now_slackRow h_now_placeRow h_now_turnRow h_now_wayRow h_now_strokeRow trial_arms trial_strokes trial_hand trial_step trial_travel trial_reversals trial_kindRow trial_slackRow trial_placeRow trial_turnRow trial_wayRow trial_strokeRow now_arms now_strokes now_hand now_step now_travel now_reversals now_kindRow now_slackRow now_placeRow now_turnRow now_wayRow now_strokeRow u8 u9 u10 u11 u12 u13 u14 u15 u16 u17 u18 u19 g20) (cwV 1 C.1.2.2.2.2 gX4_drift_X0_copyFrom rfl rfl rfl (by decide +kernel) ⟨Nat.le_of_ble_eq_true rfl, Nat.le_of_ble_eq_true rfl⟩) [8, 9, 10, 11, 12, 13, 14, 1, 2, 3, 4, 5, 6, 7] [0] [0, 8, 9, 10, 11, 12, 13, 14, 1, 2, 3, 4, 5, 6, 7] rfl rfl rfl rfl (by decide) rfl rfl 0 rfl rfl rfl hl.1 rfl rfl (Nat.le_of_ble_eq_true rfl) dX4_drift_41 (fun H locs hX => ?_)
        refine lv_iload_n (pc := 44) hx hb dX4_drift_44 rfl (lv_at hl 1 rfl) ?_
        refine lv_istore (pc := 45) (lv' := [(4, .int p1), (0, .ref h0), (1, .int p1), (2, .int p2), (3, .int p3)]) hx hb dX4_drift_45 hl (by decide) rfl (fun ls hl => ?_)
        refine lv_iconst (pc := 47) (v := 0) hx hb dX4_drift_47 (by decide) ?_
        refine lv_istore (pc := 48) (lv' := [(5, .int (0 : Int32)), (4, .int p1), (0, .ref h0), (1, .int p1), (2, .int p2), (3, .int p3)]) hx hb dX4_drift_48 hl (by decide) rfl (fun ls hl => ?_)
        exact L50  xF p2 p3 p1 (0 : Int32) u8 u9 u10 u11 u12 u13 u14 u15 u16 u17 u18 u19 _ _ _ hf hX (lv_sub hl [2, 4, 5, 1, 0] rfl)
      · replace hf := ite_t c7 hf
        refine lv_bipush (pc := 30) (v := -2) hx hb dX4_drift_30 (by decide) ?_
        obtain ⟨rfl, rfl, rfl, rfl, rfl, rfl, rfl, rfl, rfl, rfl, rfl, rfl, rfl⟩ := re13 hf
        exact hret _ _ _ _ _ rfl rfl hX dX4_drift_32
    · replace hf := ite_t c6 hf
      refine lv_iconst (pc := 18) (v := -1) hx hb dX4_drift_18 (by decide) ?_
      obtain ⟨rfl, rfl, rfl, rfl, rfl, rfl, rfl, rfl, rfl, rfl, rfl, rfl, rfl⟩ := re13 hf
      exact hret _ _ _ _ _ rfl rfl hX dX4_drift_19
theorem mmX4_keep_1 : Cond.fieldLink RX4 23 "SlackArms" "kept" "[Z" ∈ wsX4_keep := List.mem_of_getElem? (i := 1) rfl
theorem miX4_keep_X4 : ∀ w ∈ u_ws RX4 TX4 9, w ∈ wsX4_keep := fun w h => List.mem_cons_of_mem _ (List.mem_append_left _ (List.mem_append_right _ h))
theorem mmX4_keep_2 : Cond.fieldLink RX4 19 "SlackArms" "images" "[LSlackArms$Gear;" ∈ wsX4_keep := List.mem_of_getElem? (i := 2) rfl
theorem mmX4_keep_3 : Cond.fieldLink RX4 10 "SlackArms" "now" "LSlackArms$Gear;" ∈ wsX4_keep := List.mem_of_getElem? (i := 3) rfl
set_option maxHeartbeats 4000000 in
set_option maxRecDepth 100000 in
theorem kX4_keep (ad : xAd) (l : Launch) (D : va_G) (cI cB cZ cG cS : ClassId) (h0 h_now h_trial h_images h_kept h_tape h_sights h_sheets h_looks h_now_kindRow h_now_slackRow h_now_placeRow h_now_turnRow h_now_wayRow h_now_strokeRow h_im0 h_im0_kindRow h_im0_slackRow h_im0_placeRow h_im0_turnRow h_im0_wayRow h_im0_strokeRow h_im1 h_im1_kindRow h_im1_slackRow h_im1_placeRow h_im1_turnRow h_im1_wayRow h_im1_strokeRow : Nat) (tornFault : Int32) (kept : (Nat → Int32)) (now_arms : Int32) (now_strokes : Int32) (now_hand : Int32) (now_step : Int32) (now_travel : Int32) (now_reversals : Int32) (now_kindRow : (Nat → Int32)) (now_slackRow : (Nat → Int32)) (now_placeRow : (Nat → Int32)) (now_turnRow : (Nat → Int32)) (now_wayRow : (Nat → Int32)) (now_strokeRow : (Nat → Int32)) (im0_arms : Int32) (im0_strokes : Int32) (im0_hand : Int32) (im0_step : Int32) (im0_travel : Int32) (im0_reversals : Int32) (im0_kindRow : (Nat → Int32)) (im0_slackRow : (Nat → Int32)) (im0_placeRow : (Nat → Int32)) (im0_turnRow : (Nat → Int32)) (im0_wayRow : (Nat → Int32)) (im0_strokeRow : (Nat → Int32)) (im1_arms : Int32) (im1_strokes : Int32) (im1_hand : Int32) (im1_step : Int32) (im1_travel : Int32) (im1_reversals : Int32) (im1_kindRow : (Nat → Int32)) (im1_slackRow : (Nat → Int32)) (im1_placeRow : (Nat → Int32)) (im1_turnRow : (Nat → Int32)) (im1_wayRow : (Nat → Int32)) (im1_strokeRow : (Nat → Int32)) (r0 : Int32) (o_kept' : (Nat → Int32)) (o_im0_arms' : Int32) (o_im0_strokes' : Int32) (o_im0_hand' : Int32) (o_im0_step' : Int32) (o_im0_travel' : Int32) (o_im0_reversals' : Int32) (o_im0_kindRow' : (Nat → Int32)) (o_im0_slackRow' : (Nat → Int32)) (o_im0_placeRow' : (Nat → Int32)) (o_im0_turnRow' : (Nat → Int32)) (o_im0_wayRow' : (Nat → Int32)) (o_im0_strokeRow' : (Nat → Int32)) (o_im1_arms' : Int32) (o_im1_strokes' : Int32) (o_im1_hand' : Int32) (o_im1_step' : Int32) (o_im1_travel' : Int32) (o_im1_reversals' : Int32) (o_im1_kindRow' : (Nat → Int32)) (o_im1_slackRow' : (Nat → Int32)) (o_im1_placeRow' : (Nat → Int32)) (o_im1_turnRow' : (Nat → Int32)) (o_im1_wayRow' : (Nat → Int32)) (o_im1_strokeRow' : (Nat → Int32)) (p1 : Int32) (hf : fX4_keep p1 kept now_arms now_strokes now_hand now_step now_kindRow now_slackRow now_placeRow now_turnRow now_wayRow now_strokeRow im0_arms im0_strokes im0_hand im0_step im0_travel im0_reversals im0_kindRow im0_slackRow im0_placeRow im0_turnRow im0_wayRow im0_strokeRow im1_arms im1_strokes im1_hand im1_step im1_travel im1_reversals im1_kindRow im1_slackRow im1_placeRow im1_turnRow im1_wayRow im1_strokeRow = some (r0, o_kept', o_im0_arms', o_im0_strokes', o_im0_hand', o_im0_step', o_im0_travel', o_im0_reversals', o_im0_kindRow', o_im0_slackRow', o_im0_placeRow', o_im0_turnRow', o_im0_wayRow', o_im0_strokeRow', o_im1_arms', o_im1_strokes', o_im1_hand', o_im1_step', o_im1_travel', o_im1_reversals', o_im1_kindRow', o_im1_slackRow', o_im1_placeRow', o_im1_turnRow', o_im1_wayRow', o_im1_strokeRow')) : xMi ad l yX4_keep wsX4_keep ({ frames := 2, cells := 0, slots := 0, locals := 42 } : Room) D (xTY cI cB cZ cG cS) [.ref h0, .int p1] [(h0, .inr (4, [.ref h_now, .ref h_trial, .ref h_images, .ref h_kept, .ref h_tape, .ref h_sights, .ref h_sheets, .ref h_looks, .int tornFault])), (h_images, .inl (cG, 2, .inr (.inr (.inr (.inr (xr2 h_im0 h_im1)))))), (h_kept, .inl (cZ, 2, .inl kept)), (h_now, .inr (0, [.ref h_now_kindRow, .ref h_now_slackRow, .ref h_now_placeRow, .ref h_now_turnRow, .ref h_now_wayRow, .ref h_now_strokeRow, .int now_arms, .int now_strokes, .int now_hand, .int now_step, .int now_travel, .int now_reversals])), (h_now_kindRow, .inl (cI, 4, .inl now_kindRow)), (h_now_slackRow, .inl (cI, 4, .inl now_slackRow)), (h_now_placeRow, .inl (cI, 4, .inl now_placeRow)), (h_now_turnRow, .inl (cI, 4, .inl now_turnRow)), (h_now_wayRow, .inl (cI, 4, .inl now_wayRow)), (h_now_strokeRow, .inl (cI, 16, .inl now_strokeRow)), (h_im0, .inr (0, [.ref h_im0_kindRow, .ref h_im0_slackRow, .ref h_im0_placeRow, .ref h_im0_turnRow, .ref h_im0_wayRow, .ref h_im0_strokeRow, .int im0_arms, .int im0_strokes, .int im0_hand, .int im0_step, .int im0_travel, .int im0_reversals])), (h_im0_kindRow, .inl (cI, 4, .inl im0_kindRow)), (h_im0_slackRow, .inl (cI, 4, .inl im0_slackRow)), (h_im0_placeRow, .inl (cI, 4, .inl im0_placeRow)), (h_im0_turnRow, .inl (cI, 4, .inl im0_turnRow)), (h_im0_wayRow, .inl (cI, 4, .inl im0_wayRow)), (h_im0_strokeRow, .inl (cI, 16, .inl im0_strokeRow)), (h_im1, .inr (0, [.ref h_im1_kindRow, .ref h_im1_slackRow, .ref h_im1_placeRow, .ref h_im1_turnRow, .ref h_im1_wayRow, .ref h_im1_strokeRow, .int im1_arms, .int im1_strokes, .int im1_hand, .int im1_step, .int im1_travel, .int im1_reversals])), (h_im1_kindRow, .inl (cI, 4, .inl im1_kindRow)), (h_im1_slackRow, .inl (cI, 4, .inl im1_slackRow)), (h_im1_placeRow, .inl (cI, 4, .inl im1_placeRow)), (h_im1_turnRow, .inl (cI, 4, .inl im1_turnRow)), (h_im1_wayRow, .inl (cI, 4, .inl im1_wayRow)), (h_im1_strokeRow, .inl (cI, 16, .inl im1_strokeRow))] [(h0, .inr (4, [.ref h_now, .ref h_trial, .ref h_images, .ref h_kept, .ref h_tape, .ref h_sights, .ref h_sheets, .ref h_looks, .int tornFault])), (h_images, .inl (cG, 2, .inr (.inr (.inr (.inr (xr2 h_im0 h_im1)))))), (h_kept, .inl (cZ, 2, .inl o_kept')), (h_now, .inr (0, [.ref h_now_kindRow, .ref h_now_slackRow, .ref h_now_placeRow, .ref h_now_turnRow, .ref h_now_wayRow, .ref h_now_strokeRow, .int now_arms, .int now_strokes, .int now_hand, .int now_step, .int now_travel, .int now_reversals])), (h_now_kindRow, .inl (cI, 4, .inl now_kindRow)), (h_now_slackRow, .inl (cI, 4, .inl now_slackRow)), (h_now_placeRow, .inl (cI, 4, .inl now_placeRow)), (h_now_turnRow, .inl (cI, 4, .inl now_turnRow)), (h_now_wayRow, .inl (cI, 4, .inl now_wayRow)), (h_now_strokeRow, .inl (cI, 16, .inl now_strokeRow)), (h_im0, .inr (0, [.ref h_im0_kindRow, .ref h_im0_slackRow, .ref h_im0_placeRow, .ref h_im0_turnRow, .ref h_im0_wayRow, .ref h_im0_strokeRow, .int o_im0_arms', .int o_im0_strokes', .int o_im0_hand', .int o_im0_step', .int o_im0_travel', .int o_im0_reversals'])), (h_im0_kindRow, .inl (cI, 4, .inl o_im0_kindRow')), (h_im0_slackRow, .inl (cI, 4, .inl o_im0_slackRow')), (h_im0_placeRow, .inl (cI, 4, .inl o_im0_placeRow')), (h_im0_turnRow, .inl (cI, 4, .inl o_im0_turnRow')), (h_im0_wayRow, .inl (cI, 4, .inl o_im0_wayRow')), (h_im0_strokeRow, .inl (cI, 16, .inl o_im0_strokeRow')), (h_im1, .inr (0, [.ref h_im1_kindRow, .ref h_im1_slackRow, .ref h_im1_placeRow, .ref h_im1_turnRow, .ref h_im1_wayRow, .ref h_im1_strokeRow, .int o_im1_arms', .int o_im1_strokes', .int o_im1_hand', .int o_im1_step', .int o_im1_travel', .int o_im1_reversals'])), (h_im1_kindRow, .inl (cI, 4, .inl o_im1_kindRow')), (h_im1_slackRow, .inl (cI, 4, .inl o_im1_slackRow')), (h_im1_placeRow, .inl (cI, 4, .inl o_im1_placeRow')), (h_im1_turnRow, .inl (cI, 4, .inl o_im1_turnRow')), (h_im1_wayRow, .inl (cI, 4, .inl o_im1_wayRow')), (h_im1_strokeRow, .inl (cI, 16, .inl o_im1_strokeRow'))] r0 := by
  refine xMi_of (cc := cX4_keep) (maxL := 3) (ty := .int) (by decide) rfl (Nat.le_of_ble_eq_true rfl) ?_
  intro p e s m args below meth c A Q ls C hX hl hret
  have hx := C.1.1
  have hb := C.1.2.1
  have hl : lv_has ls 3 [(0, .ref h0), (1, .int p1)] := hl
  have L25 : ∀ (x1 : Int32) (y0 : Int32) (kept : (Nat → Int32)) (im0_arms : Int32) (im0_strokes : Int32) (im0_hand : Int32) (im0_step : Int32) (im0_travel : Int32) (im0_reversals : Int32) (im0_kindRow : (Nat → Int32)) (im0_slackRow : (Nat → Int32)) (im0_placeRow : (Nat → Int32)) (im0_turnRow : (Nat → Int32)) (im0_wayRow : (Nat → Int32)) (im0_strokeRow : (Nat → Int32)) (im1_arms : Int32) (im1_strokes : Int32) (im1_hand : Int32) (im1_step : Int32) (im1_travel : Int32) (im1_reversals : Int32) (im1_kindRow : (Nat → Int32)) (im1_slackRow : (Nat → Int32)) (im1_placeRow : (Nat → Int32)) (im1_turnRow : (Nat → Int32)) (im1_wayRow : (Nat → Int32)) (im1_strokeRow : (Nat → Int32)) (H : Heap) (locs : List Loc) (ls : Array Slot), fX4_keep_L25 now_arms now_strokes now_hand now_step now_kindRow now_slackRow now_placeRow now_turnRow now_wayRow now_strokeRow x1 y0 kept im0_arms im0_strokes im0_hand im0_step im0_travel im0_reversals im0_kindRow im0_slackRow im0_placeRow im0_turnRow im0_wayRow im0_strokeRow im1_arms im1_strokes im1_hand im1_step im1_travel im1_reversals im1_kindRow im1_slackRow im1_placeRow im1_turnRow im1_wayRow im1_strokeRow = some (r0, o_kept', o_im0_arms', o_im0_strokes', o_im0_hand', o_im0_step', o_im0_travel', o_im0_reversals', o_im0_kindRow', o_im0_slackRow', o_im0_placeRow', o_im0_turnRow', o_im0_wayRow', o_im0_strokeRow', o_im1_arms', o_im1_strokes', o_im1_hand', o_im1_step', o_im1_travel', o_im1_reversals', o_im1_kindRow', o_im1_slackRow', o_im1_placeRow', o_im1_turnRow', o_im1_wayRow', o_im1_strokeRow') → xSt A s D [(h0, .inr (4, [.ref h_now, .ref h_trial, .ref h_images, .ref h_kept, .ref h_tape, .ref h_sights, .ref h_sheets, .ref h_looks, .int tornFault])), (h_images, .inl (cG, 2, .inr (.inr (.inr (.inr (xr2 h_im0 h_im1)))))), (h_kept, .inl (cZ, 2, .inl kept)), (h_now, .inr (0, [.ref h_now_kindRow, .ref h_now_slackRow, .ref h_now_placeRow, .ref h_now_turnRow, .ref h_now_wayRow, .ref h_now_strokeRow, .int now_arms, .int now_strokes, .int now_hand, .int now_step, .int now_travel, .int now_reversals])), (h_now_kindRow, .inl (cI, 4, .inl now_kindRow)), (h_now_slackRow, .inl (cI, 4, .inl now_slackRow)), (h_now_placeRow, .inl (cI, 4, .inl now_placeRow)), (h_now_turnRow, .inl (cI, 4, .inl now_turnRow)), (h_now_wayRow, .inl (cI, 4, .inl now_wayRow)), (h_now_strokeRow, .inl (cI, 16, .inl now_strokeRow)), (h_im0, .inr (0, [.ref h_im0_kindRow, .ref h_im0_slackRow, .ref h_im0_placeRow, .ref h_im0_turnRow, .ref h_im0_wayRow, .ref h_im0_strokeRow, .int im0_arms, .int im0_strokes, .int im0_hand, .int im0_step, .int im0_travel, .int im0_reversals])), (h_im0_kindRow, .inl (cI, 4, .inl im0_kindRow)), (h_im0_slackRow, .inl (cI, 4, .inl im0_slackRow)), (h_im0_placeRow, .inl (cI, 4, .inl im0_placeRow)), (h_im0_turnRow, .inl (cI, 4, .inl im0_turnRow)), (h_im0_wayRow, .inl (cI, 4, .inl im0_wayRow)), (h_im0_strokeRow, .inl (cI, 16, .inl im0_strokeRow)), (h_im1, .inr (0, [.ref h_im1_kindRow, .ref h_im1_slackRow, .ref h_im1_placeRow, .ref h_im1_turnRow, .ref h_im1_wayRow, .ref h_im1_strokeRow, .int im1_arms, .int im1_strokes, .int im1_hand, .int im1_step, .int im1_travel, .int im1_reversals])), (h_im1_kindRow, .inl (cI, 4, .inl im1_kindRow)), (h_im1_slackRow, .inl (cI, 4, .inl im1_slackRow)), (h_im1_placeRow, .inl (cI, 4, .inl im1_placeRow)), (h_im1_turnRow, .inl (cI, 4, .inl im1_turnRow)), (h_im1_wayRow, .inl (cI, 4, .inl im1_wayRow)), (h_im1_strokeRow, .inl (cI, 16, .inl im1_strokeRow))] H locs → lv_has ls 3 [(0, .ref h0), (1, .int x1)] → W p l e ({ frames := 2, cells := 0, slots := 0, locals := 42 } : Room) s m args below meth c H locs 0 0 Q (F0 m 25 ls [.int y0]) := by
    intro  x1 y0 kept im0_arms im0_strokes im0_hand im0_step im0_travel im0_reversals im0_kindRow im0_slackRow im0_placeRow im0_turnRow im0_wayRow im0_strokeRow im1_arms im1_strokes im1_hand im1_step im1_travel im1_reversals im1_kindRow im1_slackRow im1_placeRow im1_turnRow im1_wayRow im1_strokeRow H locs ls hf hX hl
    unfold fX4_keep_L25 at hf
    refine lv_istore_n (pc := 25) (lv' := [(2, .int y0), (0, .ref h0), (1, .int x1)]) hx hb dX4_keep_25 rfl hl (by decide) rfl (fun ls hl => ?_)
    refine lv_aload_n (pc := 26) hx hb dX4_keep_26 rfl (lv_at hl 1 rfl) ?_
    refine x_getf (pc := 27) (Cn := RX4) (T := TX4) (N := 9) C hX 0 rfl rfl miX4_keep_X4 2 (by decide) mmX4_keep_2 rfl dX4_keep_27 ?_
    refine lv_iload_n (pc := 30) hx hb dX4_keep_30 rfl (lv_at hl 2 rfl) ?_
    replace hf := chk_adv hf
    have i6 := hf.1
    replace hf := hf.2
    rcases Decidable.em (x1 = 0) with c7 | c7
    · replace hf := ite_t c7 hf
      refine x_aald (pc := 31) (v := .ref h_im0) C hX 1 3 rfl rfl i6 (by rw [c7]; rfl) dX4_keep_31 ?_
      refine lv_aload_n (pc := 32) hx hb dX4_keep_32 rfl (lv_at hl 1 rfl) ?_
      refine x_getf (pc := 33) (Cn := RX4) (T := TX4) (N := 9) C hX 0 rfl rfl miX4_keep_X4 0 (by decide) mmX4_keep_3 rfl dX4_keep_33 ?_
      obtain ⟨u8, u9, u10, u11, u12, u13, u14, u15, u16, u17, u18, u19, g20, hf⟩ := cl12_adv hf
      refine x_callVv (pc := 36) (rest := []) (w2 := [(h0, .inr (4, [.ref h_now, .ref h_trial, .ref h_images, .ref h_kept, .ref h_tape, .ref h_sights, .ref h_sheets, .ref h_looks, .int tornFault])), (h_images, .inl (cG, 2, .inr (.inr (.inr (.inr (xr2 h_im0 h_im1)))))), (h_kept, .inl (cZ, 2, .inl kept)), (h_now, .inr (0, [.ref h_now_kindRow, .ref h_now_slackRow, .ref h_now_placeRow, .ref h_now_turnRow, .ref h_now_wayRow, .ref h_now_strokeRow, .int now_arms, .int now_strokes, .int now_hand, .int now_step, .int now_travel, .int now_reversals])), (h_now_kindRow, .inl (cI, 4, .inl now_kindRow)), (h_now_slackRow, .inl (cI, 4, .inl now_slackRow)), (h_now_placeRow, .inl (cI, 4, .inl now_placeRow)), (h_now_turnRow, .inl (cI, 4, .inl now_turnRow)), (h_now_wayRow, .inl (cI, 4, .inl now_wayRow)), (h_now_strokeRow, .inl (cI, 16, .inl now_strokeRow)), (h_im0, .inr (0, [.ref h_im0_kindRow, .ref h_im0_slackRow, .ref h_im0_placeRow, .ref h_im0_turnRow, .ref h_im0_wayRow, .ref h_im0_strokeRow, .int u8, .int u9, .int u10, .int u11, .int u12, .int u13])), (h_im0_kindRow, .inl (cI, 4, .inl u14)), (h_im0_slackRow, .inl (cI, 4, .inl u15)), (h_im0_placeRow, .inl (cI, 4, .inl u16)), (h_im0_turnRow, .inl (cI, 4, .inl u17)), (h_im0_wayRow, .inl (cI, 4, .inl u18)), (h_im0_strokeRow, .inl (cI, 16, .inl u19)), (h_im1, .inr (0, [.ref h_im1_kindRow, .ref h_im1_slackRow, .ref h_im1_placeRow, .ref h_im1_turnRow, .ref h_im1_wayRow, .ref h_im1_strokeRow, .int im1_arms, .int im1_strokes, .int im1_hand, .int im1_step, .int im1_travel, .int im1_reversals])), (h_im1_kindRow, .inl (cI, 4, .inl im1_kindRow)), (h_im1_slackRow, .inl (cI, 4, .inl im1_slackRow)), (h_im1_placeRow, .inl (cI, 4, .inl im1_placeRow)), (h_im1_turnRow, .inl (cI, 4, .inl im1_turnRow)), (h_im1_wayRow, .inl (cI, 4, .inl im1_wayRow)), (h_im1_strokeRow, .inl (cI, 16, .inl im1_strokeRow))]) C hX (kX0_copyFrom ad l D cI cB cZ cG cS h_im0 h_im0_kindRow h_im0_slackRow h_im0_placeRow h_im0_turnRow h_im0_wayRow h_im0_strokeRow h_now h_now_kindRow h_now_slackRow h_now_placeRow h_now_turnRow h_now_wayRow h_now_strokeRow im0_arms im0_strokes im0_hand im0_step im0_travel im0_reversals im0_kindRow im0_slackRow im0_placeRow im0_turnRow im0_wayRow im0_strokeRow now_arms now_strokes now_hand now_step now_travel now_reversals now_kindRow now_slackRow now_placeRow now_turnRow now_wayRow now_strokeRow u8 u9 u10 u11 u12 u13 u14 u15 u16 u17 u18 u19 g20) (cwV 1 C.1.2.2.2.2 gX4_keep_X0_copyFrom rfl rfl rfl (by decide +kernel) ⟨Nat.le_of_ble_eq_true rfl, Nat.le_of_ble_eq_true rfl⟩) [10, 11, 12, 13, 14, 15, 16, 3, 4, 5, 6, 7, 8, 9] [0, 1, 2, 17, 18, 19, 20, 21, 22, 23] [0, 1, 2, 17, 18, 19, 20, 21, 22, 23, 10, 11, 12, 13, 14, 15, 16, 3, 4, 5, 6, 7, 8, 9] rfl rfl rfl rfl (by decide) rfl rfl 0 rfl rfl rfl hl.1 rfl rfl (Nat.le_of_ble_eq_true rfl) dX4_keep_36 (fun H locs hX => ?_)
      refine lv_aload_n (pc := 39) hx hb dX4_keep_39 rfl (lv_at hl 1 rfl) ?_
      refine x_getf (pc := 40) (Cn := RX4) (T := TX4) (N := 9) C hX 0 rfl rfl miX4_keep_X4 3 (by decide) mmX4_keep_1 rfl dX4_keep_40 ?_
      refine lv_iload_n (pc := 43) hx hb dX4_keep_43 rfl (lv_at hl 2 rfl) ?_
      refine lv_iconst (pc := 44) (v := 1) hx hb dX4_keep_44 (by decide) ?_
      replace hf := chk_adv hf
      have i21 := hf.1
      replace hf := hf.2
      obtain ⟨f22, ef22⟩ : ∃ y : Nat → Int32, y = (upd kept (x1).toNatClampNeg (vp_nar .boolean (1 : Int32))) := ⟨_, rfl⟩
      replace hf := bnd_use ef22 hf
      refine x_zast (pc := 45) C hX 2 2 rfl rfl i21 [(h0, .inr (4, [.ref h_now, .ref h_trial, .ref h_images, .ref h_kept, .ref h_tape, .ref h_sights, .ref h_sheets, .ref h_looks, .int tornFault])), (h_images, .inl (cG, 2, .inr (.inr (.inr (.inr (xr2 h_im0 h_im1)))))), (h_kept, .inl (cZ, 2, .inl f22)), (h_now, .inr (0, [.ref h_now_kindRow, .ref h_now_slackRow, .ref h_now_placeRow, .ref h_now_turnRow, .ref h_now_wayRow, .ref h_now_strokeRow, .int now_arms, .int now_strokes, .int now_hand, .int now_step, .int now_travel, .int now_reversals])), (h_now_kindRow, .inl (cI, 4, .inl now_kindRow)), (h_now_slackRow, .inl (cI, 4, .inl now_slackRow)), (h_now_placeRow, .inl (cI, 4, .inl now_placeRow)), (h_now_turnRow, .inl (cI, 4, .inl now_turnRow)), (h_now_wayRow, .inl (cI, 4, .inl now_wayRow)), (h_now_strokeRow, .inl (cI, 16, .inl now_strokeRow)), (h_im0, .inr (0, [.ref h_im0_kindRow, .ref h_im0_slackRow, .ref h_im0_placeRow, .ref h_im0_turnRow, .ref h_im0_wayRow, .ref h_im0_strokeRow, .int u8, .int u9, .int u10, .int u11, .int u12, .int u13])), (h_im0_kindRow, .inl (cI, 4, .inl u14)), (h_im0_slackRow, .inl (cI, 4, .inl u15)), (h_im0_placeRow, .inl (cI, 4, .inl u16)), (h_im0_turnRow, .inl (cI, 4, .inl u17)), (h_im0_wayRow, .inl (cI, 4, .inl u18)), (h_im0_strokeRow, .inl (cI, 16, .inl u19)), (h_im1, .inr (0, [.ref h_im1_kindRow, .ref h_im1_slackRow, .ref h_im1_placeRow, .ref h_im1_turnRow, .ref h_im1_wayRow, .ref h_im1_strokeRow, .int im1_arms, .int im1_strokes, .int im1_hand, .int im1_step, .int im1_travel, .int im1_reversals])), (h_im1_kindRow, .inl (cI, 4, .inl im1_kindRow)), (h_im1_slackRow, .inl (cI, 4, .inl im1_slackRow)), (h_im1_placeRow, .inl (cI, 4, .inl im1_placeRow)), (h_im1_turnRow, .inl (cI, 4, .inl im1_turnRow)), (h_im1_wayRow, .inl (cI, 4, .inl im1_wayRow)), (h_im1_strokeRow, .inl (cI, 16, .inl im1_strokeRow))] (by subst ef22; rfl) dX4_keep_45 (fun H locs hX => ?_)
      refine lv_iload_n (pc := 46) hx hb dX4_keep_46 rfl (lv_at hl 0 rfl) ?_
      obtain ⟨rfl, rfl, rfl, rfl, rfl, rfl, rfl, rfl, rfl, rfl, rfl, rfl, rfl, rfl, rfl, rfl, rfl, rfl, rfl, rfl, rfl, rfl, rfl, rfl, rfl, rfl⟩ := re26 hf
      exact hret _ _ _ _ _ rfl rfl hX dX4_keep_47
    · replace hf := ite_f c7 hf
      rcases Decidable.em (x1 = 1) with c23 | c23
      · replace hf := ite_t c23 hf
        refine x_aald (pc := 31) (v := .ref h_im1) C hX 1 3 rfl rfl i6 (by rw [c23]; rfl) dX4_keep_31 ?_
        refine lv_aload_n (pc := 32) hx hb dX4_keep_32 rfl (lv_at hl 1 rfl) ?_
        refine x_getf (pc := 33) (Cn := RX4) (T := TX4) (N := 9) C hX 0 rfl rfl miX4_keep_X4 0 (by decide) mmX4_keep_3 rfl dX4_keep_33 ?_
        obtain ⟨u24, u25, u26, u27, u28, u29, u30, u31, u32, u33, u34, u35, g36, hf⟩ := cl12_adv hf
        refine x_callVv (pc := 36) (rest := []) (w2 := [(h0, .inr (4, [.ref h_now, .ref h_trial, .ref h_images, .ref h_kept, .ref h_tape, .ref h_sights, .ref h_sheets, .ref h_looks, .int tornFault])), (h_images, .inl (cG, 2, .inr (.inr (.inr (.inr (xr2 h_im0 h_im1)))))), (h_kept, .inl (cZ, 2, .inl kept)), (h_now, .inr (0, [.ref h_now_kindRow, .ref h_now_slackRow, .ref h_now_placeRow, .ref h_now_turnRow, .ref h_now_wayRow, .ref h_now_strokeRow, .int now_arms, .int now_strokes, .int now_hand, .int now_step, .int now_travel, .int now_reversals])), (h_now_kindRow, .inl (cI, 4, .inl now_kindRow)), (h_now_slackRow, .inl (cI, 4, .inl now_slackRow)), (h_now_placeRow, .inl (cI, 4, .inl now_placeRow)), (h_now_turnRow, .inl (cI, 4, .inl now_turnRow)), (h_now_wayRow, .inl (cI, 4, .inl now_wayRow)), (h_now_strokeRow, .inl (cI, 16, .inl now_strokeRow)), (h_im0, .inr (0, [.ref h_im0_kindRow, .ref h_im0_slackRow, .ref h_im0_placeRow, .ref h_im0_turnRow, .ref h_im0_wayRow, .ref h_im0_strokeRow, .int im0_arms, .int im0_strokes, .int im0_hand, .int im0_step, .int im0_travel, .int im0_reversals])), (h_im0_kindRow, .inl (cI, 4, .inl im0_kindRow)), (h_im0_slackRow, .inl (cI, 4, .inl im0_slackRow)), (h_im0_placeRow, .inl (cI, 4, .inl im0_placeRow)), (h_im0_turnRow, .inl (cI, 4, .inl im0_turnRow)), (h_im0_wayRow, .inl (cI, 4, .inl im0_wayRow)), (h_im0_strokeRow, .inl (cI, 16, .inl im0_strokeRow)), (h_im1, .inr (0, [.ref h_im1_kindRow, .ref h_im1_slackRow, .ref h_im1_placeRow, .ref h_im1_turnRow, .ref h_im1_wayRow, .ref h_im1_strokeRow, .int u24, .int u25, .int u26, .int u27, .int u28, .int u29])), (h_im1_kindRow, .inl (cI, 4, .inl u30)), (h_im1_slackRow, .inl (cI, 4, .inl u31)), (h_im1_placeRow, .inl (cI, 4, .inl u32)), (h_im1_turnRow, .inl (cI, 4, .inl u33)), (h_im1_wayRow, .inl (cI, 4, .inl u34)), (h_im1_strokeRow, .inl (cI, 16, .inl u35))]) C hX (kX0_copyFrom ad l D cI cB cZ cG cS h_im1 h_im1_kindRow h_im1_slackRow h_im1_placeRow h_im1_turnRow h_im1_wayRow h_im1_strokeRow h_now h_now_kindRow h_now_slackRow h_now_placeRow h_now_turnRow h_now_wayRow h_now_strokeRow im1_arms im1_strokes im1_hand im1_step im1_travel im1_reversals im1_kindRow im1_slackRow im1_placeRow im1_turnRow im1_wayRow im1_strokeRow now_arms now_strokes now_hand now_step now_travel now_reversals now_kindRow now_slackRow now_placeRow now_turnRow now_wayRow now_strokeRow u24 u25 u26 u27 u28 u29 u30 u31 u32 u33 u34 u35 g36) (cwV 1 C.1.2.2.2.2 gX4_keep_X0_copyFrom rfl rfl rfl (by decide +kernel) ⟨Nat.le_of_ble_eq_true rfl, Nat.le_of_ble_eq_true rfl⟩) [17, 18, 19, 20, 21, 22, 23, 3, 4, 5, 6, 7, 8, 9] [0, 1, 2, 10, 11, 12, 13, 14, 15, 16] [0, 1, 2, 17, 18, 19, 20, 21, 22, 23, 3, 4, 5, 6, 7, 8, 9, 10, 11, 12, 13, 14, 15, 16] rfl rfl rfl rfl (by decide) rfl rfl 0 rfl rfl rfl hl.1 rfl rfl (Nat.le_of_ble_eq_true rfl) dX4_keep_36 (fun H locs hX => ?_)
        refine lv_aload_n (pc := 39) hx hb dX4_keep_39 rfl (lv_at hl 1 rfl) ?_
        refine x_getf (pc := 40) (Cn := RX4) (T := TX4) (N := 9) C hX 0 rfl rfl miX4_keep_X4 3 (by decide) mmX4_keep_1 rfl dX4_keep_40 ?_
        refine lv_iload_n (pc := 43) hx hb dX4_keep_43 rfl (lv_at hl 2 rfl) ?_
        refine lv_iconst (pc := 44) (v := 1) hx hb dX4_keep_44 (by decide) ?_
        replace hf := chk_adv hf
        have i37 := hf.1
        replace hf := hf.2
        obtain ⟨f38, ef38⟩ : ∃ y : Nat → Int32, y = (upd kept (x1).toNatClampNeg (vp_nar .boolean (1 : Int32))) := ⟨_, rfl⟩
        replace hf := bnd_use ef38 hf
        refine x_zast (pc := 45) C hX 2 2 rfl rfl i37 [(h0, .inr (4, [.ref h_now, .ref h_trial, .ref h_images, .ref h_kept, .ref h_tape, .ref h_sights, .ref h_sheets, .ref h_looks, .int tornFault])), (h_images, .inl (cG, 2, .inr (.inr (.inr (.inr (xr2 h_im0 h_im1)))))), (h_kept, .inl (cZ, 2, .inl f38)), (h_now, .inr (0, [.ref h_now_kindRow, .ref h_now_slackRow, .ref h_now_placeRow, .ref h_now_turnRow, .ref h_now_wayRow, .ref h_now_strokeRow, .int now_arms, .int now_strokes, .int now_hand, .int now_step, .int now_travel, .int now_reversals])), (h_now_kindRow, .inl (cI, 4, .inl now_kindRow)), (h_now_slackRow, .inl (cI, 4, .inl now_slackRow)), (h_now_placeRow, .inl (cI, 4, .inl now_placeRow)), (h_now_turnRow, .inl (cI, 4, .inl now_turnRow)), (h_now_wayRow, .inl (cI, 4, .inl now_wayRow)), (h_now_strokeRow, .inl (cI, 16, .inl now_strokeRow)), (h_im0, .inr (0, [.ref h_im0_kindRow, .ref h_im0_slackRow, .ref h_im0_placeRow, .ref h_im0_turnRow, .ref h_im0_wayRow, .ref h_im0_strokeRow, .int im0_arms, .int im0_strokes, .int im0_hand, .int im0_step, .int im0_travel, .int im0_reversals])), (h_im0_kindRow, .inl (cI, 4, .inl im0_kindRow)), (h_im0_slackRow, .inl (cI, 4, .inl im0_slackRow)), (h_im0_placeRow, .inl (cI, 4, .inl im0_placeRow)), (h_im0_turnRow, .inl (cI, 4, .inl im0_turnRow)), (h_im0_wayRow, .inl (cI, 4, .inl im0_wayRow)), (h_im0_strokeRow, .inl (cI, 16, .inl im0_strokeRow)), (h_im1, .inr (0, [.ref h_im1_kindRow, .ref h_im1_slackRow, .ref h_im1_placeRow, .ref h_im1_turnRow, .ref h_im1_wayRow, .ref h_im1_strokeRow, .int u24, .int u25, .int u26, .int u27, .int u28, .int u29])), (h_im1_kindRow, .inl (cI, 4, .inl u30)), (h_im1_slackRow, .inl (cI, 4, .inl u31)), (h_im1_placeRow, .inl (cI, 4, .inl u32)), (h_im1_turnRow, .inl (cI, 4, .inl u33)), (h_im1_wayRow, .inl (cI, 4, .inl u34)), (h_im1_strokeRow, .inl (cI, 16, .inl u35))] (by subst ef38; rfl) dX4_keep_45 (fun H locs hX => ?_)
        refine lv_iload_n (pc := 46) hx hb dX4_keep_46 rfl (lv_at hl 0 rfl) ?_
        obtain ⟨rfl, rfl, rfl, rfl, rfl, rfl, rfl, rfl, rfl, rfl, rfl, rfl, rfl, rfl, rfl, rfl, rfl, rfl, rfl, rfl, rfl, rfl, rfl, rfl, rfl, rfl⟩ := re26 hf
        exact hret _ _ _ _ _ rfl rfl hX dX4_keep_47
      · replace hf := ite_f c23 hf
        cases hf
  unfold fX4_keep at hf
  refine lv_iload_n (pc := 0) hx hb dX4_keep_0 rfl (lv_at hl 1 rfl) ?_
  refine lv_iconst (pc := 1) (v := 0) hx hb dX4_keep_1 (by decide) ?_
  refine lv_iconst (pc := 2) (v := 1) hx hb dX4_keep_2 (by decide) ?_
  obtain ⟨r1, g2, hf⟩ := cl1_adv hf
  refine x_callSi (pc := 3) (rest := []) C hX (kX4_within ad l D cI cB cZ cG cS r1 p1 (0 : Int32) (1 : Int32) g2) (va_cwS 3 C.1.2.2.2.2 gX4_keep_X4_within rfl rfl rfl (by decide +kernel) ⟨Nat.le_of_ble_eq_true rfl, Nat.le_of_ble_eq_true rfl⟩) hl.1 rfl rfl (Nat.le_of_ble_eq_true rfl) dX4_keep_3 (fun H locs hX => ?_)
  refine lv_if_ne (pc := 6) (tgt := 11) hx hb dX4_keep_6 (by decide) (fun c3 => ?_) (fun c3 => ?_)
  · replace hf := ite_f c3 hf
    refine lv_aload_n (pc := 11) hx hb dX4_keep_11 rfl (lv_at hl 0 rfl) ?_
    refine x_getf (pc := 12) (Cn := RX4) (T := TX4) (N := 9) C hX 0 rfl rfl miX4_keep_X4 3 (by decide) mmX4_keep_1 rfl dX4_keep_12 ?_
    refine lv_iload_n (pc := 15) hx hb dX4_keep_15 rfl (lv_at hl 1 rfl) ?_
    replace hf := chk_adv hf
    have i4 := hf.1
    replace hf := hf.2
    refine x_zald (pc := 16) C hX 2 2 rfl rfl i4 dX4_keep_16 ?_
    refine lv_if_eq (pc := 17) (tgt := 24) hx hb dX4_keep_17 (by decide) (fun c5 => ?_) (fun c5 => ?_)
    · replace hf := ite_t c5 hf
      refine lv_iconst (pc := 24) (v := 0) hx hb dX4_keep_24 (by decide) ?_
      exact L25  p1 (0 : Int32) kept im0_arms im0_strokes im0_hand im0_step im0_travel im0_reversals im0_kindRow im0_slackRow im0_placeRow im0_turnRow im0_wayRow im0_strokeRow im1_arms im1_strokes im1_hand im1_step im1_travel im1_reversals im1_kindRow im1_slackRow im1_placeRow im1_turnRow im1_wayRow im1_strokeRow _ _ _ hf hX (lv_sub hl [0, 1] rfl)
    · replace hf := ite_f c5 hf
      refine lv_iconst (pc := 20) (v := 1) hx hb dX4_keep_20 (by decide) ?_
      refine lv_goto (pc := 21) (tgt := 25) hx hb dX4_keep_21 (by decide) ?_
      exact L25  p1 (1 : Int32) kept im0_arms im0_strokes im0_hand im0_step im0_travel im0_reversals im0_kindRow im0_slackRow im0_placeRow im0_turnRow im0_wayRow im0_strokeRow im1_arms im1_strokes im1_hand im1_step im1_travel im1_reversals im1_kindRow im1_slackRow im1_placeRow im1_turnRow im1_wayRow im1_strokeRow _ _ _ hf hX (lv_sub hl [0, 1] rfl)
  · replace hf := ite_t c3 hf
    refine lv_iconst (pc := 9) (v := -1) hx hb dX4_keep_9 (by decide) ?_
    obtain ⟨rfl, rfl, rfl, rfl, rfl, rfl, rfl, rfl, rfl, rfl, rfl, rfl, rfl, rfl, rfl, rfl, rfl, rfl, rfl, rfl, rfl, rfl, rfl, rfl, rfl, rfl⟩ := re26 hf
    exact hret _ _ _ _ _ rfl rfl hX dX4_keep_10
theorem mmX4_back_1 : Cond.fieldLink RX4 23 "SlackArms" "kept" "[Z" ∈ wsX4_back := List.mem_of_getElem? (i := 1) rfl
theorem miX4_back_X4 : ∀ w ∈ u_ws RX4 TX4 9, w ∈ wsX4_back := fun w h => List.mem_cons_of_mem _ (List.mem_append_left _ (List.mem_append_right _ h))
theorem mmX4_back_2 : Cond.fieldLink RX4 10 "SlackArms" "now" "LSlackArms$Gear;" ∈ wsX4_back := List.mem_of_getElem? (i := 2) rfl
theorem mmX4_back_3 : Cond.fieldLink RX4 19 "SlackArms" "images" "[LSlackArms$Gear;" ∈ wsX4_back := List.mem_of_getElem? (i := 3) rfl
theorem mmX4_back_4 : Cond.fieldLink RX4 90 "SlackArms$Gear" "step" "I" ∈ wsX4_back := List.mem_of_getElem? (i := 4) rfl
theorem miX4_back_X0 : ∀ w ∈ u_ws RX0 TX0 12, w ∈ wsX4_back := fun w h => List.mem_cons_of_mem _ (List.mem_append_right _ h)
set_option maxHeartbeats 4000000 in
set_option maxRecDepth 100000 in
theorem kX4_back (ad : xAd) (l : Launch) (D : va_G) (cI cB cZ cG cS : ClassId) (h0 h_now h_trial h_images h_kept h_tape h_sights h_sheets h_looks h_now_kindRow h_now_slackRow h_now_placeRow h_now_turnRow h_now_wayRow h_now_strokeRow h_im0 h_im0_kindRow h_im0_slackRow h_im0_placeRow h_im0_turnRow h_im0_wayRow h_im0_strokeRow h_im1 h_im1_kindRow h_im1_slackRow h_im1_placeRow h_im1_turnRow h_im1_wayRow h_im1_strokeRow : Nat) (tornFault : Int32) (kept : (Nat → Int32)) (now_arms : Int32) (now_strokes : Int32) (now_hand : Int32) (now_step : Int32) (now_travel : Int32) (now_reversals : Int32) (now_kindRow : (Nat → Int32)) (now_slackRow : (Nat → Int32)) (now_placeRow : (Nat → Int32)) (now_turnRow : (Nat → Int32)) (now_wayRow : (Nat → Int32)) (now_strokeRow : (Nat → Int32)) (im0_arms : Int32) (im0_strokes : Int32) (im0_hand : Int32) (im0_step : Int32) (im0_travel : Int32) (im0_reversals : Int32) (im0_kindRow : (Nat → Int32)) (im0_slackRow : (Nat → Int32)) (im0_placeRow : (Nat → Int32)) (im0_turnRow : (Nat → Int32)) (im0_wayRow : (Nat → Int32)) (im0_strokeRow : (Nat → Int32)) (im1_arms : Int32) (im1_strokes : Int32) (im1_hand : Int32) (im1_step : Int32) (im1_travel : Int32) (im1_reversals : Int32) (im1_kindRow : (Nat → Int32)) (im1_slackRow : (Nat → Int32)) (im1_placeRow : (Nat → Int32)) (im1_turnRow : (Nat → Int32)) (im1_wayRow : (Nat → Int32)) (im1_strokeRow : (Nat → Int32)) (r0 : Int32) (o_now_arms' : Int32) (o_now_strokes' : Int32) (o_now_hand' : Int32) (o_now_step' : Int32) (o_now_travel' : Int32) (o_now_reversals' : Int32) (o_now_kindRow' : (Nat → Int32)) (o_now_slackRow' : (Nat → Int32)) (o_now_placeRow' : (Nat → Int32)) (o_now_turnRow' : (Nat → Int32)) (o_now_wayRow' : (Nat → Int32)) (o_now_strokeRow' : (Nat → Int32)) (p1 : Int32) (hf : fX4_back p1 kept now_arms now_strokes now_hand now_step now_travel now_reversals now_kindRow now_slackRow now_placeRow now_turnRow now_wayRow now_strokeRow im0_arms im0_strokes im0_hand im0_step im0_kindRow im0_slackRow im0_placeRow im0_turnRow im0_wayRow im0_strokeRow im1_arms im1_strokes im1_hand im1_step im1_kindRow im1_slackRow im1_placeRow im1_turnRow im1_wayRow im1_strokeRow = some (r0, o_now_arms', o_now_strokes', o_now_hand', o_now_step', o_now_travel', o_now_reversals', o_now_kindRow', o_now_slackRow', o_now_placeRow', o_now_turnRow', o_now_wayRow', o_now_strokeRow')) : xMi ad l yX4_back wsX4_back ({ frames := 2, cells := 0, slots := 0, locals := 42 } : Room) D (xTY cI cB cZ cG cS) [.ref h0, .int p1] [(h0, .inr (4, [.ref h_now, .ref h_trial, .ref h_images, .ref h_kept, .ref h_tape, .ref h_sights, .ref h_sheets, .ref h_looks, .int tornFault])), (h_images, .inl (cG, 2, .inr (.inr (.inr (.inr (xr2 h_im0 h_im1)))))), (h_kept, .inl (cZ, 2, .inl kept)), (h_now, .inr (0, [.ref h_now_kindRow, .ref h_now_slackRow, .ref h_now_placeRow, .ref h_now_turnRow, .ref h_now_wayRow, .ref h_now_strokeRow, .int now_arms, .int now_strokes, .int now_hand, .int now_step, .int now_travel, .int now_reversals])), (h_now_kindRow, .inl (cI, 4, .inl now_kindRow)), (h_now_slackRow, .inl (cI, 4, .inl now_slackRow)), (h_now_placeRow, .inl (cI, 4, .inl now_placeRow)), (h_now_turnRow, .inl (cI, 4, .inl now_turnRow)), (h_now_wayRow, .inl (cI, 4, .inl now_wayRow)), (h_now_strokeRow, .inl (cI, 16, .inl now_strokeRow)), (h_im0, .inr (0, [.ref h_im0_kindRow, .ref h_im0_slackRow, .ref h_im0_placeRow, .ref h_im0_turnRow, .ref h_im0_wayRow, .ref h_im0_strokeRow, .int im0_arms, .int im0_strokes, .int im0_hand, .int im0_step, .int im0_travel, .int im0_reversals])), (h_im0_kindRow, .inl (cI, 4, .inl im0_kindRow)), (h_im0_slackRow, .inl (cI, 4, .inl im0_slackRow)), (h_im0_placeRow, .inl (cI, 4, .inl im0_placeRow)), (h_im0_turnRow, .inl (cI, 4, .inl im0_turnRow)), (h_im0_wayRow, .inl (cI, 4, .inl im0_wayRow)), (h_im0_strokeRow, .inl (cI, 16, .inl im0_strokeRow)), (h_im1, .inr (0, [.ref h_im1_kindRow, .ref h_im1_slackRow, .ref h_im1_placeRow, .ref h_im1_turnRow, .ref h_im1_wayRow, .ref h_im1_strokeRow, .int im1_arms, .int im1_strokes, .int im1_hand, .int im1_step, .int im1_travel, .int im1_reversals])), (h_im1_kindRow, .inl (cI, 4, .inl im1_kindRow)), (h_im1_slackRow, .inl (cI, 4, .inl im1_slackRow)), (h_im1_placeRow, .inl (cI, 4, .inl im1_placeRow)), (h_im1_turnRow, .inl (cI, 4, .inl im1_turnRow)), (h_im1_wayRow, .inl (cI, 4, .inl im1_wayRow)), (h_im1_strokeRow, .inl (cI, 16, .inl im1_strokeRow))] [(h0, .inr (4, [.ref h_now, .ref h_trial, .ref h_images, .ref h_kept, .ref h_tape, .ref h_sights, .ref h_sheets, .ref h_looks, .int tornFault])), (h_images, .inl (cG, 2, .inr (.inr (.inr (.inr (xr2 h_im0 h_im1)))))), (h_kept, .inl (cZ, 2, .inl kept)), (h_now, .inr (0, [.ref h_now_kindRow, .ref h_now_slackRow, .ref h_now_placeRow, .ref h_now_turnRow, .ref h_now_wayRow, .ref h_now_strokeRow, .int o_now_arms', .int o_now_strokes', .int o_now_hand', .int o_now_step', .int o_now_travel', .int o_now_reversals'])), (h_now_kindRow, .inl (cI, 4, .inl o_now_kindRow')), (h_now_slackRow, .inl (cI, 4, .inl o_now_slackRow')), (h_now_placeRow, .inl (cI, 4, .inl o_now_placeRow')), (h_now_turnRow, .inl (cI, 4, .inl o_now_turnRow')), (h_now_wayRow, .inl (cI, 4, .inl o_now_wayRow')), (h_now_strokeRow, .inl (cI, 16, .inl o_now_strokeRow')), (h_im0, .inr (0, [.ref h_im0_kindRow, .ref h_im0_slackRow, .ref h_im0_placeRow, .ref h_im0_turnRow, .ref h_im0_wayRow, .ref h_im0_strokeRow, .int im0_arms, .int im0_strokes, .int im0_hand, .int im0_step, .int im0_travel, .int im0_reversals])), (h_im0_kindRow, .inl (cI, 4, .inl im0_kindRow)), (h_im0_slackRow, .inl (cI, 4, .inl im0_slackRow)), (h_im0_placeRow, .inl (cI, 4, .inl im0_placeRow)), (h_im0_turnRow, .inl (cI, 4, .inl im0_turnRow)), (h_im0_wayRow, .inl (cI, 4, .inl im0_wayRow)), (h_im0_strokeRow, .inl (cI, 16, .inl im0_strokeRow)), (h_im1, .inr (0, [.ref h_im1_kindRow, .ref h_im1_slackRow, .ref h_im1_placeRow, .ref h_im1_turnRow, .ref h_im1_wayRow, .ref h_im1_strokeRow, .int im1_arms, .int im1_strokes, .int im1_hand, .int im1_step, .int im1_travel, .int im1_reversals])), (h_im1_kindRow, .inl (cI, 4, .inl im1_kindRow)), (h_im1_slackRow, .inl (cI, 4, .inl im1_slackRow)), (h_im1_placeRow, .inl (cI, 4, .inl im1_placeRow)), (h_im1_turnRow, .inl (cI, 4, .inl im1_turnRow)), (h_im1_wayRow, .inl (cI, 4, .inl im1_wayRow)), (h_im1_strokeRow, .inl (cI, 16, .inl im1_strokeRow))] r0 := by
  refine xMi_of (cc := cX4_back) (maxL := 2) (ty := .int) (by decide) rfl (Nat.le_of_ble_eq_true rfl) ?_
  intro p e s m args below meth c A Q ls C hX hl hret
  have hx := C.1.1
  have hb := C.1.2.1
  have hl : lv_has ls 2 [(0, .ref h0), (1, .int p1)] := hl
  unfold fX4_back at hf
  refine lv_iload_n (pc := 0) hx hb dX4_back_0 rfl (lv_at hl 1 rfl) ?_
  refine lv_iconst (pc := 1) (v := 0) hx hb dX4_back_1 (by decide) ?_
  refine lv_iconst (pc := 2) (v := 1) hx hb dX4_back_2 (by decide) ?_
  obtain ⟨r1, g2, hf⟩ := cl1_adv hf
  refine x_callSi (pc := 3) (rest := []) C hX (kX4_within ad l D cI cB cZ cG cS r1 p1 (0 : Int32) (1 : Int32) g2) (va_cwS 3 C.1.2.2.2.2 gX4_back_X4_within rfl rfl rfl (by decide +kernel) ⟨Nat.le_of_ble_eq_true rfl, Nat.le_of_ble_eq_true rfl⟩) hl.1 rfl rfl (Nat.le_of_ble_eq_true rfl) dX4_back_3 (fun H locs hX => ?_)
  refine lv_if_ne (pc := 6) (tgt := 11) hx hb dX4_back_6 (by decide) (fun c3 => ?_) (fun c3 => ?_)
  · replace hf := ite_f c3 hf
    refine lv_aload_n (pc := 11) hx hb dX4_back_11 rfl (lv_at hl 0 rfl) ?_
    refine x_getf (pc := 12) (Cn := RX4) (T := TX4) (N := 9) C hX 0 rfl rfl miX4_back_X4 3 (by decide) mmX4_back_1 rfl dX4_back_12 ?_
    refine lv_iload_n (pc := 15) hx hb dX4_back_15 rfl (lv_at hl 1 rfl) ?_
    replace hf := chk_adv hf
    have i4 := hf.1
    replace hf := hf.2
    refine x_zald (pc := 16) C hX 2 2 rfl rfl i4 dX4_back_16 ?_
    refine lv_if_ne (pc := 17) (tgt := 23) hx hb dX4_back_17 (by decide) (fun c5 => ?_) (fun c5 => ?_)
    · replace hf := ite_f c5 hf
      refine lv_aload_n (pc := 23) hx hb dX4_back_23 rfl (lv_at hl 0 rfl) ?_
      refine x_getf (pc := 24) (Cn := RX4) (T := TX4) (N := 9) C hX 0 rfl rfl miX4_back_X4 0 (by decide) mmX4_back_2 rfl dX4_back_24 ?_
      refine lv_aload_n (pc := 27) hx hb dX4_back_27 rfl (lv_at hl 0 rfl) ?_
      refine x_getf (pc := 28) (Cn := RX4) (T := TX4) (N := 9) C hX 0 rfl rfl miX4_back_X4 2 (by decide) mmX4_back_3 rfl dX4_back_28 ?_
      refine lv_iload_n (pc := 31) hx hb dX4_back_31 rfl (lv_at hl 1 rfl) ?_
      replace hf := chk_adv hf
      have i6 := hf.1
      replace hf := hf.2
      rcases Decidable.em (p1 = 0) with c7 | c7
      · replace hf := ite_t c7 hf
        refine x_aald (pc := 32) (v := .ref h_im0) C hX 1 3 rfl rfl i6 (by rw [c7]; rfl) dX4_back_32 ?_
        obtain ⟨u8, u9, u10, u11, u12, u13, u14, u15, u16, u17, u18, u19, g20, hf⟩ := cl12_adv hf
        refine x_callVv (pc := 33) (rest := []) (w2 := [(h0, .inr (4, [.ref h_now, .ref h_trial, .ref h_images, .ref h_kept, .ref h_tape, .ref h_sights, .ref h_sheets, .ref h_looks, .int tornFault])), (h_images, .inl (cG, 2, .inr (.inr (.inr (.inr (xr2 h_im0 h_im1)))))), (h_kept, .inl (cZ, 2, .inl kept)), (h_now, .inr (0, [.ref h_now_kindRow, .ref h_now_slackRow, .ref h_now_placeRow, .ref h_now_turnRow, .ref h_now_wayRow, .ref h_now_strokeRow, .int u8, .int u9, .int u10, .int u11, .int u12, .int u13])), (h_now_kindRow, .inl (cI, 4, .inl u14)), (h_now_slackRow, .inl (cI, 4, .inl u15)), (h_now_placeRow, .inl (cI, 4, .inl u16)), (h_now_turnRow, .inl (cI, 4, .inl u17)), (h_now_wayRow, .inl (cI, 4, .inl u18)), (h_now_strokeRow, .inl (cI, 16, .inl u19)), (h_im0, .inr (0, [.ref h_im0_kindRow, .ref h_im0_slackRow, .ref h_im0_placeRow, .ref h_im0_turnRow, .ref h_im0_wayRow, .ref h_im0_strokeRow, .int im0_arms, .int im0_strokes, .int im0_hand, .int im0_step, .int im0_travel, .int im0_reversals])), (h_im0_kindRow, .inl (cI, 4, .inl im0_kindRow)), (h_im0_slackRow, .inl (cI, 4, .inl im0_slackRow)), (h_im0_placeRow, .inl (cI, 4, .inl im0_placeRow)), (h_im0_turnRow, .inl (cI, 4, .inl im0_turnRow)), (h_im0_wayRow, .inl (cI, 4, .inl im0_wayRow)), (h_im0_strokeRow, .inl (cI, 16, .inl im0_strokeRow)), (h_im1, .inr (0, [.ref h_im1_kindRow, .ref h_im1_slackRow, .ref h_im1_placeRow, .ref h_im1_turnRow, .ref h_im1_wayRow, .ref h_im1_strokeRow, .int im1_arms, .int im1_strokes, .int im1_hand, .int im1_step, .int im1_travel, .int im1_reversals])), (h_im1_kindRow, .inl (cI, 4, .inl im1_kindRow)), (h_im1_slackRow, .inl (cI, 4, .inl im1_slackRow)), (h_im1_placeRow, .inl (cI, 4, .inl im1_placeRow)), (h_im1_turnRow, .inl (cI, 4, .inl im1_turnRow)), (h_im1_wayRow, .inl (cI, 4, .inl im1_wayRow)), (h_im1_strokeRow, .inl (cI, 16, .inl im1_strokeRow))]) C hX (kX0_copyFrom ad l D cI cB cZ cG cS h_now h_now_kindRow h_now_slackRow h_now_placeRow h_now_turnRow h_now_wayRow h_now_strokeRow h_im0 h_im0_kindRow h_im0_slackRow h_im0_placeRow h_im0_turnRow h_im0_wayRow h_im0_strokeRow now_arms now_strokes now_hand now_step now_travel now_reversals now_kindRow now_slackRow now_placeRow now_turnRow now_wayRow now_strokeRow im0_arms im0_strokes im0_hand im0_step im0_travel im0_reversals im0_kindRow im0_slackRow im0_placeRow im0_turnRow im0_wayRow im0_strokeRow u8 u9 u10 u11 u12 u13 u14 u15 u16 u17 u18 u19 g20) (cwV 1 C.1.2.2.2.2 gX4_back_X0_copyFrom rfl rfl rfl (by decide +kernel) ⟨Nat.le_of_ble_eq_true rfl, Nat.le_of_ble_eq_true rfl⟩) [3, 4, 5, 6, 7, 8, 9, 10, 11, 12, 13, 14, 15, 16] [0, 1, 2, 17, 18, 19, 20, 21, 22, 23] [0, 1, 2, 10, 11, 12, 13, 14, 15, 16, 17, 18, 19, 20, 21, 22, 23, 3, 4, 5, 6, 7, 8, 9] rfl rfl rfl rfl (by decide) rfl rfl 0 rfl rfl rfl hl.1 rfl rfl (Nat.le_of_ble_eq_true rfl) dX4_back_33 (fun H locs hX => ?_)
        refine lv_aload_n (pc := 36) hx hb dX4_back_36 rfl (lv_at hl 0 rfl) ?_
        refine x_getf (pc := 37) (Cn := RX4) (T := TX4) (N := 9) C hX 0 rfl rfl miX4_back_X4 0 (by decide) mmX4_back_2 rfl dX4_back_37 ?_
        refine x_getf (pc := 40) (Cn := RX0) (T := TX0) (N := 12) C hX 3 rfl rfl miX4_back_X0 9 (by decide) mmX4_back_4 rfl dX4_back_40 ?_
        obtain ⟨rfl, rfl, rfl, rfl, rfl, rfl, rfl, rfl, rfl, rfl, rfl, rfl, rfl⟩ := re13 hf
        exact hret _ _ _ _ _ rfl rfl hX dX4_back_43
      · replace hf := ite_f c7 hf
        rcases Decidable.em (p1 = 1) with c21 | c21
        · replace hf := ite_t c21 hf
          refine x_aald (pc := 32) (v := .ref h_im1) C hX 1 3 rfl rfl i6 (by rw [c21]; rfl) dX4_back_32 ?_
          obtain ⟨u22, u23, u24, u25, u26, u27, u28, u29, u30, u31, u32, u33, g34, hf⟩ := cl12_adv hf
          refine x_callVv (pc := 33) (rest := []) (w2 := [(h0, .inr (4, [.ref h_now, .ref h_trial, .ref h_images, .ref h_kept, .ref h_tape, .ref h_sights, .ref h_sheets, .ref h_looks, .int tornFault])), (h_images, .inl (cG, 2, .inr (.inr (.inr (.inr (xr2 h_im0 h_im1)))))), (h_kept, .inl (cZ, 2, .inl kept)), (h_now, .inr (0, [.ref h_now_kindRow, .ref h_now_slackRow, .ref h_now_placeRow, .ref h_now_turnRow, .ref h_now_wayRow, .ref h_now_strokeRow, .int u22, .int u23, .int u24, .int u25, .int u26, .int u27])), (h_now_kindRow, .inl (cI, 4, .inl u28)), (h_now_slackRow, .inl (cI, 4, .inl u29)), (h_now_placeRow, .inl (cI, 4, .inl u30)), (h_now_turnRow, .inl (cI, 4, .inl u31)), (h_now_wayRow, .inl (cI, 4, .inl u32)), (h_now_strokeRow, .inl (cI, 16, .inl u33)), (h_im0, .inr (0, [.ref h_im0_kindRow, .ref h_im0_slackRow, .ref h_im0_placeRow, .ref h_im0_turnRow, .ref h_im0_wayRow, .ref h_im0_strokeRow, .int im0_arms, .int im0_strokes, .int im0_hand, .int im0_step, .int im0_travel, .int im0_reversals])), (h_im0_kindRow, .inl (cI, 4, .inl im0_kindRow)), (h_im0_slackRow, .inl (cI, 4, .inl im0_slackRow)), (h_im0_placeRow, .inl (cI, 4, .inl im0_placeRow)), (h_im0_turnRow, .inl (cI, 4, .inl im0_turnRow)), (h_im0_wayRow, .inl (cI, 4, .inl im0_wayRow)), (h_im0_strokeRow, .inl (cI, 16, .inl im0_strokeRow)), (h_im1, .inr (0, [.ref h_im1_kindRow, .ref h_im1_slackRow, .ref h_im1_placeRow, .ref h_im1_turnRow, .ref h_im1_wayRow, .ref h_im1_strokeRow, .int im1_arms, .int im1_strokes, .int im1_hand, .int im1_step, .int im1_travel, .int im1_reversals])), (h_im1_kindRow, .inl (cI, 4, .inl im1_kindRow)), (h_im1_slackRow, .inl (cI, 4, .inl im1_slackRow)), (h_im1_placeRow, .inl (cI, 4, .inl im1_placeRow)), (h_im1_turnRow, .inl (cI, 4, .inl im1_turnRow)), (h_im1_wayRow, .inl (cI, 4, .inl im1_wayRow)), (h_im1_strokeRow, .inl (cI, 16, .inl im1_strokeRow))]) C hX (kX0_copyFrom ad l D cI cB cZ cG cS h_now h_now_kindRow h_now_slackRow h_now_placeRow h_now_turnRow h_now_wayRow h_now_strokeRow h_im1 h_im1_kindRow h_im1_slackRow h_im1_placeRow h_im1_turnRow h_im1_wayRow h_im1_strokeRow now_arms now_strokes now_hand now_step now_travel now_reversals now_kindRow now_slackRow now_placeRow now_turnRow now_wayRow now_strokeRow im1_arms im1_strokes im1_hand im1_step im1_travel im1_reversals im1_kindRow im1_slackRow im1_placeRow im1_turnRow im1_wayRow im1_strokeRow u22 u23 u24 u25 u26 u27 u28 u29 u30 u31 u32 u33 g34) (cwV 1 C.1.2.2.2.2 gX4_back_X0_copyFrom rfl rfl rfl (by decide +kernel) ⟨Nat.le_of_ble_eq_true rfl, Nat.le_of_ble_eq_true rfl⟩) [3, 4, 5, 6, 7, 8, 9, 17, 18, 19, 20, 21, 22, 23] [0, 1, 2, 10, 11, 12, 13, 14, 15, 16] [0, 1, 2, 10, 11, 12, 13, 14, 15, 16, 3, 4, 5, 6, 7, 8, 9, 17, 18, 19, 20, 21, 22, 23] rfl rfl rfl rfl (by decide) rfl rfl 0 rfl rfl rfl hl.1 rfl rfl (Nat.le_of_ble_eq_true rfl) dX4_back_33 (fun H locs hX => ?_)
          refine lv_aload_n (pc := 36) hx hb dX4_back_36 rfl (lv_at hl 0 rfl) ?_
          refine x_getf (pc := 37) (Cn := RX4) (T := TX4) (N := 9) C hX 0 rfl rfl miX4_back_X4 0 (by decide) mmX4_back_2 rfl dX4_back_37 ?_
          refine x_getf (pc := 40) (Cn := RX0) (T := TX0) (N := 12) C hX 3 rfl rfl miX4_back_X0 9 (by decide) mmX4_back_4 rfl dX4_back_40 ?_
          obtain ⟨rfl, rfl, rfl, rfl, rfl, rfl, rfl, rfl, rfl, rfl, rfl, rfl, rfl⟩ := re13 hf
          exact hret _ _ _ _ _ rfl rfl hX dX4_back_43
        · replace hf := ite_f c21 hf
          cases hf
    · replace hf := ite_t c5 hf
      refine lv_bipush (pc := 20) (v := -2) hx hb dX4_back_20 (by decide) ?_
      obtain ⟨rfl, rfl, rfl, rfl, rfl, rfl, rfl, rfl, rfl, rfl, rfl, rfl, rfl⟩ := re13 hf
      exact hret _ _ _ _ _ rfl rfl hX dX4_back_22
  · replace hf := ite_t c3 hf
    refine lv_iconst (pc := 9) (v := -1) hx hb dX4_back_9 (by decide) ?_
    obtain ⟨rfl, rfl, rfl, rfl, rfl, rfl, rfl, rfl, rfl, rfl, rfl, rfl, rfl⟩ := re13 hf
    exact hret _ _ _ _ _ rfl rfl hX dX4_back_10
theorem mmX4_sheet_1 : Cond.fieldLink RX4 43 "SlackArms" "sheets" "[LSlackArms$Sheet;" ∈ wsX4_sheet := List.mem_of_getElem? (i := 1) rfl
theorem miX4_sheet_X4 : ∀ w ∈ u_ws RX4 TX4 9, w ∈ wsX4_sheet := fun w h => List.mem_cons_of_mem _ (List.mem_append_left _ (List.mem_append_right _ h))
set_option maxHeartbeats 4000000 in
set_option maxRecDepth 100000 in
theorem kX4_sheet (ad : xAd) (l : Launch) (D : va_G) (cI cB cZ cG cS : ClassId) (h0 h_now h_trial h_images h_kept h_tape h_sights h_sheets h_looks h_sh0 h_sh0_cells h_sh1 h_sh1_cells h_sh2 h_sh2_cells h_sh3 h_sh3_cells : Nat) (tornFault : Int32) (sh0_lane : Int32) (sh0_size : Int32) (sh0_cells : (Nat → Int32)) (sh1_lane : Int32) (sh1_size : Int32) (sh1_cells : (Nat → Int32)) (sh2_lane : Int32) (sh2_size : Int32) (sh2_cells : (Nat → Int32)) (sh3_lane : Int32) (sh3_size : Int32) (sh3_cells : (Nat → Int32)) (r0 : Int32) (o_sh0_lane' : Int32) (o_sh0_size' : Int32) (o_sh0_cells' : (Nat → Int32)) (o_sh1_lane' : Int32) (o_sh1_size' : Int32) (o_sh1_cells' : (Nat → Int32)) (o_sh2_lane' : Int32) (o_sh2_size' : Int32) (o_sh2_cells' : (Nat → Int32)) (o_sh3_lane' : Int32) (o_sh3_size' : Int32) (o_sh3_cells' : (Nat → Int32)) (p1 : Int32) (p2 : Int32) (p3 : Int32) (hf : fX4_sheet p1 p2 p3 sh0_lane sh0_size sh0_cells sh1_lane sh1_size sh1_cells sh2_lane sh2_size sh2_cells sh3_lane sh3_size sh3_cells = some (r0, o_sh0_lane', o_sh0_size', o_sh0_cells', o_sh1_lane', o_sh1_size', o_sh1_cells', o_sh2_lane', o_sh2_size', o_sh2_cells', o_sh3_lane', o_sh3_size', o_sh3_cells')) : xMi ad l yX4_sheet wsX4_sheet ({ frames := 2, cells := 0, slots := 0, locals := 42 } : Room) D (xTY cI cB cZ cG cS) [.ref h0, .int p1, .int p2, .int p3] [(h0, .inr (4, [.ref h_now, .ref h_trial, .ref h_images, .ref h_kept, .ref h_tape, .ref h_sights, .ref h_sheets, .ref h_looks, .int tornFault])), (h_sheets, .inl (cS, 4, .inr (.inr (.inr (.inr (xr4 h_sh0 h_sh1 h_sh2 h_sh3)))))), (h_sh0, .inr (1, [.ref h_sh0_cells, .int sh0_lane, .int sh0_size])), (h_sh0_cells, .inl (cI, 40, .inl sh0_cells)), (h_sh1, .inr (1, [.ref h_sh1_cells, .int sh1_lane, .int sh1_size])), (h_sh1_cells, .inl (cI, 40, .inl sh1_cells)), (h_sh2, .inr (1, [.ref h_sh2_cells, .int sh2_lane, .int sh2_size])), (h_sh2_cells, .inl (cI, 40, .inl sh2_cells)), (h_sh3, .inr (1, [.ref h_sh3_cells, .int sh3_lane, .int sh3_size])), (h_sh3_cells, .inl (cI, 40, .inl sh3_cells))] [(h0, .inr (4, [.ref h_now, .ref h_trial, .ref h_images, .ref h_kept, .ref h_tape, .ref h_sights, .ref h_sheets, .ref h_looks, .int tornFault])), (h_sheets, .inl (cS, 4, .inr (.inr (.inr (.inr (xr4 h_sh0 h_sh1 h_sh2 h_sh3)))))), (h_sh0, .inr (1, [.ref h_sh0_cells, .int o_sh0_lane', .int o_sh0_size'])), (h_sh0_cells, .inl (cI, 40, .inl o_sh0_cells')), (h_sh1, .inr (1, [.ref h_sh1_cells, .int o_sh1_lane', .int o_sh1_size'])), (h_sh1_cells, .inl (cI, 40, .inl o_sh1_cells')), (h_sh2, .inr (1, [.ref h_sh2_cells, .int o_sh2_lane', .int o_sh2_size'])), (h_sh2_cells, .inl (cI, 40, .inl o_sh2_cells')), (h_sh3, .inr (1, [.ref h_sh3_cells, .int o_sh3_lane', .int o_sh3_size'])), (h_sh3_cells, .inl (cI, 40, .inl o_sh3_cells'))] r0 := by
  refine xMi_of (cc := cX4_sheet) (maxL := 4) (ty := .int) (by decide) rfl (Nat.le_of_ble_eq_true rfl) ?_
  intro p e s m args below meth c A Q ls C hX hl hret
  have hx := C.1.1
  have hb := C.1.2.1
  have hl : lv_has ls 4 [(0, .ref h0), (1, .int p1), (2, .int p2), (3, .int p3)] := hl
  unfold fX4_sheet at hf
  refine lv_iload_n (pc := 0) hx hb dX4_sheet_0 rfl (lv_at hl 1 rfl) ?_
  obtain ⟨r1, g2, hf⟩ := cl1_adv hf
  refine x_callSi (pc := 1) (rest := []) C hX (kX4_isSheet ad l D cI cB cZ cG cS r1 p1 g2) (va_cwS 1 C.1.2.2.2.2 gX4_sheet_X4_isSheet rfl rfl rfl (by decide +kernel) ⟨Nat.le_of_ble_eq_true rfl, Nat.le_of_ble_eq_true rfl⟩) hl.1 rfl rfl (Nat.le_of_ble_eq_true rfl) dX4_sheet_1 (fun H locs hX => ?_)
  refine lv_if_eq (pc := 4) (tgt := 22) hx hb dX4_sheet_4 (by decide) (fun c3 => ?_) (fun c3 => ?_)
  · replace hf := ite_t c3 hf
    refine lv_iconst (pc := 22) (v := -1) hx hb dX4_sheet_22 (by decide) ?_
    obtain ⟨rfl, rfl, rfl, rfl, rfl, rfl, rfl, rfl, rfl, rfl, rfl, rfl, rfl⟩ := re13 hf
    exact hret _ _ _ _ _ rfl rfl hX dX4_sheet_23
  · replace hf := ite_f c3 hf
    refine lv_iload_n (pc := 7) hx hb dX4_sheet_7 rfl (lv_at hl 2 rfl) ?_
    refine lv_iconst (pc := 8) (v := 0) hx hb dX4_sheet_8 (by decide) ?_
    refine lv_iconst (pc := 9) (v := 2) hx hb dX4_sheet_9 (by decide) ?_
    obtain ⟨r4, g5, hf⟩ := cl1_adv hf
    refine x_callSi (pc := 10) (rest := []) C hX (kX4_within ad l D cI cB cZ cG cS r4 p2 (0 : Int32) (2 : Int32) g5) (va_cwS 3 C.1.2.2.2.2 gX4_sheet_X4_within rfl rfl rfl (by decide +kernel) ⟨Nat.le_of_ble_eq_true rfl, Nat.le_of_ble_eq_true rfl⟩) hl.1 rfl rfl (Nat.le_of_ble_eq_true rfl) dX4_sheet_10 (fun H locs hX => ?_)
    refine lv_if_eq (pc := 13) (tgt := 22) hx hb dX4_sheet_13 (by decide) (fun c6 => ?_) (fun c6 => ?_)
    · replace hf := ite_t c6 hf
      refine lv_iconst (pc := 22) (v := -1) hx hb dX4_sheet_22 (by decide) ?_
      obtain ⟨rfl, rfl, rfl, rfl, rfl, rfl, rfl, rfl, rfl, rfl, rfl, rfl, rfl⟩ := re13 hf
      exact hret _ _ _ _ _ rfl rfl hX dX4_sheet_23
    · replace hf := ite_f c6 hf
      refine lv_iload_n (pc := 16) hx hb dX4_sheet_16 rfl (lv_at hl 3 rfl) ?_
      refine lv_bipush (pc := 17) (v := 40) hx hb dX4_sheet_17 (by decide) ?_
      refine lv_icmp_le (pc := 19) (tgt := 24) hx hb dX4_sheet_19 (by decide) (fun c7 => ?_) (fun c7 => ?_)
      · replace hf := ite_t c7 hf
        refine lv_iload_n (pc := 24) hx hb dX4_sheet_24 rfl (lv_at hl 3 rfl) ?_
        refine lv_if_ge (pc := 25) (tgt := 31) hx hb dX4_sheet_25 (by decide) (fun c8 => ?_) (fun c8 => ?_)
        · replace hf := ite_t c8 hf
          refine lv_aload_n (pc := 31) hx hb dX4_sheet_31 rfl (lv_at hl 0 rfl) ?_
          refine x_getf (pc := 32) (Cn := RX4) (T := TX4) (N := 9) C hX 0 rfl rfl miX4_sheet_X4 6 (by decide) mmX4_sheet_1 rfl dX4_sheet_32 ?_
          refine lv_iload_n (pc := 35) hx hb dX4_sheet_35 rfl (lv_at hl 1 rfl) ?_
          replace hf := chk_adv hf
          have i9 := hf.1
          replace hf := hf.2
          rcases Decidable.em (p1 = 0) with c10 | c10
          · replace hf := ite_t c10 hf
            refine x_aald (pc := 36) (v := .ref h_sh0) C hX 1 4 rfl rfl i9 (by rw [c10]; rfl) dX4_sheet_36 ?_
            refine lv_iload_n (pc := 37) hx hb dX4_sheet_37 rfl (lv_at hl 2 rfl) ?_
            refine lv_iload_n (pc := 38) hx hb dX4_sheet_38 rfl (lv_at hl 3 rfl) ?_
            obtain ⟨u11, u12, u13, g14, hf⟩ := cl3_adv hf
            refine x_callVv (pc := 39) (rest := []) (w2 := [(h0, .inr (4, [.ref h_now, .ref h_trial, .ref h_images, .ref h_kept, .ref h_tape, .ref h_sights, .ref h_sheets, .ref h_looks, .int tornFault])), (h_sheets, .inl (cS, 4, .inr (.inr (.inr (.inr (xr4 h_sh0 h_sh1 h_sh2 h_sh3)))))), (h_sh0, .inr (1, [.ref h_sh0_cells, .int u11, .int u12])), (h_sh0_cells, .inl (cI, 40, .inl u13)), (h_sh1, .inr (1, [.ref h_sh1_cells, .int sh1_lane, .int sh1_size])), (h_sh1_cells, .inl (cI, 40, .inl sh1_cells)), (h_sh2, .inr (1, [.ref h_sh2_cells, .int sh2_lane, .int sh2_size])), (h_sh2_cells, .inl (cI, 40, .inl sh2_cells)), (h_sh3, .inr (1, [.ref h_sh3_cells, .int sh3_lane, .int sh3_size])), (h_sh3_cells, .inl (cI, 40, .inl sh3_cells))]) C hX (kX1_renew ad l D cI cB cZ cG cS h_sh0 h_sh0_cells sh0_lane sh0_size sh0_cells u11 u12 u13 p2 p3 g14) (cwV 2 C.1.2.2.2.2 gX4_sheet_X1_renew rfl rfl rfl (by decide +kernel) ⟨Nat.le_of_ble_eq_true rfl, Nat.le_of_ble_eq_true rfl⟩) [2, 3] [0, 1, 4, 5, 6, 7, 8, 9] [0, 1, 8, 9, 2, 3, 4, 5, 6, 7] rfl rfl rfl rfl (by decide) rfl rfl 0 rfl rfl rfl hl.1 rfl rfl (Nat.le_of_ble_eq_true rfl) dX4_sheet_39 (fun H locs hX => ?_)
            refine lv_iconst (pc := 42) (v := 1) hx hb dX4_sheet_42 (by decide) ?_
            obtain ⟨rfl, rfl, rfl, rfl, rfl, rfl, rfl, rfl, rfl, rfl, rfl, rfl, rfl⟩ := re13 hf
            exact hret _ _ _ _ _ rfl rfl hX dX4_sheet_43
          · replace hf := ite_f c10 hf
            rcases Decidable.em (p1 = 1) with c15 | c15
            · replace hf := ite_t c15 hf
              refine x_aald (pc := 36) (v := .ref h_sh1) C hX 1 4 rfl rfl i9 (by rw [c15]; rfl) dX4_sheet_36 ?_
              refine lv_iload_n (pc := 37) hx hb dX4_sheet_37 rfl (lv_at hl 2 rfl) ?_
              refine lv_iload_n (pc := 38) hx hb dX4_sheet_38 rfl (lv_at hl 3 rfl) ?_
              obtain ⟨u16, u17, u18, g19, hf⟩ := cl3_adv hf
              refine x_callVv (pc := 39) (rest := []) (w2 := [(h0, .inr (4, [.ref h_now, .ref h_trial, .ref h_images, .ref h_kept, .ref h_tape, .ref h_sights, .ref h_sheets, .ref h_looks, .int tornFault])), (h_sheets, .inl (cS, 4, .inr (.inr (.inr (.inr (xr4 h_sh0 h_sh1 h_sh2 h_sh3)))))), (h_sh0, .inr (1, [.ref h_sh0_cells, .int sh0_lane, .int sh0_size])), (h_sh0_cells, .inl (cI, 40, .inl sh0_cells)), (h_sh1, .inr (1, [.ref h_sh1_cells, .int u16, .int u17])), (h_sh1_cells, .inl (cI, 40, .inl u18)), (h_sh2, .inr (1, [.ref h_sh2_cells, .int sh2_lane, .int sh2_size])), (h_sh2_cells, .inl (cI, 40, .inl sh2_cells)), (h_sh3, .inr (1, [.ref h_sh3_cells, .int sh3_lane, .int sh3_size])), (h_sh3_cells, .inl (cI, 40, .inl sh3_cells))]) C hX (kX1_renew ad l D cI cB cZ cG cS h_sh1 h_sh1_cells sh1_lane sh1_size sh1_cells u16 u17 u18 p2 p3 g19) (cwV 2 C.1.2.2.2.2 gX4_sheet_X1_renew rfl rfl rfl (by decide +kernel) ⟨Nat.le_of_ble_eq_true rfl, Nat.le_of_ble_eq_true rfl⟩) [4, 5] [0, 1, 2, 3, 6, 7, 8, 9] [0, 1, 2, 3, 8, 9, 4, 5, 6, 7] rfl rfl rfl rfl (by decide) rfl rfl 0 rfl rfl rfl hl.1 rfl rfl (Nat.le_of_ble_eq_true rfl) dX4_sheet_39 (fun H locs hX => ?_)
              refine lv_iconst (pc := 42) (v := 1) hx hb dX4_sheet_42 (by decide) ?_
              obtain ⟨rfl, rfl, rfl, rfl, rfl, rfl, rfl, rfl, rfl, rfl, rfl, rfl, rfl⟩ := re13 hf
              exact hret _ _ _ _ _ rfl rfl hX dX4_sheet_43
            · replace hf := ite_f c15 hf
              rcases Decidable.em (p1 = 2) with c20 | c20
              · replace hf := ite_t c20 hf
                refine x_aald (pc := 36) (v := .ref h_sh2) C hX 1 4 rfl rfl i9 (by rw [c20]; rfl) dX4_sheet_36 ?_
                refine lv_iload_n (pc := 37) hx hb dX4_sheet_37 rfl (lv_at hl 2 rfl) ?_
                refine lv_iload_n (pc := 38) hx hb dX4_sheet_38 rfl (lv_at hl 3 rfl) ?_
                obtain ⟨u21, u22, u23, g24, hf⟩ := cl3_adv hf
                refine x_callVv (pc := 39) (rest := []) (w2 := [(h0, .inr (4, [.ref h_now, .ref h_trial, .ref h_images, .ref h_kept, .ref h_tape, .ref h_sights, .ref h_sheets, .ref h_looks, .int tornFault])), (h_sheets, .inl (cS, 4, .inr (.inr (.inr (.inr (xr4 h_sh0 h_sh1 h_sh2 h_sh3)))))), (h_sh0, .inr (1, [.ref h_sh0_cells, .int sh0_lane, .int sh0_size])), (h_sh0_cells, .inl (cI, 40, .inl sh0_cells)), (h_sh1, .inr (1, [.ref h_sh1_cells, .int sh1_lane, .int sh1_size])), (h_sh1_cells, .inl (cI, 40, .inl sh1_cells)), (h_sh2, .inr (1, [.ref h_sh2_cells, .int u21, .int u22])), (h_sh2_cells, .inl (cI, 40, .inl u23)), (h_sh3, .inr (1, [.ref h_sh3_cells, .int sh3_lane, .int sh3_size])), (h_sh3_cells, .inl (cI, 40, .inl sh3_cells))]) C hX (kX1_renew ad l D cI cB cZ cG cS h_sh2 h_sh2_cells sh2_lane sh2_size sh2_cells u21 u22 u23 p2 p3 g24) (cwV 2 C.1.2.2.2.2 gX4_sheet_X1_renew rfl rfl rfl (by decide +kernel) ⟨Nat.le_of_ble_eq_true rfl, Nat.le_of_ble_eq_true rfl⟩) [6, 7] [0, 1, 2, 3, 4, 5, 8, 9] [0, 1, 2, 3, 4, 5, 8, 9, 6, 7] rfl rfl rfl rfl (by decide) rfl rfl 0 rfl rfl rfl hl.1 rfl rfl (Nat.le_of_ble_eq_true rfl) dX4_sheet_39 (fun H locs hX => ?_)
                refine lv_iconst (pc := 42) (v := 1) hx hb dX4_sheet_42 (by decide) ?_
                obtain ⟨rfl, rfl, rfl, rfl, rfl, rfl, rfl, rfl, rfl, rfl, rfl, rfl, rfl⟩ := re13 hf
                exact hret _ _ _ _ _ rfl rfl hX dX4_sheet_43
              · replace hf := ite_f c20 hf
                rcases Decidable.em (p1 = 3) with c25 | c25
                · replace hf := ite_t c25 hf
                  refine x_aald (pc := 36) (v := .ref h_sh3) C hX 1 4 rfl rfl i9 (by rw [c25]; rfl) dX4_sheet_36 ?_
                  refine lv_iload_n (pc := 37) hx hb dX4_sheet_37 rfl (lv_at hl 2 rfl) ?_
                  refine lv_iload_n (pc := 38) hx hb dX4_sheet_38 rfl (lv_at hl 3 rfl) ?_
                  obtain ⟨u26, u27, u28, g29, hf⟩ := cl3_adv hf
                  refine x_callVv (pc := 39) (rest := []) (w2 := [(h0, .inr (4, [.ref h_now, .ref h_trial, .ref h_images, .ref h_kept, .ref h_tape, .ref h_sights, .ref h_sheets, .ref h_looks, .int tornFault])), (h_sheets, .inl (cS, 4, .inr (.inr (.inr (.inr (xr4 h_sh0 h_sh1 h_sh2 h_sh3)))))), (h_sh0, .inr (1, [.ref h_sh0_cells, .int sh0_lane, .int sh0_size])), (h_sh0_cells, .inl (cI, 40, .inl sh0_cells)), (h_sh1, .inr (1, [.ref h_sh1_cells, .int sh1_lane, .int sh1_size])), (h_sh1_cells, .inl (cI, 40, .inl sh1_cells)), (h_sh2, .inr (1, [.ref h_sh2_cells, .int sh2_lane, .int sh2_size])), (h_sh2_cells, .inl (cI, 40, .inl sh2_cells)), (h_sh3, .inr (1, [.ref h_sh3_cells, .int u26, .int u27])), (h_sh3_cells, .inl (cI, 40, .inl u28))]) C hX (kX1_renew ad l D cI cB cZ cG cS h_sh3 h_sh3_cells sh3_lane sh3_size sh3_cells u26 u27 u28 p2 p3 g29) (cwV 2 C.1.2.2.2.2 gX4_sheet_X1_renew rfl rfl rfl (by decide +kernel) ⟨Nat.le_of_ble_eq_true rfl, Nat.le_of_ble_eq_true rfl⟩) [8, 9] [0, 1, 2, 3, 4, 5, 6, 7] [0, 1, 2, 3, 4, 5, 6, 7, 8, 9] rfl rfl rfl rfl (by decide) rfl rfl 0 rfl rfl rfl hl.1 rfl rfl (Nat.le_of_ble_eq_true rfl) dX4_sheet_39 (fun H locs hX => ?_)
                  refine lv_iconst (pc := 42) (v := 1) hx hb dX4_sheet_42 (by decide) ?_
                  obtain ⟨rfl, rfl, rfl, rfl, rfl, rfl, rfl, rfl, rfl, rfl, rfl, rfl, rfl⟩ := re13 hf
                  exact hret _ _ _ _ _ rfl rfl hX dX4_sheet_43
                · replace hf := ite_f c25 hf
                  cases hf
        · replace hf := ite_f c8 hf
          refine lv_bipush (pc := 28) (v := -14) hx hb dX4_sheet_28 (by decide) ?_
          obtain ⟨rfl, rfl, rfl, rfl, rfl, rfl, rfl, rfl, rfl, rfl, rfl, rfl, rfl⟩ := re13 hf
          exact hret _ _ _ _ _ rfl rfl hX dX4_sheet_30
      · replace hf := ite_f c7 hf
        refine lv_iconst (pc := 22) (v := -1) hx hb dX4_sheet_22 (by decide) ?_
        obtain ⟨rfl, rfl, rfl, rfl, rfl, rfl, rfl, rfl, rfl, rfl, rfl, rfl, rfl⟩ := re13 hf
        exact hret _ _ _ _ _ rfl rfl hX dX4_sheet_23
theorem mmX4_lay_1 : Cond.fieldLink RX4 43 "SlackArms" "sheets" "[LSlackArms$Sheet;" ∈ wsX4_lay := List.mem_of_getElem? (i := 1) rfl
theorem miX4_lay_X4 : ∀ w ∈ u_ws RX4 TX4 9, w ∈ wsX4_lay := fun w h => List.mem_cons_of_mem _ (List.mem_append_left _ (List.mem_append_right _ h))
set_option maxHeartbeats 4000000 in
set_option maxRecDepth 100000 in
theorem kX4_lay (ad : xAd) (l : Launch) (D : va_G) (cI cB cZ cG cS : ClassId) (h0 h_now h_trial h_images h_kept h_tape h_sights h_sheets h_looks h_sh0 h_sh0_cells h_sh1 h_sh1_cells h_sh2 h_sh2_cells h_sh3 h_sh3_cells : Nat) (tornFault : Int32) (sh0_lane : Int32) (sh0_size : Int32) (sh0_cells : (Nat → Int32)) (sh1_lane : Int32) (sh1_size : Int32) (sh1_cells : (Nat → Int32)) (sh2_lane : Int32) (sh2_size : Int32) (sh2_cells : (Nat → Int32)) (sh3_lane : Int32) (sh3_size : Int32) (sh3_cells : (Nat → Int32)) (r0 : Int32) (o_sh0_cells' : (Nat → Int32)) (o_sh1_cells' : (Nat → Int32)) (o_sh2_cells' : (Nat → Int32)) (o_sh3_cells' : (Nat → Int32)) (p1 : Int32) (p2 : Int32) (p3 : Int32) (hf : fX4_lay p1 p2 p3 sh0_lane sh0_size sh0_cells sh1_lane sh1_size sh1_cells sh2_lane sh2_size sh2_cells sh3_lane sh3_size sh3_cells = some (r0, o_sh0_cells', o_sh1_cells', o_sh2_cells', o_sh3_cells')) : xMi ad l yX4_lay wsX4_lay ({ frames := 2, cells := 0, slots := 0, locals := 43 } : Room) D (xTY cI cB cZ cG cS) [.ref h0, .int p1, .int p2, .int p3] [(h0, .inr (4, [.ref h_now, .ref h_trial, .ref h_images, .ref h_kept, .ref h_tape, .ref h_sights, .ref h_sheets, .ref h_looks, .int tornFault])), (h_sheets, .inl (cS, 4, .inr (.inr (.inr (.inr (xr4 h_sh0 h_sh1 h_sh2 h_sh3)))))), (h_sh0, .inr (1, [.ref h_sh0_cells, .int sh0_lane, .int sh0_size])), (h_sh0_cells, .inl (cI, 40, .inl sh0_cells)), (h_sh1, .inr (1, [.ref h_sh1_cells, .int sh1_lane, .int sh1_size])), (h_sh1_cells, .inl (cI, 40, .inl sh1_cells)), (h_sh2, .inr (1, [.ref h_sh2_cells, .int sh2_lane, .int sh2_size])), (h_sh2_cells, .inl (cI, 40, .inl sh2_cells)), (h_sh3, .inr (1, [.ref h_sh3_cells, .int sh3_lane, .int sh3_size])), (h_sh3_cells, .inl (cI, 40, .inl sh3_cells))] [(h0, .inr (4, [.ref h_now, .ref h_trial, .ref h_images, .ref h_kept, .ref h_tape, .ref h_sights, .ref h_sheets, .ref h_looks, .int tornFault])), (h_sheets, .inl (cS, 4, .inr (.inr (.inr (.inr (xr4 h_sh0 h_sh1 h_sh2 h_sh3)))))), (h_sh0, .inr (1, [.ref h_sh0_cells, .int sh0_lane, .int sh0_size])), (h_sh0_cells, .inl (cI, 40, .inl o_sh0_cells')), (h_sh1, .inr (1, [.ref h_sh1_cells, .int sh1_lane, .int sh1_size])), (h_sh1_cells, .inl (cI, 40, .inl o_sh1_cells')), (h_sh2, .inr (1, [.ref h_sh2_cells, .int sh2_lane, .int sh2_size])), (h_sh2_cells, .inl (cI, 40, .inl o_sh2_cells')), (h_sh3, .inr (1, [.ref h_sh3_cells, .int sh3_lane, .int sh3_size])), (h_sh3_cells, .inl (cI, 40, .inl o_sh3_cells'))] r0 := by
  refine xMi_of (cc := cX4_lay) (maxL := 5) (ty := .int) (by decide) rfl (Nat.le_of_ble_eq_true rfl) ?_
  intro p e s m args below meth c A Q ls C hX hl hret
  have hx := C.1.1
  have hb := C.1.2.1
  have hl : lv_has ls 5 [(0, .ref h0), (1, .int p1), (2, .int p2), (3, .int p3)] := hl
  unfold fX4_lay at hf
  refine lv_iload_n (pc := 0) hx hb dX4_lay_0 rfl (lv_at hl 1 rfl) ?_
  obtain ⟨r1, g2, hf⟩ := cl1_adv hf
  refine x_callSi (pc := 1) (rest := []) C hX (kX4_isSheet ad l D cI cB cZ cG cS r1 p1 g2) (va_cwS 1 C.1.2.2.2.2 gX4_lay_X4_isSheet rfl rfl rfl (by decide +kernel) ⟨Nat.le_of_ble_eq_true rfl, Nat.le_of_ble_eq_true rfl⟩) hl.1 rfl rfl (Nat.le_of_ble_eq_true rfl) dX4_lay_1 (fun H locs hX => ?_)
  refine lv_if_ne (pc := 4) (tgt := 9) hx hb dX4_lay_4 (by decide) (fun c3 => ?_) (fun c3 => ?_)
  · replace hf := ite_f c3 hf
    refine lv_aload_n (pc := 9) hx hb dX4_lay_9 rfl (lv_at hl 0 rfl) ?_
    refine x_getf (pc := 10) (Cn := RX4) (T := TX4) (N := 9) C hX 0 rfl rfl miX4_lay_X4 6 (by decide) mmX4_lay_1 rfl dX4_lay_10 ?_
    refine lv_iload_n (pc := 13) hx hb dX4_lay_13 rfl (lv_at hl 1 rfl) ?_
    replace hf := chk_adv hf
    have i4 := hf.1
    replace hf := hf.2
    rcases Decidable.em (p1 = 0) with c5 | c5
    · replace hf := ite_t c5 hf
      refine x_aald (pc := 14) (v := .ref h_sh0) C hX 1 4 rfl rfl i4 (by rw [c5]; rfl) dX4_lay_14 ?_
      refine lv_iload_n (pc := 15) hx hb dX4_lay_15 rfl (lv_at hl 2 rfl) ?_
      obtain ⟨r6, g7, hf⟩ := cl1_adv hf
      refine x_callVi (pc := 16) (rest := []) (w2 := [(h0, .inr (4, [.ref h_now, .ref h_trial, .ref h_images, .ref h_kept, .ref h_tape, .ref h_sights, .ref h_sheets, .ref h_looks, .int tornFault])), (h_sheets, .inl (cS, 4, .inr (.inr (.inr (.inr (xr4 h_sh0 h_sh1 h_sh2 h_sh3)))))), (h_sh0, .inr (1, [.ref h_sh0_cells, .int sh0_lane, .int sh0_size])), (h_sh0_cells, .inl (cI, 40, .inl sh0_cells)), (h_sh1, .inr (1, [.ref h_sh1_cells, .int sh1_lane, .int sh1_size])), (h_sh1_cells, .inl (cI, 40, .inl sh1_cells)), (h_sh2, .inr (1, [.ref h_sh2_cells, .int sh2_lane, .int sh2_size])), (h_sh2_cells, .inl (cI, 40, .inl sh2_cells)), (h_sh3, .inr (1, [.ref h_sh3_cells, .int sh3_lane, .int sh3_size])), (h_sh3_cells, .inl (cI, 40, .inl sh3_cells))]) C hX (kX1_faultAt ad l D cI cB cZ cG cS h_sh0 h_sh0_cells sh0_lane sh0_size sh0_cells r6 p2 g7) (cwV 1 C.1.2.2.2.2 gX4_lay_X1_faultAt rfl rfl rfl (by decide +kernel) ⟨Nat.le_of_ble_eq_true rfl, Nat.le_of_ble_eq_true rfl⟩) [2, 3] [0, 1, 4, 5, 6, 7, 8, 9] [0, 1, 8, 9, 2, 3, 4, 5, 6, 7] rfl rfl rfl rfl (by decide) rfl rfl 0 rfl rfl rfl hl.1 rfl rfl (Nat.le_of_ble_eq_true rfl) dX4_lay_16 (fun H locs hX => ?_)
      refine lv_istore (pc := 19) (lv' := [(4, .int r6), (0, .ref h0), (1, .int p1), (2, .int p2), (3, .int p3)]) hx hb dX4_lay_19 hl (by decide) rfl (fun ls hl => ?_)
      refine lv_iload (pc := 21) hx hb dX4_lay_21 (lv_at hl 0 rfl) ?_
      refine lv_if_eq (pc := 23) (tgt := 32) hx hb dX4_lay_23 (by decide) (fun c8 => ?_) (fun c8 => ?_)
      · replace hf := ite_t c8 hf
        refine lv_aload_n (pc := 32) hx hb dX4_lay_32 rfl (lv_at hl 1 rfl) ?_
        refine x_getf (pc := 33) (Cn := RX4) (T := TX4) (N := 9) C hX 0 rfl rfl miX4_lay_X4 6 (by decide) mmX4_lay_1 rfl dX4_lay_33 ?_
        refine lv_iload_n (pc := 36) hx hb dX4_lay_36 rfl (lv_at hl 2 rfl) ?_
        replace hf := chk_adv hf
        have i9 := hf.1
        replace hf := hf.2
        rcases Decidable.em (p1 = 0) with c10 | c10
        · replace hf := ite_t c10 hf
          refine x_aald (pc := 37) (v := .ref h_sh0) C hX 1 4 rfl rfl i9 (by rw [c10]; rfl) dX4_lay_37 ?_
          refine lv_iload_n (pc := 38) hx hb dX4_lay_38 rfl (lv_at hl 3 rfl) ?_
          refine lv_iload_n (pc := 39) hx hb dX4_lay_39 rfl (lv_at hl 4 rfl) ?_
          obtain ⟨u11, g12, hf⟩ := cl1_adv hf
          refine x_callVv (pc := 40) (rest := []) (w2 := [(h0, .inr (4, [.ref h_now, .ref h_trial, .ref h_images, .ref h_kept, .ref h_tape, .ref h_sights, .ref h_sheets, .ref h_looks, .int tornFault])), (h_sheets, .inl (cS, 4, .inr (.inr (.inr (.inr (xr4 h_sh0 h_sh1 h_sh2 h_sh3)))))), (h_sh0, .inr (1, [.ref h_sh0_cells, .int sh0_lane, .int sh0_size])), (h_sh0_cells, .inl (cI, 40, .inl u11)), (h_sh1, .inr (1, [.ref h_sh1_cells, .int sh1_lane, .int sh1_size])), (h_sh1_cells, .inl (cI, 40, .inl sh1_cells)), (h_sh2, .inr (1, [.ref h_sh2_cells, .int sh2_lane, .int sh2_size])), (h_sh2_cells, .inl (cI, 40, .inl sh2_cells)), (h_sh3, .inr (1, [.ref h_sh3_cells, .int sh3_lane, .int sh3_size])), (h_sh3_cells, .inl (cI, 40, .inl sh3_cells))]) C hX (kX1_put ad l D cI cB cZ cG cS h_sh0 h_sh0_cells sh0_lane sh0_size sh0_cells u11 p2 p3 g12) (cwV 2 C.1.2.2.2.2 gX4_lay_X1_put rfl rfl rfl (by decide +kernel) ⟨Nat.le_of_ble_eq_true rfl, Nat.le_of_ble_eq_true rfl⟩) [2, 3] [0, 1, 4, 5, 6, 7, 8, 9] [0, 1, 8, 9, 2, 3, 4, 5, 6, 7] rfl rfl rfl rfl (by decide) rfl rfl 0 rfl rfl rfl hl.1 rfl rfl (Nat.le_of_ble_eq_true rfl) dX4_lay_40 (fun H locs hX => ?_)
          refine lv_iconst (pc := 43) (v := 1) hx hb dX4_lay_43 (by decide) ?_
          obtain ⟨rfl, rfl, rfl, rfl, rfl⟩ := re5 hf
          exact hret _ _ _ _ _ rfl rfl hX dX4_lay_44
        · replace hf := ite_f c10 hf
          rcases Decidable.em (p1 = 1) with c13 | c13
          · replace hf := ite_t c13 hf
            refine x_aald (pc := 37) (v := .ref h_sh1) C hX 1 4 rfl rfl i9 (by rw [c13]; rfl) dX4_lay_37 ?_
            refine lv_iload_n (pc := 38) hx hb dX4_lay_38 rfl (lv_at hl 3 rfl) ?_
            refine lv_iload_n (pc := 39) hx hb dX4_lay_39 rfl (lv_at hl 4 rfl) ?_
            obtain ⟨u14, g15, hf⟩ := cl1_adv hf
            refine x_callVv (pc := 40) (rest := []) (w2 := [(h0, .inr (4, [.ref h_now, .ref h_trial, .ref h_images, .ref h_kept, .ref h_tape, .ref h_sights, .ref h_sheets, .ref h_looks, .int tornFault])), (h_sheets, .inl (cS, 4, .inr (.inr (.inr (.inr (xr4 h_sh0 h_sh1 h_sh2 h_sh3)))))), (h_sh0, .inr (1, [.ref h_sh0_cells, .int sh0_lane, .int sh0_size])), (h_sh0_cells, .inl (cI, 40, .inl sh0_cells)), (h_sh1, .inr (1, [.ref h_sh1_cells, .int sh1_lane, .int sh1_size])), (h_sh1_cells, .inl (cI, 40, .inl u14)), (h_sh2, .inr (1, [.ref h_sh2_cells, .int sh2_lane, .int sh2_size])), (h_sh2_cells, .inl (cI, 40, .inl sh2_cells)), (h_sh3, .inr (1, [.ref h_sh3_cells, .int sh3_lane, .int sh3_size])), (h_sh3_cells, .inl (cI, 40, .inl sh3_cells))]) C hX (kX1_put ad l D cI cB cZ cG cS h_sh1 h_sh1_cells sh1_lane sh1_size sh1_cells u14 p2 p3 g15) (cwV 2 C.1.2.2.2.2 gX4_lay_X1_put rfl rfl rfl (by decide +kernel) ⟨Nat.le_of_ble_eq_true rfl, Nat.le_of_ble_eq_true rfl⟩) [4, 5] [0, 1, 2, 3, 6, 7, 8, 9] [0, 1, 2, 3, 8, 9, 4, 5, 6, 7] rfl rfl rfl rfl (by decide) rfl rfl 0 rfl rfl rfl hl.1 rfl rfl (Nat.le_of_ble_eq_true rfl) dX4_lay_40 (fun H locs hX => ?_)
            refine lv_iconst (pc := 43) (v := 1) hx hb dX4_lay_43 (by decide) ?_
            obtain ⟨rfl, rfl, rfl, rfl, rfl⟩ := re5 hf
            exact hret _ _ _ _ _ rfl rfl hX dX4_lay_44
          · replace hf := ite_f c13 hf
            rcases Decidable.em (p1 = 2) with c16 | c16
            · replace hf := ite_t c16 hf
              refine x_aald (pc := 37) (v := .ref h_sh2) C hX 1 4 rfl rfl i9 (by rw [c16]; rfl) dX4_lay_37 ?_
              refine lv_iload_n (pc := 38) hx hb dX4_lay_38 rfl (lv_at hl 3 rfl) ?_
              refine lv_iload_n (pc := 39) hx hb dX4_lay_39 rfl (lv_at hl 4 rfl) ?_
              obtain ⟨u17, g18, hf⟩ := cl1_adv hf
              refine x_callVv (pc := 40) (rest := []) (w2 := [(h0, .inr (4, [.ref h_now, .ref h_trial, .ref h_images, .ref h_kept, .ref h_tape, .ref h_sights, .ref h_sheets, .ref h_looks, .int tornFault])), (h_sheets, .inl (cS, 4, .inr (.inr (.inr (.inr (xr4 h_sh0 h_sh1 h_sh2 h_sh3)))))), (h_sh0, .inr (1, [.ref h_sh0_cells, .int sh0_lane, .int sh0_size])), (h_sh0_cells, .inl (cI, 40, .inl sh0_cells)), (h_sh1, .inr (1, [.ref h_sh1_cells, .int sh1_lane, .int sh1_size])), (h_sh1_cells, .inl (cI, 40, .inl sh1_cells)), (h_sh2, .inr (1, [.ref h_sh2_cells, .int sh2_lane, .int sh2_size])), (h_sh2_cells, .inl (cI, 40, .inl u17)), (h_sh3, .inr (1, [.ref h_sh3_cells, .int sh3_lane, .int sh3_size])), (h_sh3_cells, .inl (cI, 40, .inl sh3_cells))]) C hX (kX1_put ad l D cI cB cZ cG cS h_sh2 h_sh2_cells sh2_lane sh2_size sh2_cells u17 p2 p3 g18) (cwV 2 C.1.2.2.2.2 gX4_lay_X1_put rfl rfl rfl (by decide +kernel) ⟨Nat.le_of_ble_eq_true rfl, Nat.le_of_ble_eq_true rfl⟩) [6, 7] [0, 1, 2, 3, 4, 5, 8, 9] [0, 1, 2, 3, 4, 5, 8, 9, 6, 7] rfl rfl rfl rfl (by decide) rfl rfl 0 rfl rfl rfl hl.1 rfl rfl (Nat.le_of_ble_eq_true rfl) dX4_lay_40 (fun H locs hX => ?_)
              refine lv_iconst (pc := 43) (v := 1) hx hb dX4_lay_43 (by decide) ?_
              obtain ⟨rfl, rfl, rfl, rfl, rfl⟩ := re5 hf
              exact hret _ _ _ _ _ rfl rfl hX dX4_lay_44
            · replace hf := ite_f c16 hf
              rcases Decidable.em (p1 = 3) with c19 | c19
              · replace hf := ite_t c19 hf
                refine x_aald (pc := 37) (v := .ref h_sh3) C hX 1 4 rfl rfl i9 (by rw [c19]; rfl) dX4_lay_37 ?_
                refine lv_iload_n (pc := 38) hx hb dX4_lay_38 rfl (lv_at hl 3 rfl) ?_
                refine lv_iload_n (pc := 39) hx hb dX4_lay_39 rfl (lv_at hl 4 rfl) ?_
                obtain ⟨u20, g21, hf⟩ := cl1_adv hf
                refine x_callVv (pc := 40) (rest := []) (w2 := [(h0, .inr (4, [.ref h_now, .ref h_trial, .ref h_images, .ref h_kept, .ref h_tape, .ref h_sights, .ref h_sheets, .ref h_looks, .int tornFault])), (h_sheets, .inl (cS, 4, .inr (.inr (.inr (.inr (xr4 h_sh0 h_sh1 h_sh2 h_sh3)))))), (h_sh0, .inr (1, [.ref h_sh0_cells, .int sh0_lane, .int sh0_size])), (h_sh0_cells, .inl (cI, 40, .inl sh0_cells)), (h_sh1, .inr (1, [.ref h_sh1_cells, .int sh1_lane, .int sh1_size])), (h_sh1_cells, .inl (cI, 40, .inl sh1_cells)), (h_sh2, .inr (1, [.ref h_sh2_cells, .int sh2_lane, .int sh2_size])), (h_sh2_cells, .inl (cI, 40, .inl sh2_cells)), (h_sh3, .inr (1, [.ref h_sh3_cells, .int sh3_lane, .int sh3_size])), (h_sh3_cells, .inl (cI, 40, .inl u20))]) C hX (kX1_put ad l D cI cB cZ cG cS h_sh3 h_sh3_cells sh3_lane sh3_size sh3_cells u20 p2 p3 g21) (cwV 2 C.1.2.2.2.2 gX4_lay_X1_put rfl rfl rfl (by decide +kernel) ⟨Nat.le_of_ble_eq_true rfl, Nat.le_of_ble_eq_true rfl⟩) [8, 9] [0, 1, 2, 3, 4, 5, 6, 7] [0, 1, 2, 3, 4, 5, 6, 7, 8, 9] rfl rfl rfl rfl (by decide) rfl rfl 0 rfl rfl rfl hl.1 rfl rfl (Nat.le_of_ble_eq_true rfl) dX4_lay_40 (fun H locs hX => ?_)
                refine lv_iconst (pc := 43) (v := 1) hx hb dX4_lay_43 (by decide) ?_
                obtain ⟨rfl, rfl, rfl, rfl, rfl⟩ := re5 hf
                exact hret _ _ _ _ _ rfl rfl hX dX4_lay_44
              · replace hf := ite_f c19 hf
                cases hf
      · replace hf := ite_f c8 hf
        refine lv_bipush (pc := 26) (v := -10) hx hb dX4_lay_26 (by decide) ?_
        refine lv_iload (pc := 28) hx hb dX4_lay_28 (lv_at hl 0 rfl) ?_
        refine lv_isub (pc := 30) hx hb dX4_lay_30 ?_
        obtain ⟨rfl, rfl, rfl, rfl, rfl⟩ := re5 hf
        exact hret _ _ _ _ _ rfl rfl hX dX4_lay_31
    · replace hf := ite_f c5 hf
      rcases Decidable.em (p1 = 1) with c22 | c22
      · replace hf := ite_t c22 hf
        refine x_aald (pc := 14) (v := .ref h_sh1) C hX 1 4 rfl rfl i4 (by rw [c22]; rfl) dX4_lay_14 ?_
        refine lv_iload_n (pc := 15) hx hb dX4_lay_15 rfl (lv_at hl 2 rfl) ?_
        obtain ⟨r23, g24, hf⟩ := cl1_adv hf
        refine x_callVi (pc := 16) (rest := []) (w2 := [(h0, .inr (4, [.ref h_now, .ref h_trial, .ref h_images, .ref h_kept, .ref h_tape, .ref h_sights, .ref h_sheets, .ref h_looks, .int tornFault])), (h_sheets, .inl (cS, 4, .inr (.inr (.inr (.inr (xr4 h_sh0 h_sh1 h_sh2 h_sh3)))))), (h_sh0, .inr (1, [.ref h_sh0_cells, .int sh0_lane, .int sh0_size])), (h_sh0_cells, .inl (cI, 40, .inl sh0_cells)), (h_sh1, .inr (1, [.ref h_sh1_cells, .int sh1_lane, .int sh1_size])), (h_sh1_cells, .inl (cI, 40, .inl sh1_cells)), (h_sh2, .inr (1, [.ref h_sh2_cells, .int sh2_lane, .int sh2_size])), (h_sh2_cells, .inl (cI, 40, .inl sh2_cells)), (h_sh3, .inr (1, [.ref h_sh3_cells, .int sh3_lane, .int sh3_size])), (h_sh3_cells, .inl (cI, 40, .inl sh3_cells))]) C hX (kX1_faultAt ad l D cI cB cZ cG cS h_sh1 h_sh1_cells sh1_lane sh1_size sh1_cells r23 p2 g24) (cwV 1 C.1.2.2.2.2 gX4_lay_X1_faultAt rfl rfl rfl (by decide +kernel) ⟨Nat.le_of_ble_eq_true rfl, Nat.le_of_ble_eq_true rfl⟩) [4, 5] [0, 1, 2, 3, 6, 7, 8, 9] [0, 1, 2, 3, 8, 9, 4, 5, 6, 7] rfl rfl rfl rfl (by decide) rfl rfl 0 rfl rfl rfl hl.1 rfl rfl (Nat.le_of_ble_eq_true rfl) dX4_lay_16 (fun H locs hX => ?_)
        refine lv_istore (pc := 19) (lv' := [(4, .int r23), (0, .ref h0), (1, .int p1), (2, .int p2), (3, .int p3)]) hx hb dX4_lay_19 hl (by decide) rfl (fun ls hl => ?_)
        refine lv_iload (pc := 21) hx hb dX4_lay_21 (lv_at hl 0 rfl) ?_
        refine lv_if_eq (pc := 23) (tgt := 32) hx hb dX4_lay_23 (by decide) (fun c25 => ?_) (fun c25 => ?_)
        · replace hf := ite_t c25 hf
          refine lv_aload_n (pc := 32) hx hb dX4_lay_32 rfl (lv_at hl 1 rfl) ?_
          refine x_getf (pc := 33) (Cn := RX4) (T := TX4) (N := 9) C hX 0 rfl rfl miX4_lay_X4 6 (by decide) mmX4_lay_1 rfl dX4_lay_33 ?_
          refine lv_iload_n (pc := 36) hx hb dX4_lay_36 rfl (lv_at hl 2 rfl) ?_
          replace hf := chk_adv hf
          have i26 := hf.1
          replace hf := hf.2
          rcases Decidable.em (p1 = 0) with c27 | c27
          · replace hf := ite_t c27 hf
            refine x_aald (pc := 37) (v := .ref h_sh0) C hX 1 4 rfl rfl i26 (by rw [c27]; rfl) dX4_lay_37 ?_
            refine lv_iload_n (pc := 38) hx hb dX4_lay_38 rfl (lv_at hl 3 rfl) ?_
            refine lv_iload_n (pc := 39) hx hb dX4_lay_39 rfl (lv_at hl 4 rfl) ?_
            obtain ⟨u28, g29, hf⟩ := cl1_adv hf
            refine x_callVv (pc := 40) (rest := []) (w2 := [(h0, .inr (4, [.ref h_now, .ref h_trial, .ref h_images, .ref h_kept, .ref h_tape, .ref h_sights, .ref h_sheets, .ref h_looks, .int tornFault])), (h_sheets, .inl (cS, 4, .inr (.inr (.inr (.inr (xr4 h_sh0 h_sh1 h_sh2 h_sh3)))))), (h_sh0, .inr (1, [.ref h_sh0_cells, .int sh0_lane, .int sh0_size])), (h_sh0_cells, .inl (cI, 40, .inl u28)), (h_sh1, .inr (1, [.ref h_sh1_cells, .int sh1_lane, .int sh1_size])), (h_sh1_cells, .inl (cI, 40, .inl sh1_cells)), (h_sh2, .inr (1, [.ref h_sh2_cells, .int sh2_lane, .int sh2_size])), (h_sh2_cells, .inl (cI, 40, .inl sh2_cells)), (h_sh3, .inr (1, [.ref h_sh3_cells, .int sh3_lane, .int sh3_size])), (h_sh3_cells, .inl (cI, 40, .inl sh3_cells))]) C hX (kX1_put ad l D cI cB cZ cG cS h_sh0 h_sh0_cells sh0_lane sh0_size sh0_cells u28 p2 p3 g29) (cwV 2 C.1.2.2.2.2 gX4_lay_X1_put rfl rfl rfl (by decide +kernel) ⟨Nat.le_of_ble_eq_true rfl, Nat.le_of_ble_eq_true rfl⟩) [2, 3] [0, 1, 4, 5, 6, 7, 8, 9] [0, 1, 8, 9, 2, 3, 4, 5, 6, 7] rfl rfl rfl rfl (by decide) rfl rfl 0 rfl rfl rfl hl.1 rfl rfl (Nat.le_of_ble_eq_true rfl) dX4_lay_40 (fun H locs hX => ?_)
            refine lv_iconst (pc := 43) (v := 1) hx hb dX4_lay_43 (by decide) ?_
            obtain ⟨rfl, rfl, rfl, rfl, rfl⟩ := re5 hf
            exact hret _ _ _ _ _ rfl rfl hX dX4_lay_44
          · replace hf := ite_f c27 hf
            rcases Decidable.em (p1 = 1) with c30 | c30
            · replace hf := ite_t c30 hf
              refine x_aald (pc := 37) (v := .ref h_sh1) C hX 1 4 rfl rfl i26 (by rw [c30]; rfl) dX4_lay_37 ?_
              refine lv_iload_n (pc := 38) hx hb dX4_lay_38 rfl (lv_at hl 3 rfl) ?_
              refine lv_iload_n (pc := 39) hx hb dX4_lay_39 rfl (lv_at hl 4 rfl) ?_
              obtain ⟨u31, g32, hf⟩ := cl1_adv hf
              refine x_callVv (pc := 40) (rest := []) (w2 := [(h0, .inr (4, [.ref h_now, .ref h_trial, .ref h_images, .ref h_kept, .ref h_tape, .ref h_sights, .ref h_sheets, .ref h_looks, .int tornFault])), (h_sheets, .inl (cS, 4, .inr (.inr (.inr (.inr (xr4 h_sh0 h_sh1 h_sh2 h_sh3)))))), (h_sh0, .inr (1, [.ref h_sh0_cells, .int sh0_lane, .int sh0_size])), (h_sh0_cells, .inl (cI, 40, .inl sh0_cells)), (h_sh1, .inr (1, [.ref h_sh1_cells, .int sh1_lane, .int sh1_size])), (h_sh1_cells, .inl (cI, 40, .inl u31)), (h_sh2, .inr (1, [.ref h_sh2_cells, .int sh2_lane, .int sh2_size])), (h_sh2_cells, .inl (cI, 40, .inl sh2_cells)), (h_sh3, .inr (1, [.ref h_sh3_cells, .int sh3_lane, .int sh3_size])), (h_sh3_cells, .inl (cI, 40, .inl sh3_cells))]) C hX (kX1_put ad l D cI cB cZ cG cS h_sh1 h_sh1_cells sh1_lane sh1_size sh1_cells u31 p2 p3 g32) (cwV 2 C.1.2.2.2.2 gX4_lay_X1_put rfl rfl rfl (by decide +kernel) ⟨Nat.le_of_ble_eq_true rfl, Nat.le_of_ble_eq_true rfl⟩) [4, 5] [0, 1, 2, 3, 6, 7, 8, 9] [0, 1, 2, 3, 8, 9, 4, 5, 6, 7] rfl rfl rfl rfl (by decide) rfl rfl 0 rfl rfl rfl hl.1 rfl rfl (Nat.le_of_ble_eq_true rfl) dX4_lay_40 (fun H locs hX => ?_)
              refine lv_iconst (pc := 43) (v := 1) hx hb dX4_lay_43 (by decide) ?_
              obtain ⟨rfl, rfl, rfl, rfl, rfl⟩ := re5 hf
              exact hret _ _ _ _ _ rfl rfl hX dX4_lay_44
            · replace hf := ite_f c30 hf
              rcases Decidable.em (p1 = 2) with c33 | c33
              · replace hf := ite_t c33 hf
                refine x_aald (pc := 37) (v := .ref h_sh2) C hX 1 4 rfl rfl i26 (by rw [c33]; rfl) dX4_lay_37 ?_
                refine lv_iload_n (pc := 38) hx hb dX4_lay_38 rfl (lv_at hl 3 rfl) ?_
                refine lv_iload_n (pc := 39) hx hb dX4_lay_39 rfl (lv_at hl 4 rfl) ?_
                obtain ⟨u34, g35, hf⟩ := cl1_adv hf
                refine x_callVv (pc := 40) (rest := []) (w2 := [(h0, .inr (4, [.ref h_now, .ref h_trial, .ref h_images, .ref h_kept, .ref h_tape, .ref h_sights, .ref h_sheets, .ref h_looks, .int tornFault])), (h_sheets, .inl (cS, 4, .inr (.inr (.inr (.inr (xr4 h_sh0 h_sh1 h_sh2 h_sh3)))))), (h_sh0, .inr (1, [.ref h_sh0_cells, .int sh0_lane, .int sh0_size])), (h_sh0_cells, .inl (cI, 40, .inl sh0_cells)), (h_sh1, .inr (1, [.ref h_sh1_cells, .int sh1_lane, .int sh1_size])), (h_sh1_cells, .inl (cI, 40, .inl sh1_cells)), (h_sh2, .inr (1, [.ref h_sh2_cells, .int sh2_lane, .int sh2_size])), (h_sh2_cells, .inl (cI, 40, .inl u34)), (h_sh3, .inr (1, [.ref h_sh3_cells, .int sh3_lane, .int sh3_size])), (h_sh3_cells, .inl (cI, 40, .inl sh3_cells))]) C hX (kX1_put ad l D cI cB cZ cG cS h_sh2 h_sh2_cells sh2_lane sh2_size sh2_cells u34 p2 p3 g35) (cwV 2 C.1.2.2.2.2 gX4_lay_X1_put rfl rfl rfl (by decide +kernel) ⟨Nat.le_of_ble_eq_true rfl, Nat.le_of_ble_eq_true rfl⟩) [6, 7] [0, 1, 2, 3, 4, 5, 8, 9] [0, 1, 2, 3, 4, 5, 8, 9, 6, 7] rfl rfl rfl rfl (by decide) rfl rfl 0 rfl rfl rfl hl.1 rfl rfl (Nat.le_of_ble_eq_true rfl) dX4_lay_40 (fun H locs hX => ?_)
                refine lv_iconst (pc := 43) (v := 1) hx hb dX4_lay_43 (by decide) ?_
                obtain ⟨rfl, rfl, rfl, rfl, rfl⟩ := re5 hf
                exact hret _ _ _ _ _ rfl rfl hX dX4_lay_44
              · replace hf := ite_f c33 hf
                rcases Decidable.em (p1 = 3) with c36 | c36
                · replace hf := ite_t c36 hf
                  refine x_aald (pc := 37) (v := .ref h_sh3) C hX 1 4 rfl rfl i26 (by rw [c36]; rfl) dX4_lay_37 ?_
                  refine lv_iload_n (pc := 38) hx hb dX4_lay_38 rfl (lv_at hl 3 rfl) ?_
                  refine lv_iload_n (pc := 39) hx hb dX4_lay_39 rfl (lv_at hl 4 rfl) ?_
                  obtain ⟨u37, g38, hf⟩ := cl1_adv hf
                  refine x_callVv (pc := 40) (rest := []) (w2 := [(h0, .inr (4, [.ref h_now, .ref h_trial, .ref h_images, .ref h_kept, .ref h_tape, .ref h_sights, .ref h_sheets, .ref h_looks, .int tornFault])), (h_sheets, .inl (cS, 4, .inr (.inr (.inr (.inr (xr4 h_sh0 h_sh1 h_sh2 h_sh3)))))), (h_sh0, .inr (1, [.ref h_sh0_cells, .int sh0_lane, .int sh0_size])), (h_sh0_cells, .inl (cI, 40, .inl sh0_cells)), (h_sh1, .inr (1, [.ref h_sh1_cells, .int sh1_lane, .int sh1_size])), (h_sh1_cells, .inl (cI, 40, .inl sh1_cells)), (h_sh2, .inr (1, [.ref h_sh2_cells, .int sh2_lane, .int sh2_size])), (h_sh2_cells, .inl (cI, 40, .inl sh2_cells)), (h_sh3, .inr (1, [.ref h_sh3_cells, .int sh3_lane, .int sh3_size])), (h_sh3_cells, .inl (cI, 40, .inl u37))]) C hX (kX1_put ad l D cI cB cZ cG cS h_sh3 h_sh3_cells sh3_lane sh3_size sh3_cells u37 p2 p3 g38) (cwV 2 C.1.2.2.2.2 gX4_lay_X1_put rfl rfl rfl (by decide +kernel) ⟨Nat.le_of_ble_eq_true rfl, Nat.le_of_ble_eq_true rfl⟩) [8, 9] [0, 1, 2, 3, 4, 5, 6, 7] [0, 1, 2, 3, 4, 5, 6, 7, 8, 9] rfl rfl rfl rfl (by decide) rfl rfl 0 rfl rfl rfl hl.1 rfl rfl (Nat.le_of_ble_eq_true rfl) dX4_lay_40 (fun H locs hX => ?_)
                  refine lv_iconst (pc := 43) (v := 1) hx hb dX4_lay_43 (by decide) ?_
                  obtain ⟨rfl, rfl, rfl, rfl, rfl⟩ := re5 hf
                  exact hret _ _ _ _ _ rfl rfl hX dX4_lay_44
                · replace hf := ite_f c36 hf
                  cases hf
        · replace hf := ite_f c25 hf
          refine lv_bipush (pc := 26) (v := -10) hx hb dX4_lay_26 (by decide) ?_
          refine lv_iload (pc := 28) hx hb dX4_lay_28 (lv_at hl 0 rfl) ?_
          refine lv_isub (pc := 30) hx hb dX4_lay_30 ?_
          obtain ⟨rfl, rfl, rfl, rfl, rfl⟩ := re5 hf
          exact hret _ _ _ _ _ rfl rfl hX dX4_lay_31
      · replace hf := ite_f c22 hf
        rcases Decidable.em (p1 = 2) with c39 | c39
        · replace hf := ite_t c39 hf
          refine x_aald (pc := 14) (v := .ref h_sh2) C hX 1 4 rfl rfl i4 (by rw [c39]; rfl) dX4_lay_14 ?_
          refine lv_iload_n (pc := 15) hx hb dX4_lay_15 rfl (lv_at hl 2 rfl) ?_
          obtain ⟨r40, g41, hf⟩ := cl1_adv hf
          refine x_callVi (pc := 16) (rest := []) (w2 := [(h0, .inr (4, [.ref h_now, .ref h_trial, .ref h_images, .ref h_kept, .ref h_tape, .ref h_sights, .ref h_sheets, .ref h_looks, .int tornFault])), (h_sheets, .inl (cS, 4, .inr (.inr (.inr (.inr (xr4 h_sh0 h_sh1 h_sh2 h_sh3)))))), (h_sh0, .inr (1, [.ref h_sh0_cells, .int sh0_lane, .int sh0_size])), (h_sh0_cells, .inl (cI, 40, .inl sh0_cells)), (h_sh1, .inr (1, [.ref h_sh1_cells, .int sh1_lane, .int sh1_size])), (h_sh1_cells, .inl (cI, 40, .inl sh1_cells)), (h_sh2, .inr (1, [.ref h_sh2_cells, .int sh2_lane, .int sh2_size])), (h_sh2_cells, .inl (cI, 40, .inl sh2_cells)), (h_sh3, .inr (1, [.ref h_sh3_cells, .int sh3_lane, .int sh3_size])), (h_sh3_cells, .inl (cI, 40, .inl sh3_cells))]) C hX (kX1_faultAt ad l D cI cB cZ cG cS h_sh2 h_sh2_cells sh2_lane sh2_size sh2_cells r40 p2 g41) (cwV 1 C.1.2.2.2.2 gX4_lay_X1_faultAt rfl rfl rfl (by decide +kernel) ⟨Nat.le_of_ble_eq_true rfl, Nat.le_of_ble_eq_true rfl⟩) [6, 7] [0, 1, 2, 3, 4, 5, 8, 9] [0, 1, 2, 3, 4, 5, 8, 9, 6, 7] rfl rfl rfl rfl (by decide) rfl rfl 0 rfl rfl rfl hl.1 rfl rfl (Nat.le_of_ble_eq_true rfl) dX4_lay_16 (fun H locs hX => ?_)
          refine lv_istore (pc := 19) (lv' := [(4, .int r40), (0, .ref h0), (1, .int p1), (2, .int p2), (3, .int p3)]) hx hb dX4_lay_19 hl (by decide) rfl (fun ls hl => ?_)
          refine lv_iload (pc := 21) hx hb dX4_lay_21 (lv_at hl 0 rfl) ?_
          refine lv_if_eq (pc := 23) (tgt := 32) hx hb dX4_lay_23 (by decide) (fun c42 => ?_) (fun c42 => ?_)
          · replace hf := ite_t c42 hf
            refine lv_aload_n (pc := 32) hx hb dX4_lay_32 rfl (lv_at hl 1 rfl) ?_
            refine x_getf (pc := 33) (Cn := RX4) (T := TX4) (N := 9) C hX 0 rfl rfl miX4_lay_X4 6 (by decide) mmX4_lay_1 rfl dX4_lay_33 ?_
            refine lv_iload_n (pc := 36) hx hb dX4_lay_36 rfl (lv_at hl 2 rfl) ?_
            replace hf := chk_adv hf
            have i43 := hf.1
            replace hf := hf.2
            rcases Decidable.em (p1 = 0) with c44 | c44
            · replace hf := ite_t c44 hf
              refine x_aald (pc := 37) (v := .ref h_sh0) C hX 1 4 rfl rfl i43 (by rw [c44]; rfl) dX4_lay_37 ?_
              refine lv_iload_n (pc := 38) hx hb dX4_lay_38 rfl (lv_at hl 3 rfl) ?_
              refine lv_iload_n (pc := 39) hx hb dX4_lay_39 rfl (lv_at hl 4 rfl) ?_
              obtain ⟨u45, g46, hf⟩ := cl1_adv hf
              refine x_callVv (pc := 40) (rest := []) (w2 := [(h0, .inr (4, [.ref h_now, .ref h_trial, .ref h_images, .ref h_kept, .ref h_tape, .ref h_sights, .ref h_sheets, .ref h_looks, .int tornFault])), (h_sheets, .inl (cS, 4, .inr (.inr (.inr (.inr (xr4 h_sh0 h_sh1 h_sh2 h_sh3)))))), (h_sh0, .inr (1, [.ref h_sh0_cells, .int sh0_lane, .int sh0_size])), (h_sh0_cells, .inl (cI, 40, .inl u45)), (h_sh1, .inr (1, [.ref h_sh1_cells, .int sh1_lane, .int sh1_size])), (h_sh1_cells, .inl (cI, 40, .inl sh1_cells)), (h_sh2, .inr (1, [.ref h_sh2_cells, .int sh2_lane, .int sh2_size])), (h_sh2_cells, .inl (cI, 40, .inl sh2_cells)), (h_sh3, .inr (1, [.ref h_sh3_cells, .int sh3_lane, .int sh3_size])), (h_sh3_cells, .inl (cI, 40, .inl sh3_cells))]) C hX (kX1_put ad l D cI cB cZ cG cS h_sh0 h_sh0_cells sh0_lane sh0_size sh0_cells u45 p2 p3 g46) (cwV 2 C.1.2.2.2.2 gX4_lay_X1_put rfl rfl rfl (by decide +kernel) ⟨Nat.le_of_ble_eq_true rfl, Nat.le_of_ble_eq_true rfl⟩) [2, 3] [0, 1, 4, 5, 6, 7, 8, 9] [0, 1, 8, 9, 2, 3, 4, 5, 6, 7] rfl rfl rfl rfl (by decide) rfl rfl 0 rfl rfl rfl hl.1 rfl rfl (Nat.le_of_ble_eq_true rfl) dX4_lay_40 (fun H locs hX => ?_)
              refine lv_iconst (pc := 43) (v := 1) hx hb dX4_lay_43 (by decide) ?_
              obtain ⟨rfl, rfl, rfl, rfl, rfl⟩ := re5 hf
              exact hret _ _ _ _ _ rfl rfl hX dX4_lay_44
            · replace hf := ite_f c44 hf
              rcases Decidable.em (p1 = 1) with c47 | c47
              · replace hf := ite_t c47 hf
                refine x_aald (pc := 37) (v := .ref h_sh1) C hX 1 4 rfl rfl i43 (by rw [c47]; rfl) dX4_lay_37 ?_
                refine lv_iload_n (pc := 38) hx hb dX4_lay_38 rfl (lv_at hl 3 rfl) ?_
                refine lv_iload_n (pc := 39) hx hb dX4_lay_39 rfl (lv_at hl 4 rfl) ?_
                obtain ⟨u48, g49, hf⟩ := cl1_adv hf
                refine x_callVv (pc := 40) (rest := []) (w2 := [(h0, .inr (4, [.ref h_now, .ref h_trial, .ref h_images, .ref h_kept, .ref h_tape, .ref h_sights, .ref h_sheets, .ref h_looks, .int tornFault])), (h_sheets, .inl (cS, 4, .inr (.inr (.inr (.inr (xr4 h_sh0 h_sh1 h_sh2 h_sh3)))))), (h_sh0, .inr (1, [.ref h_sh0_cells, .int sh0_lane, .int sh0_size])), (h_sh0_cells, .inl (cI, 40, .inl sh0_cells)), (h_sh1, .inr (1, [.ref h_sh1_cells, .int sh1_lane, .int sh1_size])), (h_sh1_cells, .inl (cI, 40, .inl u48)), (h_sh2, .inr (1, [.ref h_sh2_cells, .int sh2_lane, .int sh2_size])), (h_sh2_cells, .inl (cI, 40, .inl sh2_cells)), (h_sh3, .inr (1, [.ref h_sh3_cells, .int sh3_lane, .int sh3_size])), (h_sh3_cells, .inl (cI, 40, .inl sh3_cells))]) C hX (kX1_put ad l D cI cB cZ cG cS h_sh1 h_sh1_cells sh1_lane sh1_size sh1_cells u48 p2 p3 g49) (cwV 2 C.1.2.2.2.2 gX4_lay_X1_put rfl rfl rfl (by decide +kernel) ⟨Nat.le_of_ble_eq_true rfl, Nat.le_of_ble_eq_true rfl⟩) [4, 5] [0, 1, 2, 3, 6, 7, 8, 9] [0, 1, 2, 3, 8, 9, 4, 5, 6, 7] rfl rfl rfl rfl (by decide) rfl rfl 0 rfl rfl rfl hl.1 rfl rfl (Nat.le_of_ble_eq_true rfl) dX4_lay_40 (fun H locs hX => ?_)
                refine lv_iconst (pc := 43) (v := 1) hx hb dX4_lay_43 (by decide) ?_
                obtain ⟨rfl, rfl, rfl, rfl, rfl⟩ := re5 hf
                exact hret _ _ _ _ _ rfl rfl hX dX4_lay_44
              · replace hf := ite_f c47 hf
                rcases Decidable.em (p1 = 2) with c50 | c50
                · replace hf := ite_t c50 hf
                  refine x_aald (pc := 37) (v := .ref h_sh2) C hX 1 4 rfl rfl i43 (by rw [c50]; rfl) dX4_lay_37 ?_
                  refine lv_iload_n (pc := 38) hx hb dX4_lay_38 rfl (lv_at hl 3 rfl) ?_
                  refine lv_iload_n (pc := 39) hx hb dX4_lay_39 rfl (lv_at hl 4 rfl) ?_
                  obtain ⟨u51, g52, hf⟩ := cl1_adv hf
                  refine x_callVv (pc := 40) (rest := []) (w2 := [(h0, .inr (4, [.ref h_now, .ref h_trial, .ref h_images, .ref h_kept, .ref h_tape, .ref h_sights, .ref h_sheets, .ref h_looks, .int tornFault])), (h_sheets, .inl (cS, 4, .inr (.inr (.inr (.inr (xr4 h_sh0 h_sh1 h_sh2 h_sh3)))))), (h_sh0, .inr (1, [.ref h_sh0_cells, .int sh0_lane, .int sh0_size])), (h_sh0_cells, .inl (cI, 40, .inl sh0_cells)), (h_sh1, .inr (1, [.ref h_sh1_cells, .int sh1_lane, .int sh1_size])), (h_sh1_cells, .inl (cI, 40, .inl sh1_cells)), (h_sh2, .inr (1, [.ref h_sh2_cells, .int sh2_lane, .int sh2_size])), (h_sh2_cells, .inl (cI, 40, .inl u51)), (h_sh3, .inr (1, [.ref h_sh3_cells, .int sh3_lane, .int sh3_size])), (h_sh3_cells, .inl (cI, 40, .inl sh3_cells))]) C hX (kX1_put ad l D cI cB cZ cG cS h_sh2 h_sh2_cells sh2_lane sh2_size sh2_cells u51 p2 p3 g52) (cwV 2 C.1.2.2.2.2 gX4_lay_X1_put rfl rfl rfl (by decide +kernel) ⟨Nat.le_of_ble_eq_true rfl, Nat.le_of_ble_eq_true rfl⟩) [6, 7] [0, 1, 2, 3, 4, 5, 8, 9] [0, 1, 2, 3, 4, 5, 8, 9, 6, 7] rfl rfl rfl rfl (by decide) rfl rfl 0 rfl rfl rfl hl.1 rfl rfl (Nat.le_of_ble_eq_true rfl) dX4_lay_40 (fun H locs hX => ?_)
                  refine lv_iconst (pc := 43) (v := 1) hx hb dX4_lay_43 (by decide) ?_
                  obtain ⟨rfl, rfl, rfl, rfl, rfl⟩ := re5 hf
                  exact hret _ _ _ _ _ rfl rfl hX dX4_lay_44
                · replace hf := ite_f c50 hf
                  rcases Decidable.em (p1 = 3) with c53 | c53
                  · replace hf := ite_t c53 hf
                    refine x_aald (pc := 37) (v := .ref h_sh3) C hX 1 4 rfl rfl i43 (by rw [c53]; rfl) dX4_lay_37 ?_
                    refine lv_iload_n (pc := 38) hx hb dX4_lay_38 rfl (lv_at hl 3 rfl) ?_
                    refine lv_iload_n (pc := 39) hx hb dX4_lay_39 rfl (lv_at hl 4 rfl) ?_
                    obtain ⟨u54, g55, hf⟩ := cl1_adv hf
                    refine x_callVv (pc := 40) (rest := []) (w2 := [(h0, .inr (4, [.ref h_now, .ref h_trial, .ref h_images, .ref h_kept, .ref h_tape, .ref h_sights, .ref h_sheets, .ref h_looks, .int tornFault])), (h_sheets, .inl (cS, 4, .inr (.inr (.inr (.inr (xr4 h_sh0 h_sh1 h_sh2 h_sh3)))))), (h_sh0, .inr (1, [.ref h_sh0_cells, .int sh0_lane, .int sh0_size])), (h_sh0_cells, .inl (cI, 40, .inl sh0_cells)), (h_sh1, .inr (1, [.ref h_sh1_cells, .int sh1_lane, .int sh1_size])), (h_sh1_cells, .inl (cI, 40, .inl sh1_cells)), (h_sh2, .inr (1, [.ref h_sh2_cells, .int sh2_lane, .int sh2_size])), (h_sh2_cells, .inl (cI, 40, .inl sh2_cells)), (h_sh3, .inr (1, [.ref h_sh3_cells, .int sh3_lane, .int sh3_size])), (h_sh3_cells, .inl (cI, 40, .inl u54))]) C hX (kX1_put ad l D cI cB cZ cG cS h_sh3 h_sh3_cells sh3_lane sh3_size sh3_cells u54 p2 p3 g55) (cwV 2 C.1.2.2.2.2 gX4_lay_X1_put rfl rfl rfl (by decide +kernel) ⟨Nat.le_of_ble_eq_true rfl, Nat.le_of_ble_eq_true rfl⟩) [8, 9] [0, 1, 2, 3, 4, 5, 6, 7] [0, 1, 2, 3, 4, 5, 6, 7, 8, 9] rfl rfl rfl rfl (by decide) rfl rfl 0 rfl rfl rfl hl.1 rfl rfl (Nat.le_of_ble_eq_true rfl) dX4_lay_40 (fun H locs hX => ?_)
                    refine lv_iconst (pc := 43) (v := 1) hx hb dX4_lay_43 (by decide) ?_
                    obtain ⟨rfl, rfl, rfl, rfl, rfl⟩ := re5 hf
                    exact hret _ _ _ _ _ rfl rfl hX dX4_lay_44
                  · replace hf := ite_f c53 hf
                    cases hf
          · replace hf := ite_f c42 hf
            refine lv_bipush (pc := 26) (v := -10) hx hb dX4_lay_26 (by decide) ?_
            refine lv_iload (pc := 28) hx hb dX4_lay_28 (lv_at hl 0 rfl) ?_
            refine lv_isub (pc := 30) hx hb dX4_lay_30 ?_
            obtain ⟨rfl, rfl, rfl, rfl, rfl⟩ := re5 hf
            exact hret _ _ _ _ _ rfl rfl hX dX4_lay_31
        · replace hf := ite_f c39 hf
          rcases Decidable.em (p1 = 3) with c56 | c56
          · replace hf := ite_t c56 hf
            refine x_aald (pc := 14) (v := .ref h_sh3) C hX 1 4 rfl rfl i4 (by rw [c56]; rfl) dX4_lay_14 ?_
            refine lv_iload_n (pc := 15) hx hb dX4_lay_15 rfl (lv_at hl 2 rfl) ?_
            obtain ⟨r57, g58, hf⟩ := cl1_adv hf
            refine x_callVi (pc := 16) (rest := []) (w2 := [(h0, .inr (4, [.ref h_now, .ref h_trial, .ref h_images, .ref h_kept, .ref h_tape, .ref h_sights, .ref h_sheets, .ref h_looks, .int tornFault])), (h_sheets, .inl (cS, 4, .inr (.inr (.inr (.inr (xr4 h_sh0 h_sh1 h_sh2 h_sh3)))))), (h_sh0, .inr (1, [.ref h_sh0_cells, .int sh0_lane, .int sh0_size])), (h_sh0_cells, .inl (cI, 40, .inl sh0_cells)), (h_sh1, .inr (1, [.ref h_sh1_cells, .int sh1_lane, .int sh1_size])), (h_sh1_cells, .inl (cI, 40, .inl sh1_cells)), (h_sh2, .inr (1, [.ref h_sh2_cells, .int sh2_lane, .int sh2_size])), (h_sh2_cells, .inl (cI, 40, .inl sh2_cells)), (h_sh3, .inr (1, [.ref h_sh3_cells, .int sh3_lane, .int sh3_size])), (h_sh3_cells, .inl (cI, 40, .inl sh3_cells))]) C hX (kX1_faultAt ad l D cI cB cZ cG cS h_sh3 h_sh3_cells sh3_lane sh3_size sh3_cells r57 p2 g58) (cwV 1 C.1.2.2.2.2 gX4_lay_X1_faultAt rfl rfl rfl (by decide +kernel) ⟨Nat.le_of_ble_eq_true rfl, Nat.le_of_ble_eq_true rfl⟩) [8, 9] [0, 1, 2, 3, 4, 5, 6, 7] [0, 1, 2, 3, 4, 5, 6, 7, 8, 9] rfl rfl rfl rfl (by decide) rfl rfl 0 rfl rfl rfl hl.1 rfl rfl (Nat.le_of_ble_eq_true rfl) dX4_lay_16 (fun H locs hX => ?_)
            refine lv_istore (pc := 19) (lv' := [(4, .int r57), (0, .ref h0), (1, .int p1), (2, .int p2), (3, .int p3)]) hx hb dX4_lay_19 hl (by decide) rfl (fun ls hl => ?_)
            refine lv_iload (pc := 21) hx hb dX4_lay_21 (lv_at hl 0 rfl) ?_
            refine lv_if_eq (pc := 23) (tgt := 32) hx hb dX4_lay_23 (by decide) (fun c59 => ?_) (fun c59 => ?_)
            · replace hf := ite_t c59 hf
              refine lv_aload_n (pc := 32) hx hb dX4_lay_32 rfl (lv_at hl 1 rfl) ?_
              refine x_getf (pc := 33) (Cn := RX4) (T := TX4) (N := 9) C hX 0 rfl rfl miX4_lay_X4 6 (by decide) mmX4_lay_1 rfl dX4_lay_33 ?_
              refine lv_iload_n (pc := 36) hx hb dX4_lay_36 rfl (lv_at hl 2 rfl) ?_
              replace hf := chk_adv hf
              have i60 := hf.1
              replace hf := hf.2
              rcases Decidable.em (p1 = 0) with c61 | c61
              · replace hf := ite_t c61 hf
                refine x_aald (pc := 37) (v := .ref h_sh0) C hX 1 4 rfl rfl i60 (by rw [c61]; rfl) dX4_lay_37 ?_
                refine lv_iload_n (pc := 38) hx hb dX4_lay_38 rfl (lv_at hl 3 rfl) ?_
                refine lv_iload_n (pc := 39) hx hb dX4_lay_39 rfl (lv_at hl 4 rfl) ?_
                obtain ⟨u62, g63, hf⟩ := cl1_adv hf
                refine x_callVv (pc := 40) (rest := []) (w2 := [(h0, .inr (4, [.ref h_now, .ref h_trial, .ref h_images, .ref h_kept, .ref h_tape, .ref h_sights, .ref h_sheets, .ref h_looks, .int tornFault])), (h_sheets, .inl (cS, 4, .inr (.inr (.inr (.inr (xr4 h_sh0 h_sh1 h_sh2 h_sh3)))))), (h_sh0, .inr (1, [.ref h_sh0_cells, .int sh0_lane, .int sh0_size])), (h_sh0_cells, .inl (cI, 40, .inl u62)), (h_sh1, .inr (1, [.ref h_sh1_cells, .int sh1_lane, .int sh1_size])), (h_sh1_cells, .inl (cI, 40, .inl sh1_cells)), (h_sh2, .inr (1, [.ref h_sh2_cells, .int sh2_lane, .int sh2_size])), (h_sh2_cells, .inl (cI, 40, .inl sh2_cells)), (h_sh3, .inr (1, [.ref h_sh3_cells, .int sh3_lane, .int sh3_size])), (h_sh3_cells, .inl (cI, 40, .inl sh3_cells))]) C hX (kX1_put ad l D cI cB cZ cG cS h_sh0 h_sh0_cells sh0_lane sh0_size sh0_cells u62 p2 p3 g63) (cwV 2 C.1.2.2.2.2 gX4_lay_X1_put rfl rfl rfl (by decide +kernel) ⟨Nat.le_of_ble_eq_true rfl, Nat.le_of_ble_eq_true rfl⟩) [2, 3] [0, 1, 4, 5, 6, 7, 8, 9] [0, 1, 8, 9, 2, 3, 4, 5, 6, 7] rfl rfl rfl rfl (by decide) rfl rfl 0 rfl rfl rfl hl.1 rfl rfl (Nat.le_of_ble_eq_true rfl) dX4_lay_40 (fun H locs hX => ?_)
                refine lv_iconst (pc := 43) (v := 1) hx hb dX4_lay_43 (by decide) ?_
                obtain ⟨rfl, rfl, rfl, rfl, rfl⟩ := re5 hf
                exact hret _ _ _ _ _ rfl rfl hX dX4_lay_44
              · replace hf := ite_f c61 hf
                rcases Decidable.em (p1 = 1) with c64 | c64
                · replace hf := ite_t c64 hf
                  refine x_aald (pc := 37) (v := .ref h_sh1) C hX 1 4 rfl rfl i60 (by rw [c64]; rfl) dX4_lay_37 ?_
                  refine lv_iload_n (pc := 38) hx hb dX4_lay_38 rfl (lv_at hl 3 rfl) ?_
                  refine lv_iload_n (pc := 39) hx hb dX4_lay_39 rfl (lv_at hl 4 rfl) ?_
                  obtain ⟨u65, g66, hf⟩ := cl1_adv hf
                  refine x_callVv (pc := 40) (rest := []) (w2 := [(h0, .inr (4, [.ref h_now, .ref h_trial, .ref h_images, .ref h_kept, .ref h_tape, .ref h_sights, .ref h_sheets, .ref h_looks, .int tornFault])), (h_sheets, .inl (cS, 4, .inr (.inr (.inr (.inr (xr4 h_sh0 h_sh1 h_sh2 h_sh3)))))), (h_sh0, .inr (1, [.ref h_sh0_cells, .int sh0_lane, .int sh0_size])), (h_sh0_cells, .inl (cI, 40, .inl sh0_cells)), (h_sh1, .inr (1, [.ref h_sh1_cells, .int sh1_lane, .int sh1_size])), (h_sh1_cells, .inl (cI, 40, .inl u65)), (h_sh2, .inr (1, [.ref h_sh2_cells, .int sh2_lane, .int sh2_size])), (h_sh2_cells, .inl (cI, 40, .inl sh2_cells)), (h_sh3, .inr (1, [.ref h_sh3_cells, .int sh3_lane, .int sh3_size])), (h_sh3_cells, .inl (cI, 40, .inl sh3_cells))]) C hX (kX1_put ad l D cI cB cZ cG cS h_sh1 h_sh1_cells sh1_lane sh1_size sh1_cells u65 p2 p3 g66) (cwV 2 C.1.2.2.2.2 gX4_lay_X1_put rfl rfl rfl (by decide +kernel) ⟨Nat.le_of_ble_eq_true rfl, Nat.le_of_ble_eq_true rfl⟩) [4, 5] [0, 1, 2, 3, 6, 7, 8, 9] [0, 1, 2, 3, 8, 9, 4, 5, 6, 7] rfl rfl rfl rfl (by decide) rfl rfl 0 rfl rfl rfl hl.1 rfl rfl (Nat.le_of_ble_eq_true rfl) dX4_lay_40 (fun H locs hX => ?_)
                  refine lv_iconst (pc := 43) (v := 1) hx hb dX4_lay_43 (by decide) ?_
                  obtain ⟨rfl, rfl, rfl, rfl, rfl⟩ := re5 hf
                  exact hret _ _ _ _ _ rfl rfl hX dX4_lay_44
                · replace hf := ite_f c64 hf
                  rcases Decidable.em (p1 = 2) with c67 | c67
                  · replace hf := ite_t c67 hf
                    refine x_aald (pc := 37) (v := .ref h_sh2) C hX 1 4 rfl rfl i60 (by rw [c67]; rfl) dX4_lay_37 ?_
                    refine lv_iload_n (pc := 38) hx hb dX4_lay_38 rfl (lv_at hl 3 rfl) ?_
                    refine lv_iload_n (pc := 39) hx hb dX4_lay_39 rfl (lv_at hl 4 rfl) ?_
                    obtain ⟨u68, g69, hf⟩ := cl1_adv hf
                    refine x_callVv (pc := 40) (rest := []) (w2 := [(h0, .inr (4, [.ref h_now, .ref h_trial, .ref h_images, .ref h_kept, .ref h_tape, .ref h_sights, .ref h_sheets, .ref h_looks, .int tornFault])), (h_sheets, .inl (cS, 4, .inr (.inr (.inr (.inr (xr4 h_sh0 h_sh1 h_sh2 h_sh3)))))), (h_sh0, .inr (1, [.ref h_sh0_cells, .int sh0_lane, .int sh0_size])), (h_sh0_cells, .inl (cI, 40, .inl sh0_cells)), (h_sh1, .inr (1, [.ref h_sh1_cells, .int sh1_lane, .int sh1_size])), (h_sh1_cells, .inl (cI, 40, .inl sh1_cells)), (h_sh2, .inr (1, [.ref h_sh2_cells, .int sh2_lane, .int sh2_size])), (h_sh2_cells, .inl (cI, 40, .inl u68)), (h_sh3, .inr (1, [.ref h_sh3_cells, .int sh3_lane, .int sh3_size])), (h_sh3_cells, .inl (cI, 40, .inl sh3_cells))]) C hX (kX1_put ad l D cI cB cZ cG cS h_sh2 h_sh2_cells sh2_lane sh2_size sh2_cells u68 p2 p3 g69) (cwV 2 C.1.2.2.2.2 gX4_lay_X1_put rfl rfl rfl (by decide +kernel) ⟨Nat.le_of_ble_eq_true rfl, Nat.le_of_ble_eq_true rfl⟩) [6, 7] [0, 1, 2, 3, 4, 5, 8, 9] [0, 1, 2, 3, 4, 5, 8, 9, 6, 7] rfl rfl rfl rfl (by decide) rfl rfl 0 rfl rfl rfl hl.1 rfl rfl (Nat.le_of_ble_eq_true rfl) dX4_lay_40 (fun H locs hX => ?_)
                    refine lv_iconst (pc := 43) (v := 1) hx hb dX4_lay_43 (by decide) ?_
                    obtain ⟨rfl, rfl, rfl, rfl, rfl⟩ := re5 hf
                    exact hret _ _ _ _ _ rfl rfl hX dX4_lay_44
                  · replace hf := ite_f c67 hf
                    rcases Decidable.em (p1 = 3) with c70 | c70
                    · replace hf := ite_t c70 hf
                      refine x_aald (pc := 37) (v := .ref h_sh3) C hX 1 4 rfl rfl i60 (by rw [c70]; rfl) dX4_lay_37 ?_
                      refine lv_iload_n (pc := 38) hx hb dX4_lay_38 rfl (lv_at hl 3 rfl) ?_
                      refine lv_iload_n (pc := 39) hx hb dX4_lay_39 rfl (lv_at hl 4 rfl) ?_
                      obtain ⟨u71, g72, hf⟩ := cl1_adv hf
                      refine x_callVv (pc := 40) (rest := []) (w2 := [(h0, .inr (4, [.ref h_now, .ref h_trial, .ref h_images, .ref h_kept, .ref h_tape, .ref h_sights, .ref h_sheets, .ref h_looks, .int tornFault])), (h_sheets, .inl (cS, 4, .inr (.inr (.inr (.inr (xr4 h_sh0 h_sh1 h_sh2 h_sh3)))))), (h_sh0, .inr (1, [.ref h_sh0_cells, .int sh0_lane, .int sh0_size])), (h_sh0_cells, .inl (cI, 40, .inl sh0_cells)), (h_sh1, .inr (1, [.ref h_sh1_cells, .int sh1_lane, .int sh1_size])), (h_sh1_cells, .inl (cI, 40, .inl sh1_cells)), (h_sh2, .inr (1, [.ref h_sh2_cells, .int sh2_lane, .int sh2_size])), (h_sh2_cells, .inl (cI, 40, .inl sh2_cells)), (h_sh3, .inr (1, [.ref h_sh3_cells, .int sh3_lane, .int sh3_size])), (h_sh3_cells, .inl (cI, 40, .inl u71))]) C hX (kX1_put ad l D cI cB cZ cG cS h_sh3 h_sh3_cells sh3_lane sh3_size sh3_cells u71 p2 p3 g72) (cwV 2 C.1.2.2.2.2 gX4_lay_X1_put rfl rfl rfl (by decide +kernel) ⟨Nat.le_of_ble_eq_true rfl, Nat.le_of_ble_eq_true rfl⟩) [8, 9] [0, 1, 2, 3, 4, 5, 6, 7] [0, 1, 2, 3, 4, 5, 6, 7, 8, 9] rfl rfl rfl rfl (by decide) rfl rfl 0 rfl rfl rfl hl.1 rfl rfl (Nat.le_of_ble_eq_true rfl) dX4_lay_40 (fun H locs hX => ?_)
                      refine lv_iconst (pc := 43) (v := 1) hx hb dX4_lay_43 (by decide) ?_
                      obtain ⟨rfl, rfl, rfl, rfl, rfl⟩ := re5 hf
                      exact hret _ _ _ _ _ rfl rfl hX dX4_lay_44
                    · replace hf := ite_f c70 hf
                      cases hf
            · replace hf := ite_f c59 hf
              refine lv_bipush (pc := 26) (v := -10) hx hb dX4_lay_26 (by decide) ?_
              refine lv_iload (pc := 28) hx hb dX4_lay_28 (lv_at hl 0 rfl) ?_
              refine lv_isub (pc := 30) hx hb dX4_lay_30 ?_
              obtain ⟨rfl, rfl, rfl, rfl, rfl⟩ := re5 hf
              exact hret _ _ _ _ _ rfl rfl hX dX4_lay_31
          · replace hf := ite_f c56 hf
            cases hf
  · replace hf := ite_t c3 hf
    refine lv_iconst (pc := 7) (v := -1) hx hb dX4_lay_7 (by decide) ?_
    obtain ⟨rfl, rfl, rfl, rfl, rfl⟩ := re5 hf
    exact hret _ _ _ _ _ rfl rfl hX dX4_lay_8
