theorem mmX0_greatestError_1 : Cond.methodLink RX0 83 yJ9_max_7cf53 ∈ wsX0_greatestError := List.mem_of_getElem? (i := 1) rfl
theorem mmX0_greatestError_2 : Cond.static yJ9_max_7cf53 ∈ wsX0_greatestError := List.mem_of_getElem? (i := 2) rfl
theorem mmX0_greatestError_3 : Cond.initialized RJ9 ∈ wsX0_greatestError := List.mem_of_getElem? (i := 3) rfl
theorem mmX0_greatestError_4 : Cond.code Lib.Math.max.name Lib.Math.max.code 2 (some .int) ∈ wsX0_greatestError := List.mem_of_getElem? (i := 4) rfl
set_option maxHeartbeats 4000000 in
set_option maxRecDepth 100000 in
theorem kX0_greatestError (ad : xAd) (l : Launch) (D : va_G) (cI cB cZ cG cS : ClassId) (h0 h_kindRow h_slackRow h_placeRow h_turnRow h_wayRow h_strokeRow : Nat) (arms : Int32) (strokes : Int32) (hand : Int32) (step : Int32) (travel : Int32) (reversals : Int32) (kindRow : (Nat → Int32)) (slackRow : (Nat → Int32)) (placeRow : (Nat → Int32)) (turnRow : (Nat → Int32)) (wayRow : (Nat → Int32)) (strokeRow : (Nat → Int32)) (r0 : Int32) (o_hand' : Int32) (o_step' : Int32) (o_travel' : Int32) (o_reversals' : Int32) (o_placeRow' : (Nat → Int32)) (o_turnRow' : (Nat → Int32)) (o_wayRow' : (Nat → Int32)) (p1 : Int32) (hf : fX0_greatestError p1 arms strokes hand step travel reversals kindRow slackRow placeRow turnRow wayRow strokeRow = some (r0, o_hand', o_step', o_travel', o_reversals', o_placeRow', o_turnRow', o_wayRow')) : xMi ad l yX0_greatestError wsX0_greatestError ({ frames := 4, cells := 0, slots := 0, locals := 87 } : Room) D (xTY cI cB cZ cG cS) [.ref h0, .int p1] [(h0, .inr (0, [.ref h_kindRow, .ref h_slackRow, .ref h_placeRow, .ref h_turnRow, .ref h_wayRow, .ref h_strokeRow, .int arms, .int strokes, .int hand, .int step, .int travel, .int reversals])), (h_kindRow, .inl (cI, 4, .inl kindRow)), (h_slackRow, .inl (cI, 4, .inl slackRow)), (h_placeRow, .inl (cI, 4, .inl placeRow)), (h_turnRow, .inl (cI, 4, .inl turnRow)), (h_wayRow, .inl (cI, 4, .inl wayRow)), (h_strokeRow, .inl (cI, 16, .inl strokeRow))] [(h0, .inr (0, [.ref h_kindRow, .ref h_slackRow, .ref h_placeRow, .ref h_turnRow, .ref h_wayRow, .ref h_strokeRow, .int arms, .int strokes, .int o_hand', .int o_step', .int o_travel', .int o_reversals'])), (h_kindRow, .inl (cI, 4, .inl kindRow)), (h_slackRow, .inl (cI, 4, .inl slackRow)), (h_placeRow, .inl (cI, 4, .inl o_placeRow')), (h_turnRow, .inl (cI, 4, .inl o_turnRow')), (h_wayRow, .inl (cI, 4, .inl o_wayRow')), (h_strokeRow, .inl (cI, 16, .inl strokeRow))] r0 := by
  refine xMi_of (cc := cX0_greatestError) (maxL := 4) (ty := .int) (by decide) rfl (Nat.le_of_ble_eq_true rfl) ?_
  intro p e s m args below meth c A Q ls C hX hl hret
  have hx := C.1.1
  have hb := C.1.2.1
  have hl : lv_has ls 4 [(0, .ref h0), (1, .int p1)] := hl
  have L4 : ∀ (n : Nat), ∀ (x1 : Int32) (x2 : Int32) (x3 : Int32) (hand : Int32) (step : Int32) (travel : Int32) (reversals : Int32) (placeRow : (Nat → Int32)) (turnRow : (Nat → Int32)) (wayRow : (Nat → Int32)) (H : Heap) (locs : List Loc) (ls : Array Slot), fX0_greatestError_L4 arms strokes kindRow slackRow strokeRow n x1 x2 x3 hand step travel reversals placeRow turnRow wayRow = some (r0, o_hand', o_step', o_travel', o_reversals', o_placeRow', o_turnRow', o_wayRow') → xSt A s D [(h0, .inr (0, [.ref h_kindRow, .ref h_slackRow, .ref h_placeRow, .ref h_turnRow, .ref h_wayRow, .ref h_strokeRow, .int arms, .int strokes, .int hand, .int step, .int travel, .int reversals])), (h_kindRow, .inl (cI, 4, .inl kindRow)), (h_slackRow, .inl (cI, 4, .inl slackRow)), (h_placeRow, .inl (cI, 4, .inl placeRow)), (h_turnRow, .inl (cI, 4, .inl turnRow)), (h_wayRow, .inl (cI, 4, .inl wayRow)), (h_strokeRow, .inl (cI, 16, .inl strokeRow))] H locs → lv_has ls 4 [(0, .ref h0), (1, .int x1), (2, .int x2), (3, .int x3)] → W p l e ({ frames := 4, cells := 0, slots := 0, locals := 87 } : Room) s m args below meth c H locs 0 0 Q (F0 m 4 ls []) := by
    intro n
    induction n with
    | zero =>
      intro x1 x2 x3 hand step travel reversals placeRow turnRow wayRow H locs ls hf
      rw [fX0_greatestError_L4] at hf
      cases hf
    | succ n ih =>
      intro x1 x2 x3 hand step travel reversals placeRow turnRow wayRow H locs ls hf hX hl
      rw [fX0_greatestError_L4] at hf
      refine lv_iload_n (pc := 4) hx hb dX0_greatestError_4 rfl (lv_at hl 3 rfl) ?_
      refine lv_iload_n (pc := 5) hx hb dX0_greatestError_5 rfl (lv_at hl 1 rfl) ?_
      refine lv_icmp_ge (pc := 6) (tgt := 28) hx hb dX0_greatestError_6 (by decide) (fun c1 => ?_) (fun c1 => ?_)
      · replace hf := ite_t c1 hf
        refine lv_iload_n (pc := 28) hx hb dX0_greatestError_28 rfl (lv_at hl 2 rfl) ?_
        obtain ⟨rfl, rfl, rfl, rfl, rfl, rfl, rfl, rfl⟩ := re8 hf
        exact hret _ _ _ _ _ rfl rfl hX dX0_greatestError_29
      · replace hf := ite_f c1 hf
        refine lv_aload_n (pc := 9) hx hb dX0_greatestError_9 rfl (lv_at hl 0 rfl) ?_
        obtain ⟨u2, u3, u4, u5, u6, u7, u8, g9, hf⟩ := cl7_adv hf
        refine x_callVv (pc := 10) (rest := []) (w2 := [(h0, .inr (0, [.ref h_kindRow, .ref h_slackRow, .ref h_placeRow, .ref h_turnRow, .ref h_wayRow, .ref h_strokeRow, .int arms, .int strokes, .int u2, .int u3, .int u4, .int u5])), (h_kindRow, .inl (cI, 4, .inl kindRow)), (h_slackRow, .inl (cI, 4, .inl slackRow)), (h_placeRow, .inl (cI, 4, .inl u6)), (h_turnRow, .inl (cI, 4, .inl u7)), (h_wayRow, .inl (cI, 4, .inl u8)), (h_strokeRow, .inl (cI, 16, .inl strokeRow))]) C hX (kX0_takeStep ad l D cI cB cZ cG cS h0 h_kindRow h_slackRow h_placeRow h_turnRow h_wayRow h_strokeRow arms strokes hand step travel reversals kindRow slackRow placeRow turnRow wayRow strokeRow u2 u3 u4 u5 u6 u7 u8 g9) (cwV 0 C.1.2.2.2.2 gX0_greatestError_X0_takeStep rfl rfl rfl (by decide +kernel) ⟨Nat.le_of_ble_eq_true rfl, Nat.le_of_ble_eq_true rfl⟩) [0, 1, 2, 3, 4, 5, 6] [] [0, 1, 2, 3, 4, 5, 6] rfl rfl rfl rfl (by decide) rfl rfl 0 rfl rfl rfl hl.1 rfl rfl (Nat.le_of_ble_eq_true rfl) dX0_greatestError_10 (fun H locs hX => ?_)
        refine lv_iload_n (pc := 13) hx hb dX0_greatestError_13 rfl (lv_at hl 2 rfl) ?_
        refine lv_aload_n (pc := 14) hx hb dX0_greatestError_14 rfl (lv_at hl 0 rfl) ?_
        obtain ⟨r10, g11, hf⟩ := cl1_adv hf
        refine x_callVi (pc := 15) (rest := [.int x2]) (w2 := [(h0, .inr (0, [.ref h_kindRow, .ref h_slackRow, .ref h_placeRow, .ref h_turnRow, .ref h_wayRow, .ref h_strokeRow, .int arms, .int strokes, .int u2, .int u3, .int u4, .int u5])), (h_kindRow, .inl (cI, 4, .inl kindRow)), (h_slackRow, .inl (cI, 4, .inl slackRow)), (h_placeRow, .inl (cI, 4, .inl u6)), (h_turnRow, .inl (cI, 4, .inl u7)), (h_wayRow, .inl (cI, 4, .inl u8)), (h_strokeRow, .inl (cI, 16, .inl strokeRow))]) C hX (kX0_error ad l D cI cB cZ cG cS h0 h_kindRow h_slackRow h_placeRow h_turnRow h_wayRow h_strokeRow arms strokes u2 u3 u4 u5 kindRow slackRow u6 u7 u8 strokeRow r10 g11) (cwV 0 C.1.2.2.2.2 gX0_greatestError_X0_error rfl rfl rfl (by decide +kernel) ⟨Nat.le_of_ble_eq_true rfl, Nat.le_of_ble_eq_true rfl⟩) [0, 1, 2, 3, 4, 5, 6] [] [0, 1, 2, 3, 4, 5, 6] rfl rfl rfl rfl (by decide) rfl rfl 0 rfl rfl rfl hl.1 rfl rfl (Nat.le_of_ble_eq_true rfl) dX0_greatestError_15 (fun H locs hX => ?_)
        refine va_mmax (pc := 18) hx hb (C.1.2.2.1.trans hl.1.symm) C.1.2.2.2.1 (C.1.2.2.2.2 _ mmX0_greatestError_1) (C.1.2.2.2.2 _ mmX0_greatestError_2) (C.1.2.2.2.2 _ mmX0_greatestError_3) (C.1.2.2.2.2 _ mmX0_greatestError_4) (Nat.le_of_ble_eq_true rfl) (Nat.le_of_ble_eq_true rfl) (Nat.zero_le _) (Nat.zero_le _) dX0_greatestError_18 ?_
        refine lv_topi (fun v12 ev12 => ?_)
        replace hf := bnd_use (e := (imax x2 r10)) ev12 hf
        refine lv_istore_n (pc := 21) (lv' := [(2, .int v12), (0, .ref h0), (1, .int x1), (3, .int x3)]) hx hb dX0_greatestError_21 rfl hl (by decide) rfl (fun ls hl => ?_)
        obtain ⟨v13, ev13⟩ : ∃ y : Int32, y = (x3 + (1 : Int32)) := ⟨_, rfl⟩
        replace hf := bnd_use ev13 hf
        refine lv_iinc (pc := 22) (v := v13) (lv' := [(3, .int v13), (2, .int v12), (0, .ref h0), (1, .int x1)]) hx hb dX0_greatestError_22 hl (k := 3) rfl (by rw [ev13]; rfl) (by decide) rfl (fun ls hl => ?_)
        refine lv_goto (pc := 25) (tgt := 4) hx hb dX0_greatestError_25 (by decide) ?_
        exact ih x1 v12 v13 u2 u3 u4 u5 u6 u7 u8 _ _ _ hf hX (lv_sub hl [2, 3, 1, 0] rfl)
  unfold fX0_greatestError at hf
  refine lv_iconst (pc := 0) (v := 0) hx hb dX0_greatestError_0 (by decide) ?_
  refine lv_istore_n (pc := 1) (lv' := [(2, .int (0 : Int32)), (0, .ref h0), (1, .int p1)]) hx hb dX0_greatestError_1 rfl hl (by decide) rfl (fun ls hl => ?_)
  refine lv_iconst (pc := 2) (v := 0) hx hb dX0_greatestError_2 (by decide) ?_
  refine lv_istore_n (pc := 3) (lv' := [(3, .int (0 : Int32)), (2, .int (0 : Int32)), (0, .ref h0), (1, .int p1)]) hx hb dX0_greatestError_3 rfl hl (by decide) rfl (fun ls hl => ?_)
  exact L4  xF p1 (0 : Int32) (0 : Int32) hand step travel reversals placeRow turnRow wayRow _ _ _ hf hX (lv_sub hl [2, 3, 1, 0] rfl)
theorem mmX0_standsAs_1 : Cond.fieldLink RX0 30 "SlackArms$Gear" "arms" "I" ∈ wsX0_standsAs := List.mem_of_getElem? (i := 1) rfl
theorem miX0_standsAs_X0 : ∀ w ∈ u_ws RX0 TX0 12, w ∈ wsX0_standsAs := fun w h => List.mem_cons_of_mem _ (List.mem_append_right _ h)
theorem mmX0_standsAs_2 : Cond.fieldLink RX0 18 "SlackArms$Gear" "placeRow" "[I" ∈ wsX0_standsAs := List.mem_of_getElem? (i := 2) rfl
theorem mmX0_standsAs_3 : Cond.fieldLink RX0 37 "SlackArms$Gear" "hand" "I" ∈ wsX0_standsAs := List.mem_of_getElem? (i := 3) rfl
theorem mmX0_standsAs_4 : Cond.fieldLink RX0 24 "SlackArms$Gear" "wayRow" "[I" ∈ wsX0_standsAs := List.mem_of_getElem? (i := 4) rfl
theorem mmX0_standsAs_5 : Cond.fieldLink RX0 21 "SlackArms$Gear" "turnRow" "[I" ∈ wsX0_standsAs := List.mem_of_getElem? (i := 5) rfl
set_option maxHeartbeats 4000000 in
set_option maxRecDepth 100000 in
theorem kX0_standsAs (ad : xAd) (l : Launch) (D : va_G) (cI cB cZ cG cS : ClassId) (h0 h_kindRow h_slackRow h_placeRow h_turnRow h_wayRow h_strokeRow h_o h_o_kindRow h_o_slackRow h_o_placeRow h_o_turnRow h_o_wayRow h_o_strokeRow : Nat) (arms : Int32) (strokes : Int32) (hand : Int32) (step : Int32) (travel : Int32) (reversals : Int32) (kindRow : (Nat → Int32)) (slackRow : (Nat → Int32)) (placeRow : (Nat → Int32)) (turnRow : (Nat → Int32)) (wayRow : (Nat → Int32)) (strokeRow : (Nat → Int32)) (o_arms : Int32) (o_strokes : Int32) (o_hand : Int32) (o_step : Int32) (o_travel : Int32) (o_reversals : Int32) (o_kindRow : (Nat → Int32)) (o_slackRow : (Nat → Int32)) (o_placeRow : (Nat → Int32)) (o_turnRow : (Nat → Int32)) (o_wayRow : (Nat → Int32)) (o_strokeRow : (Nat → Int32)) (r0 : Int32)  (hf : fX0_standsAs  arms strokes hand step placeRow turnRow wayRow o_arms o_strokes o_hand o_step o_placeRow o_turnRow o_wayRow = some r0) : xMi ad l yX0_standsAs wsX0_standsAs ({ frames := 1, cells := 0, slots := 0, locals := 20 } : Room) D (xTY cI cB cZ cG cS) [.ref h0, .ref h_o] [(h0, .inr (0, [.ref h_kindRow, .ref h_slackRow, .ref h_placeRow, .ref h_turnRow, .ref h_wayRow, .ref h_strokeRow, .int arms, .int strokes, .int hand, .int step, .int travel, .int reversals])), (h_kindRow, .inl (cI, 4, .inl kindRow)), (h_slackRow, .inl (cI, 4, .inl slackRow)), (h_placeRow, .inl (cI, 4, .inl placeRow)), (h_turnRow, .inl (cI, 4, .inl turnRow)), (h_wayRow, .inl (cI, 4, .inl wayRow)), (h_strokeRow, .inl (cI, 16, .inl strokeRow)), (h_o, .inr (0, [.ref h_o_kindRow, .ref h_o_slackRow, .ref h_o_placeRow, .ref h_o_turnRow, .ref h_o_wayRow, .ref h_o_strokeRow, .int o_arms, .int o_strokes, .int o_hand, .int o_step, .int o_travel, .int o_reversals])), (h_o_kindRow, .inl (cI, 4, .inl o_kindRow)), (h_o_slackRow, .inl (cI, 4, .inl o_slackRow)), (h_o_placeRow, .inl (cI, 4, .inl o_placeRow)), (h_o_turnRow, .inl (cI, 4, .inl o_turnRow)), (h_o_wayRow, .inl (cI, 4, .inl o_wayRow)), (h_o_strokeRow, .inl (cI, 16, .inl o_strokeRow))] [(h0, .inr (0, [.ref h_kindRow, .ref h_slackRow, .ref h_placeRow, .ref h_turnRow, .ref h_wayRow, .ref h_strokeRow, .int arms, .int strokes, .int hand, .int step, .int travel, .int reversals])), (h_kindRow, .inl (cI, 4, .inl kindRow)), (h_slackRow, .inl (cI, 4, .inl slackRow)), (h_placeRow, .inl (cI, 4, .inl placeRow)), (h_turnRow, .inl (cI, 4, .inl turnRow)), (h_wayRow, .inl (cI, 4, .inl wayRow)), (h_strokeRow, .inl (cI, 16, .inl strokeRow)), (h_o, .inr (0, [.ref h_o_kindRow, .ref h_o_slackRow, .ref h_o_placeRow, .ref h_o_turnRow, .ref h_o_wayRow, .ref h_o_strokeRow, .int o_arms, .int o_strokes, .int o_hand, .int o_step, .int o_travel, .int o_reversals])), (h_o_kindRow, .inl (cI, 4, .inl o_kindRow)), (h_o_slackRow, .inl (cI, 4, .inl o_slackRow)), (h_o_placeRow, .inl (cI, 4, .inl o_placeRow)), (h_o_turnRow, .inl (cI, 4, .inl o_turnRow)), (h_o_wayRow, .inl (cI, 4, .inl o_wayRow)), (h_o_strokeRow, .inl (cI, 16, .inl o_strokeRow))] r0 := by
  refine xMi_of (cc := cX0_standsAs) (maxL := 3) (ty := .boolean) (by decide) rfl (Nat.le_of_ble_eq_true rfl) ?_
  intro p e s m args below meth c A Q ls C hX hl hret
  have hx := C.1.1
  have hb := C.1.2.1
  have hl : lv_has ls 3 [(0, .ref h0), (1, .ref h_o)] := hl
  have L26 : ∀ (n : Nat), ∀ (x2 : Int32) (H : Heap) (locs : List Loc) (ls : Array Slot), fX0_standsAs_L26 arms strokes hand step placeRow turnRow wayRow o_arms o_strokes o_hand o_step o_placeRow o_turnRow o_wayRow n x2 = some r0 → xSt A s D [(h0, .inr (0, [.ref h_kindRow, .ref h_slackRow, .ref h_placeRow, .ref h_turnRow, .ref h_wayRow, .ref h_strokeRow, .int arms, .int strokes, .int hand, .int step, .int travel, .int reversals])), (h_kindRow, .inl (cI, 4, .inl kindRow)), (h_slackRow, .inl (cI, 4, .inl slackRow)), (h_placeRow, .inl (cI, 4, .inl placeRow)), (h_turnRow, .inl (cI, 4, .inl turnRow)), (h_wayRow, .inl (cI, 4, .inl wayRow)), (h_strokeRow, .inl (cI, 16, .inl strokeRow)), (h_o, .inr (0, [.ref h_o_kindRow, .ref h_o_slackRow, .ref h_o_placeRow, .ref h_o_turnRow, .ref h_o_wayRow, .ref h_o_strokeRow, .int o_arms, .int o_strokes, .int o_hand, .int o_step, .int o_travel, .int o_reversals])), (h_o_kindRow, .inl (cI, 4, .inl o_kindRow)), (h_o_slackRow, .inl (cI, 4, .inl o_slackRow)), (h_o_placeRow, .inl (cI, 4, .inl o_placeRow)), (h_o_turnRow, .inl (cI, 4, .inl o_turnRow)), (h_o_wayRow, .inl (cI, 4, .inl o_wayRow)), (h_o_strokeRow, .inl (cI, 16, .inl o_strokeRow))] H locs → lv_has ls 3 [(0, .ref h0), (1, .ref h_o), (2, .int x2)] → W p l e ({ frames := 1, cells := 0, slots := 0, locals := 20 } : Room) s m args below meth c H locs 0 0 Q (F0 m 26 ls []) := by
    intro n
    induction n with
    | zero =>
      intro x2 H locs ls hf
      rw [fX0_standsAs_L26] at hf
      cases hf
    | succ n ih =>
      intro x2 H locs ls hf hX hl
      rw [fX0_standsAs_L26] at hf
      refine lv_iload_n (pc := 26) hx hb dX0_standsAs_26 rfl (lv_at hl 2 rfl) ?_
      refine lv_aload_n (pc := 27) hx hb dX0_standsAs_27 rfl (lv_at hl 0 rfl) ?_
      refine x_getf (pc := 28) (Cn := RX0) (T := TX0) (N := 12) C hX 0 rfl rfl miX0_standsAs_X0 6 (by decide) mmX0_standsAs_1 rfl dX0_standsAs_28 ?_
      refine lv_icmp_ge (pc := 31) (tgt := 97) hx hb dX0_standsAs_31 (by decide) (fun c7 => ?_) (fun c7 => ?_)
      · replace hf := ite_t c7 hf
        refine lv_iconst (pc := 97) (v := 1) hx hb dX0_standsAs_97 (by decide) ?_
        obtain ⟨rfl⟩ := re1 hf
        exact hret _ _ _ _ _ rfl rfl hX dX0_standsAs_98
      · replace hf := ite_f c7 hf
        refine lv_aload_n (pc := 34) hx hb dX0_standsAs_34 rfl (lv_at hl 0 rfl) ?_
        refine x_getf (pc := 35) (Cn := RX0) (T := TX0) (N := 12) C hX 0 rfl rfl miX0_standsAs_X0 2 (by decide) mmX0_standsAs_2 rfl dX0_standsAs_35 ?_
        refine lv_iload_n (pc := 38) hx hb dX0_standsAs_38 rfl (lv_at hl 2 rfl) ?_
        replace hf := chk_adv hf
        have i8 := hf.1
        replace hf := hf.2
        refine x_iald (pc := 39) C hX 3 0 rfl rfl i8 dX0_standsAs_39 ?_
        refine lv_aload_n (pc := 40) hx hb dX0_standsAs_40 rfl (lv_at hl 0 rfl) ?_
        refine x_getf (pc := 41) (Cn := RX0) (T := TX0) (N := 12) C hX 0 rfl rfl miX0_standsAs_X0 8 (by decide) mmX0_standsAs_3 rfl dX0_standsAs_41 ?_
        refine lv_isub (pc := 44) hx hb dX0_standsAs_44 ?_
        refine lv_aload_n (pc := 45) hx hb dX0_standsAs_45 rfl (lv_at hl 1 rfl) ?_
        refine x_getf (pc := 46) (Cn := RX0) (T := TX0) (N := 12) C hX 7 rfl rfl miX0_standsAs_X0 2 (by decide) mmX0_standsAs_2 rfl dX0_standsAs_46 ?_
        refine lv_iload_n (pc := 49) hx hb dX0_standsAs_49 rfl (lv_at hl 2 rfl) ?_
        replace hf := chk_adv hf
        have i9 := hf.1
        replace hf := hf.2
        refine x_iald (pc := 50) C hX 10 0 rfl rfl i9 dX0_standsAs_50 ?_
        refine lv_aload_n (pc := 51) hx hb dX0_standsAs_51 rfl (lv_at hl 1 rfl) ?_
        refine x_getf (pc := 52) (Cn := RX0) (T := TX0) (N := 12) C hX 7 rfl rfl miX0_standsAs_X0 8 (by decide) mmX0_standsAs_3 rfl dX0_standsAs_52 ?_
        refine lv_isub (pc := 55) hx hb dX0_standsAs_55 ?_
        refine lv_icmp_ne (pc := 56) (tgt := 89) hx hb dX0_standsAs_56 (by decide) (fun c10 => ?_) (fun c10 => ?_)
        · replace hf := ite_f c10 hf
          refine lv_iconst (pc := 89) (v := 0) hx hb dX0_standsAs_89 (by decide) ?_
          obtain ⟨rfl⟩ := re1 hf
          exact hret _ _ _ _ _ rfl rfl hX dX0_standsAs_90
        · replace hf := ite_t c10 hf
          refine lv_aload_n (pc := 59) hx hb dX0_standsAs_59 rfl (lv_at hl 0 rfl) ?_
          refine x_getf (pc := 60) (Cn := RX0) (T := TX0) (N := 12) C hX 0 rfl rfl miX0_standsAs_X0 4 (by decide) mmX0_standsAs_4 rfl dX0_standsAs_60 ?_
          refine lv_iload_n (pc := 63) hx hb dX0_standsAs_63 rfl (lv_at hl 2 rfl) ?_
          replace hf := chk_adv hf
          have i11 := hf.1
          replace hf := hf.2
          refine x_iald (pc := 64) C hX 5 0 rfl rfl i11 dX0_standsAs_64 ?_
          refine lv_aload_n (pc := 65) hx hb dX0_standsAs_65 rfl (lv_at hl 1 rfl) ?_
          refine x_getf (pc := 66) (Cn := RX0) (T := TX0) (N := 12) C hX 7 rfl rfl miX0_standsAs_X0 4 (by decide) mmX0_standsAs_4 rfl dX0_standsAs_66 ?_
          refine lv_iload_n (pc := 69) hx hb dX0_standsAs_69 rfl (lv_at hl 2 rfl) ?_
          replace hf := chk_adv hf
          have i12 := hf.1
          replace hf := hf.2
          refine x_iald (pc := 70) C hX 12 0 rfl rfl i12 dX0_standsAs_70 ?_
          refine lv_icmp_ne (pc := 71) (tgt := 89) hx hb dX0_standsAs_71 (by decide) (fun c13 => ?_) (fun c13 => ?_)
          · replace hf := ite_f c13 hf
            refine lv_iconst (pc := 89) (v := 0) hx hb dX0_standsAs_89 (by decide) ?_
            obtain ⟨rfl⟩ := re1 hf
            exact hret _ _ _ _ _ rfl rfl hX dX0_standsAs_90
          · replace hf := ite_t c13 hf
            refine lv_aload_n (pc := 74) hx hb dX0_standsAs_74 rfl (lv_at hl 0 rfl) ?_
            refine x_getf (pc := 75) (Cn := RX0) (T := TX0) (N := 12) C hX 0 rfl rfl miX0_standsAs_X0 3 (by decide) mmX0_standsAs_5 rfl dX0_standsAs_75 ?_
            refine lv_iload_n (pc := 78) hx hb dX0_standsAs_78 rfl (lv_at hl 2 rfl) ?_
            replace hf := chk_adv hf
            have i14 := hf.1
            replace hf := hf.2
            refine x_iald (pc := 79) C hX 4 0 rfl rfl i14 dX0_standsAs_79 ?_
            refine lv_aload_n (pc := 80) hx hb dX0_standsAs_80 rfl (lv_at hl 1 rfl) ?_
            refine x_getf (pc := 81) (Cn := RX0) (T := TX0) (N := 12) C hX 7 rfl rfl miX0_standsAs_X0 3 (by decide) mmX0_standsAs_5 rfl dX0_standsAs_81 ?_
            refine lv_iload_n (pc := 84) hx hb dX0_standsAs_84 rfl (lv_at hl 2 rfl) ?_
            replace hf := chk_adv hf
            have i15 := hf.1
            replace hf := hf.2
            refine x_iald (pc := 85) C hX 11 0 rfl rfl i15 dX0_standsAs_85 ?_
            refine lv_icmp_eq (pc := 86) (tgt := 91) hx hb dX0_standsAs_86 (by decide) (fun c16 => ?_) (fun c16 => ?_)
            · replace hf := ite_t c16 hf
              obtain ⟨v17, ev17⟩ : ∃ y : Int32, y = (x2 + (1 : Int32)) := ⟨_, rfl⟩
              replace hf := bnd_use ev17 hf
              refine lv_iinc (pc := 91) (v := v17) (lv' := [(2, .int v17), (0, .ref h0), (1, .ref h_o)]) hx hb dX0_standsAs_91 hl (k := 2) rfl (by rw [ev17]; rfl) (by decide) rfl (fun ls hl => ?_)
              refine lv_goto (pc := 94) (tgt := 26) hx hb dX0_standsAs_94 (by decide) ?_
              exact ih v17 _ _ _ hf hX (lv_sub hl [1, 2, 0] rfl)
            · replace hf := ite_f c16 hf
              refine lv_iconst (pc := 89) (v := 0) hx hb dX0_standsAs_89 (by decide) ?_
              obtain ⟨rfl⟩ := re1 hf
              exact hret _ _ _ _ _ rfl rfl hX dX0_standsAs_90
  unfold fX0_standsAs at hf
  refine lv_aload_n (pc := 0) hx hb dX0_standsAs_0 rfl (lv_at hl 0 rfl) ?_
  refine x_getf (pc := 1) (Cn := RX0) (T := TX0) (N := 12) C hX 0 rfl rfl miX0_standsAs_X0 6 (by decide) mmX0_standsAs_1 rfl dX0_standsAs_1 ?_
  refine lv_aload_n (pc := 4) hx hb dX0_standsAs_4 rfl (lv_at hl 1 rfl) ?_
  refine x_getf (pc := 5) (Cn := RX0) (T := TX0) (N := 12) C hX 7 rfl rfl miX0_standsAs_X0 6 (by decide) mmX0_standsAs_1 rfl dX0_standsAs_5 ?_
  refine lv_icmp_ne (pc := 8) (tgt := 22) hx hb dX0_standsAs_8 (by decide) (fun c1 => ?_) (fun c1 => ?_)
  · replace hf := ite_f c1 hf
    refine lv_iconst (pc := 22) (v := 0) hx hb dX0_standsAs_22 (by decide) ?_
    obtain ⟨rfl⟩ := re1 hf
    exact hret _ _ _ _ _ rfl rfl hX dX0_standsAs_23
  · replace hf := ite_t c1 hf
    refine lv_aload_n (pc := 11) hx hb dX0_standsAs_11 rfl (lv_at hl 0 rfl) ?_
    obtain ⟨r2, g3, hf⟩ := cl1_adv hf
    refine x_callVi (pc := 12) (rest := []) (w2 := [(h0, .inr (0, [.ref h_kindRow, .ref h_slackRow, .ref h_placeRow, .ref h_turnRow, .ref h_wayRow, .ref h_strokeRow, .int arms, .int strokes, .int hand, .int step, .int travel, .int reversals])), (h_kindRow, .inl (cI, 4, .inl kindRow)), (h_slackRow, .inl (cI, 4, .inl slackRow)), (h_placeRow, .inl (cI, 4, .inl placeRow)), (h_turnRow, .inl (cI, 4, .inl turnRow)), (h_wayRow, .inl (cI, 4, .inl wayRow)), (h_strokeRow, .inl (cI, 16, .inl strokeRow)), (h_o, .inr (0, [.ref h_o_kindRow, .ref h_o_slackRow, .ref h_o_placeRow, .ref h_o_turnRow, .ref h_o_wayRow, .ref h_o_strokeRow, .int o_arms, .int o_strokes, .int o_hand, .int o_step, .int o_travel, .int o_reversals])), (h_o_kindRow, .inl (cI, 4, .inl o_kindRow)), (h_o_slackRow, .inl (cI, 4, .inl o_slackRow)), (h_o_placeRow, .inl (cI, 4, .inl o_placeRow)), (h_o_turnRow, .inl (cI, 4, .inl o_turnRow)), (h_o_wayRow, .inl (cI, 4, .inl o_wayRow)), (h_o_strokeRow, .inl (cI, 16, .inl o_strokeRow))]) C hX (kX0_strokeInTurn ad l D cI cB cZ cG cS h0 h_kindRow h_slackRow h_placeRow h_turnRow h_wayRow h_strokeRow arms strokes hand step travel reversals kindRow slackRow placeRow turnRow wayRow strokeRow r2 g3) (cwV 0 C.1.2.2.2.2 gX0_standsAs_X0_strokeInTurn rfl rfl rfl (by decide +kernel) ⟨Nat.le_of_ble_eq_true rfl, Nat.le_of_ble_eq_true rfl⟩) [0, 1, 2, 3, 4, 5, 6] [7, 8, 9, 10, 11, 12, 13] [7, 8, 9, 10, 11, 12, 13, 0, 1, 2, 3, 4, 5, 6] rfl rfl rfl rfl (by decide) rfl rfl 0 rfl rfl rfl hl.1 rfl rfl (Nat.le_of_ble_eq_true rfl) dX0_standsAs_12 (fun H locs hX => ?_)
    refine lv_aload_n (pc := 15) hx hb dX0_standsAs_15 rfl (lv_at hl 1 rfl) ?_
    obtain ⟨r4, g5, hf⟩ := cl1_adv hf
    refine x_callVi (pc := 16) (rest := [.int r2]) (w2 := [(h0, .inr (0, [.ref h_kindRow, .ref h_slackRow, .ref h_placeRow, .ref h_turnRow, .ref h_wayRow, .ref h_strokeRow, .int arms, .int strokes, .int hand, .int step, .int travel, .int reversals])), (h_kindRow, .inl (cI, 4, .inl kindRow)), (h_slackRow, .inl (cI, 4, .inl slackRow)), (h_placeRow, .inl (cI, 4, .inl placeRow)), (h_turnRow, .inl (cI, 4, .inl turnRow)), (h_wayRow, .inl (cI, 4, .inl wayRow)), (h_strokeRow, .inl (cI, 16, .inl strokeRow)), (h_o, .inr (0, [.ref h_o_kindRow, .ref h_o_slackRow, .ref h_o_placeRow, .ref h_o_turnRow, .ref h_o_wayRow, .ref h_o_strokeRow, .int o_arms, .int o_strokes, .int o_hand, .int o_step, .int o_travel, .int o_reversals])), (h_o_kindRow, .inl (cI, 4, .inl o_kindRow)), (h_o_slackRow, .inl (cI, 4, .inl o_slackRow)), (h_o_placeRow, .inl (cI, 4, .inl o_placeRow)), (h_o_turnRow, .inl (cI, 4, .inl o_turnRow)), (h_o_wayRow, .inl (cI, 4, .inl o_wayRow)), (h_o_strokeRow, .inl (cI, 16, .inl o_strokeRow))]) C hX (kX0_strokeInTurn ad l D cI cB cZ cG cS h_o h_o_kindRow h_o_slackRow h_o_placeRow h_o_turnRow h_o_wayRow h_o_strokeRow o_arms o_strokes o_hand o_step o_travel o_reversals o_kindRow o_slackRow o_placeRow o_turnRow o_wayRow o_strokeRow r4 g5) (cwV 0 C.1.2.2.2.2 gX0_standsAs_X0_strokeInTurn rfl rfl rfl (by decide +kernel) ⟨Nat.le_of_ble_eq_true rfl, Nat.le_of_ble_eq_true rfl⟩) [7, 8, 9, 10, 11, 12, 13] [0, 1, 2, 3, 4, 5, 6] [0, 1, 2, 3, 4, 5, 6, 7, 8, 9, 10, 11, 12, 13] rfl rfl rfl rfl (by decide) rfl rfl 0 rfl rfl rfl hl.1 rfl rfl (Nat.le_of_ble_eq_true rfl) dX0_standsAs_16 (fun H locs hX => ?_)
    refine lv_icmp_eq (pc := 19) (tgt := 24) hx hb dX0_standsAs_19 (by decide) (fun c6 => ?_) (fun c6 => ?_)
    · replace hf := ite_t c6 hf
      refine lv_iconst (pc := 24) (v := 0) hx hb dX0_standsAs_24 (by decide) ?_
      refine lv_istore_n (pc := 25) (lv' := [(2, .int (0 : Int32)), (0, .ref h0), (1, .ref h_o)]) hx hb dX0_standsAs_25 rfl hl (by decide) rfl (fun ls hl => ?_)
      exact L26  xF (0 : Int32) _ _ _ hf hX (lv_sub hl [1, 2, 0] rfl)
    · replace hf := ite_f c6 hf
      refine lv_iconst (pc := 22) (v := 0) hx hb dX0_standsAs_22 (by decide) ?_
      obtain ⟨rfl⟩ := re1 hf
      exact hret _ _ _ _ _ rfl rfl hX dX0_standsAs_23
