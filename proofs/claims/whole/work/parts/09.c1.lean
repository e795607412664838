def xAO (s : State) : Prop := va_AO RX0 s ∧ va_AO RX1 s
theorem mmX0_init_1 : Cond.methodLink RX0 3 objectInit ∈ wsX0_init := List.mem_of_getElem? (i := 1) rfl
theorem mmX0_init_2 : Cond.instanceMethod objectInit ∈ wsX0_init := List.mem_of_getElem? (i := 2) rfl
theorem mmX0_init_3 : Cond.code objectInit ⟨#[0xb1]⟩ 1 none ∈ wsX0_init := List.mem_of_getElem? (i := 3) rfl
theorem mmX0_init_4 : Cond.arrayClass .int ∈ wsX0_init := List.mem_of_getElem? (i := 4) rfl
theorem mmX0_init_5 : Cond.fieldLink RX0 9 "SlackArms$Gear" "kindRow" "[I" ∈ wsX0_init := List.mem_of_getElem? (i := 5) rfl
theorem miX0_init_X0 : ∀ w ∈ u_ws RX0 TX0 12, w ∈ wsX0_init := fun w h => List.mem_cons_of_mem _ (List.mem_append_right _ h)
theorem mmX0_init_6 : Cond.fieldLink RX0 15 "SlackArms$Gear" "slackRow" "[I" ∈ wsX0_init := List.mem_of_getElem? (i := 6) rfl
theorem mmX0_init_7 : Cond.fieldLink RX0 18 "SlackArms$Gear" "placeRow" "[I" ∈ wsX0_init := List.mem_of_getElem? (i := 7) rfl
theorem mmX0_init_8 : Cond.fieldLink RX0 21 "SlackArms$Gear" "turnRow" "[I" ∈ wsX0_init := List.mem_of_getElem? (i := 8) rfl
theorem mmX0_init_9 : Cond.fieldLink RX0 24 "SlackArms$Gear" "wayRow" "[I" ∈ wsX0_init := List.mem_of_getElem? (i := 9) rfl
theorem mmX0_init_10 : Cond.fieldLink RX0 27 "SlackArms$Gear" "strokeRow" "[I" ∈ wsX0_init := List.mem_of_getElem? (i := 10) rfl
theorem mmX0_init_11 : Cond.fieldLink RX0 30 "SlackArms$Gear" "arms" "I" ∈ wsX0_init := List.mem_of_getElem? (i := 11) rfl
theorem mmX0_init_12 : Cond.fieldLink RX0 34 "SlackArms$Gear" "strokes" "I" ∈ wsX0_init := List.mem_of_getElem? (i := 12) rfl
theorem mmX0_init_13 : Cond.fieldLink RX0 37 "SlackArms$Gear" "hand" "I" ∈ wsX0_init := List.mem_of_getElem? (i := 13) rfl
theorem mmX0_init_14 : Cond.fieldLink RX0 40 "SlackArms$Gear" "step" "I" ∈ wsX0_init := List.mem_of_getElem? (i := 14) rfl
theorem mmX0_init_15 : Cond.fieldLink RX0 43 "SlackArms$Gear" "travel" "I" ∈ wsX0_init := List.mem_of_getElem? (i := 15) rfl
theorem mmX0_init_16 : Cond.fieldLink RX0 46 "SlackArms$Gear" "reversals" "I" ∈ wsX0_init := List.mem_of_getElem? (i := 16) rfl
set_option maxHeartbeats 4000000 in
set_option maxRecDepth 100000 in
theorem kcX0_init (ad : xAd) (l : Launch) (D : va_G) (cI cB cZ cG cS : ClassId) (h0 : Nat) : xMc ad l yX0_init wsX0_init ({ frames := 1, cells := 6, slots := 36, locals := 20 } : Room) D (xTY cI cB cZ cG cS) (fun _ => True) [.ref h0] [(h0, .inr (0, [.null, .null, .null, .null, .null, .null, .int 0, .int 0, .int 0, .int 0, .int 0, .int 0]))] (fun u => [(h0, .inr (0, [.ref (u 0), .ref (u 1), .ref (u 2), .ref (u 3), .ref (u 4), .ref (u 5), .int 0, .int 0, .int 0, .int 0, .int 0, .int 0])), ((u 0), .inl (cI, 4, .inl (fun _ => 0))), ((u 1), .inl (cI, 4, .inl (fun _ => 0))), ((u 2), .inl (cI, 4, .inl (fun _ => 0))), ((u 3), .inl (cI, 4, .inl (fun _ => 0))), ((u 4), .inl (cI, 4, .inl (fun _ => 0))), ((u 5), .inl (cI, 16, .inl (fun _ => 0)))]) 6 36 := by
  refine xMc_of (cc := cX0_init) (maxL := 1) (by decide) rfl rfl (Nat.le_of_ble_eq_true rfl) ?_
  intro p e s m args below meth c A Q ls C hXs hin hX hl hret
  have hx := C.1.1
  have hb := C.1.2.1
  have hl : lv_has ls 1 [(0, .ref h0)] := hl
  refine lv_aload_n (pc := 0) hx hb dX0_init_0 rfl (lv_at hl 0 rfl) ?_
  refine W.objInit hx hb C.1.2.2.2.1 (C.1.2.2.2.2 _ mmX0_init_1) (C.1.2.2.2.2 _ mmX0_init_2) (C.1.2.2.2.2 _ mmX0_init_3) rfl (by rw [C.1.2.2.1]; exact hl.1) rfl dX0_init_1 (Nat.le_of_ble_eq_true rfl) (Nat.le_of_ble_eq_true rfl) ?_
  refine W.eq (g2 := F0 m 4 ls []) rfl ?_
  refine lv_aload_n (pc := 4) hx hb dX0_init_4 rfl (lv_at hl 0 rfl) ?_
  refine lv_iconst (pc := 5) (v := 4) hx hb dX0_init_5 (by decide) ?_
  refine xc_newa (pc := 6) (atype := .int) (ty := .int) (a0 := (4, .inl (fun _ => 0))) C hX mmX0_init_4 rfl 0 rfl (fun _ => rfl) (by decide) (by decide) (by decide) (Nat.le_of_ble_eq_true rfl) (Nat.le_of_ble_eq_true rfl) dX0_init_6 (fun q1 H hX => ?_)
  have hX : xSt A s D [(h0, .inr (0, [.null, .null, .null, .null, .null, .null, .int 0, .int 0, .int 0, .int 0, .int 0, .int 0])), (q1, .inl (cI, 4, .inl (fun _ => 0)))] _ _ := hX
  refine W.widen (k := 1) (n := 4) (Nat.le_of_ble_eq_true rfl) (Nat.le_of_ble_eq_true rfl) ?_
  refine xc_putF (pc := 8) (Cn := RX0) (T := TX0) (N := 12) C hX hin tyX0 tyX0_ok nmX0 0 rfl rfl miX0_init_X0 0 (by decide) mmX0_init_5 rfl rfl rfl rfl (Nat.le_of_ble_eq_true rfl) [(h0, .inr (0, [.ref q1, .null, .null, .null, .null, .null, .int 0, .int 0, .int 0, .int 0, .int 0, .int 0])), (q1, .inl (cI, 4, .inl (fun _ => 0)))] rfl dX0_init_8 (fun H locs hX => ?_)
  refine lv_aload_n (pc := 11) hx hb dX0_init_11 rfl (lv_at hl 0 rfl) ?_
  refine lv_iconst (pc := 12) (v := 4) hx hb dX0_init_12 (by decide) ?_
  refine xc_newa (pc := 13) (atype := .int) (ty := .int) (a0 := (4, .inl (fun _ => 0))) C hX mmX0_init_4 rfl 0 rfl (fun _ => rfl) (by decide) (by decide) (by decide) (Nat.le_of_ble_eq_true rfl) (Nat.le_of_ble_eq_true rfl) dX0_init_13 (fun q2 H hX => ?_)
  have hX : xSt A s D [(h0, .inr (0, [.ref q1, .null, .null, .null, .null, .null, .int 0, .int 0, .int 0, .int 0, .int 0, .int 0])), (q1, .inl (cI, 4, .inl (fun _ => 0))), (q2, .inl (cI, 4, .inl (fun _ => 0)))] _ _ := hX
  refine W.widen (k := 2) (n := 8) (Nat.le_of_ble_eq_true rfl) (Nat.le_of_ble_eq_true rfl) ?_
  refine xc_putF (pc := 15) (Cn := RX0) (T := TX0) (N := 12) C hX hin tyX0 tyX0_ok nmX0 0 rfl rfl miX0_init_X0 1 (by decide) mmX0_init_6 rfl rfl rfl rfl (Nat.le_of_ble_eq_true rfl) [(h0, .inr (0, [.ref q1, .ref q2, .null, .null, .null, .null, .int 0, .int 0, .int 0, .int 0, .int 0, .int 0])), (q1, .inl (cI, 4, .inl (fun _ => 0))), (q2, .inl (cI, 4, .inl (fun _ => 0)))] rfl dX0_init_15 (fun H locs hX => ?_)
  refine lv_aload_n (pc := 18) hx hb dX0_init_18 rfl (lv_at hl 0 rfl) ?_
  refine lv_iconst (pc := 19) (v := 4) hx hb dX0_init_19 (by decide) ?_
  refine xc_newa (pc := 20) (atype := .int) (ty := .int) (a0 := (4, .inl (fun _ => 0))) C hX mmX0_init_4 rfl 0 rfl (fun _ => rfl) (by decide) (by decide) (by decide) (Nat.le_of_ble_eq_true rfl) (Nat.le_of_ble_eq_true rfl) dX0_init_20 (fun q3 H hX => ?_)
  have hX : xSt A s D [(h0, .inr (0, [.ref q1, .ref q2, .null, .null, .null, .null, .int 0, .int 0, .int 0, .int 0, .int 0, .int 0])), (q1, .inl (cI, 4, .inl (fun _ => 0))), (q2, .inl (cI, 4, .inl (fun _ => 0))), (q3, .inl (cI, 4, .inl (fun _ => 0)))] _ _ := hX
  refine W.widen (k := 3) (n := 12) (Nat.le_of_ble_eq_true rfl) (Nat.le_of_ble_eq_true rfl) ?_
  refine xc_putF (pc := 22) (Cn := RX0) (T := TX0) (N := 12) C hX hin tyX0 tyX0_ok nmX0 0 rfl rfl miX0_init_X0 2 (by decide) mmX0_init_7 rfl rfl rfl rfl (Nat.le_of_ble_eq_true rfl) [(h0, .inr (0, [.ref q1, .ref q2, .ref q3, .null, .null, .null, .int 0, .int 0, .int 0, .int 0, .int 0, .int 0])), (q1, .inl (cI, 4, .inl (fun _ => 0))), (q2, .inl (cI, 4, .inl (fun _ => 0))), (q3, .inl (cI, 4, .inl (fun _ => 0)))] rfl dX0_init_22 (fun H locs hX => ?_)
  refine lv_aload_n (pc := 25) hx hb dX0_init_25 rfl (lv_at hl 0 rfl) ?_
  refine lv_iconst (pc := 26) (v := 4) hx hb dX0_init_26 (by decide) ?_
  refine xc_newa (pc := 27) (atype := .int) (ty := .int) (a0 := (4, .inl (fun _ => 0))) C hX mmX0_init_4 rfl 0 rfl (fun _ => rfl) (by decide) (by decide) (by decide) (Nat.le_of_ble_eq_true rfl) (Nat.le_of_ble_eq_true rfl) dX0_init_27 (fun q4 H hX => ?_)
  have hX : xSt A s D [(h0, .inr (0, [.ref q1, .ref q2, .ref q3, .null, .null, .null, .int 0, .int 0, .int 0, .int 0, .int 0, .int 0])), (q1, .inl (cI, 4, .inl (fun _ => 0))), (q2, .inl (cI, 4, .inl (fun _ => 0))), (q3, .inl (cI, 4, .inl (fun _ => 0))), (q4, .inl (cI, 4, .inl (fun _ => 0)))] _ _ := hX
  refine W.widen (k := 4) (n := 16) (Nat.le_of_ble_eq_true rfl) (Nat.le_of_ble_eq_true rfl) ?_
  refine xc_putF (pc := 29) (Cn := RX0) (T := TX0) (N := 12) C hX hin tyX0 tyX0_ok nmX0 0 rfl rfl miX0_init_X0 3 (by decide) mmX0_init_8 rfl rfl rfl rfl (Nat.le_of_ble_eq_true rfl) [(h0, .inr (0, [.ref q1, .ref q2, .ref q3, .ref q4, .null, .null, .int 0, .int 0, .int 0, .int 0, .int 0, .int 0])), (q1, .inl (cI, 4, .inl (fun _ => 0))), (q2, .inl (cI, 4, .inl (fun _ => 0))), (q3, .inl (cI, 4, .inl (fun _ => 0))), (q4, .inl (cI, 4, .inl (fun _ => 0)))] rfl dX0_init_29 (fun H locs hX => ?_)
  refine lv_aload_n (pc := 32) hx hb dX0_init_32 rfl (lv_at hl 0 rfl) ?_
  refine lv_iconst (pc := 33) (v := 4) hx hb dX0_init_33 (by decide) ?_
  refine xc_newa (pc := 34) (atype := .int) (ty := .int) (a0 := (4, .inl (fun _ => 0))) C hX mmX0_init_4 rfl 0 rfl (fun _ => rfl) (by decide) (by decide) (by decide) (Nat.le_of_ble_eq_true rfl) (Nat.le_of_ble_eq_true rfl) dX0_init_34 (fun q5 H hX => ?_)
  have hX : xSt A s D [(h0, .inr (0, [.ref q1, .ref q2, .ref q3, .ref q4, .null, .null, .int 0, .int 0, .int 0, .int 0, .int 0, .int 0])), (q1, .inl (cI, 4, .inl (fun _ => 0))), (q2, .inl (cI, 4, .inl (fun _ => 0))), (q3, .inl (cI, 4, .inl (fun _ => 0))), (q4, .inl (cI, 4, .inl (fun _ => 0))), (q5, .inl (cI, 4, .inl (fun _ => 0)))] _ _ := hX
  refine W.widen (k := 5) (n := 20) (Nat.le_of_ble_eq_true rfl) (Nat.le_of_ble_eq_true rfl) ?_
  refine xc_putF (pc := 36) (Cn := RX0) (T := TX0) (N := 12) C hX hin tyX0 tyX0_ok nmX0 0 rfl rfl miX0_init_X0 4 (by decide) mmX0_init_9 rfl rfl rfl rfl (Nat.le_of_ble_eq_true rfl) [(h0, .inr (0, [.ref q1, .ref q2, .ref q3, .ref q4, .ref q5, .null, .int 0, .int 0, .int 0, .int 0, .int 0, .int 0])), (q1, .inl (cI, 4, .inl (fun _ => 0))), (q2, .inl (cI, 4, .inl (fun _ => 0))), (q3, .inl (cI, 4, .inl (fun _ => 0))), (q4, .inl (cI, 4, .inl (fun _ => 0))), (q5, .inl (cI, 4, .inl (fun _ => 0)))] rfl dX0_init_36 (fun H locs hX => ?_)
  refine lv_aload_n (pc := 39) hx hb dX0_init_39 rfl (lv_at hl 0 rfl) ?_
  refine lv_bipush (pc := 40) (v := 16) hx hb dX0_init_40 (by decide) ?_
  refine xc_newa (pc := 42) (atype := .int) (ty := .int) (a0 := (16, .inl (fun _ => 0))) C hX mmX0_init_4 rfl 0 rfl (fun _ => rfl) (by decide) (by decide) (by decide) (Nat.le_of_ble_eq_true rfl) (Nat.le_of_ble_eq_true rfl) dX0_init_42 (fun q6 H hX => ?_)
  have hX : xSt A s D [(h0, .inr (0, [.ref q1, .ref q2, .ref q3, .ref q4, .ref q5, .null, .int 0, .int 0, .int 0, .int 0, .int 0, .int 0])), (q1, .inl (cI, 4, .inl (fun _ => 0))), (q2, .inl (cI, 4, .inl (fun _ => 0))), (q3, .inl (cI, 4, .inl (fun _ => 0))), (q4, .inl (cI, 4, .inl (fun _ => 0))), (q5, .inl (cI, 4, .inl (fun _ => 0))), (q6, .inl (cI, 16, .inl (fun _ => 0)))] _ _ := hX
  refine W.widen (k := 6) (n := 36) (Nat.le_of_ble_eq_true rfl) (Nat.le_of_ble_eq_true rfl) ?_
  refine xc_putF (pc := 44) (Cn := RX0) (T := TX0) (N := 12) C hX hin tyX0 tyX0_ok nmX0 0 rfl rfl miX0_init_X0 5 (by decide) mmX0_init_10 rfl rfl rfl rfl (Nat.le_of_ble_eq_true rfl) [(h0, .inr (0, [.ref q1, .ref q2, .ref q3, .ref q4, .ref q5, .ref q6, .int 0, .int 0, .int 0, .int 0, .int 0, .int 0])), (q1, .inl (cI, 4, .inl (fun _ => 0))), (q2, .inl (cI, 4, .inl (fun _ => 0))), (q3, .inl (cI, 4, .inl (fun _ => 0))), (q4, .inl (cI, 4, .inl (fun _ => 0))), (q5, .inl (cI, 4, .inl (fun _ => 0))), (q6, .inl (cI, 16, .inl (fun _ => 0)))] rfl dX0_init_44 (fun H locs hX => ?_)
  refine lv_aload_n (pc := 47) hx hb dX0_init_47 rfl (lv_at hl 0 rfl) ?_
  refine lv_iconst (pc := 48) (v := 0) hx hb dX0_init_48 (by decide) ?_
  refine xc_putf (pc := 49) (Cn := RX0) (T := TX0) (N := 12) C hX tyX0 tyX0_ok nmX0 0 rfl rfl miX0_init_X0 6 (by decide) mmX0_init_11 rfl rfl (Nat.le_of_ble_eq_true rfl) [(h0, .inr (0, [.ref q1, .ref q2, .ref q3, .ref q4, .ref q5, .ref q6, .int 0, .int 0, .int 0, .int 0, .int 0, .int 0])), (q1, .inl (cI, 4, .inl (fun _ => 0))), (q2, .inl (cI, 4, .inl (fun _ => 0))), (q3, .inl (cI, 4, .inl (fun _ => 0))), (q4, .inl (cI, 4, .inl (fun _ => 0))), (q5, .inl (cI, 4, .inl (fun _ => 0))), (q6, .inl (cI, 16, .inl (fun _ => 0)))] rfl dX0_init_49 (fun H locs hX => ?_)
  refine lv_aload_n (pc := 52) hx hb dX0_init_52 rfl (lv_at hl 0 rfl) ?_
  refine lv_iconst (pc := 53) (v := 0) hx hb dX0_init_53 (by decide) ?_
  refine xc_putf (pc := 54) (Cn := RX0) (T := TX0) (N := 12) C hX tyX0 tyX0_ok nmX0 0 rfl rfl miX0_init_X0 7 (by decide) mmX0_init_12 rfl rfl (Nat.le_of_ble_eq_true rfl) [(h0, .inr (0, [.ref q1, .ref q2, .ref q3, .ref q4, .ref q5, .ref q6, .int 0, .int 0, .int 0, .int 0, .int 0, .int 0])), (q1, .inl (cI, 4, .inl (fun _ => 0))), (q2, .inl (cI, 4, .inl (fun _ => 0))), (q3, .inl (cI, 4, .inl (fun _ => 0))), (q4, .inl (cI, 4, .inl (fun _ => 0))), (q5, .inl (cI, 4, .inl (fun _ => 0))), (q6, .inl (cI, 16, .inl (fun _ => 0)))] rfl dX0_init_54 (fun H locs hX => ?_)
  refine lv_aload_n (pc := 57) hx hb dX0_init_57 rfl (lv_at hl 0 rfl) ?_
  refine lv_iconst (pc := 58) (v := 0) hx hb dX0_init_58 (by decide) ?_
  refine xc_putf (pc := 59) (Cn := RX0) (T := TX0) (N := 12) C hX tyX0 tyX0_ok nmX0 0 rfl rfl miX0_init_X0 8 (by decide) mmX0_init_13 rfl rfl (Nat.le_of_ble_eq_true rfl) [(h0, .inr (0, [.ref q1, .ref q2, .ref q3, .ref q4, .ref q5, .ref q6, .int 0, .int 0, .int 0, .int 0, .int 0, .int 0])), (q1, .inl (cI, 4, .inl (fun _ => 0))), (q2, .inl (cI, 4, .inl (fun _ => 0))), (q3, .inl (cI, 4, .inl (fun _ => 0))), (q4, .inl (cI, 4, .inl (fun _ => 0))), (q5, .inl (cI, 4, .inl (fun _ => 0))), (q6, .inl (cI, 16, .inl (fun _ => 0)))] rfl dX0_init_59 (fun H locs hX => ?_)
  refine lv_aload_n (pc := 62) hx hb dX0_init_62 rfl (lv_at hl 0 rfl) ?_
  refine lv_iconst (pc := 63) (v := 0) hx hb dX0_init_63 (by decide) ?_
  refine xc_putf (pc := 64) (Cn := RX0) (T := TX0) (N := 12) C hX tyX0 tyX0_ok nmX0 0 rfl rfl miX0_init_X0 9 (by decide) mmX0_init_14 rfl rfl (Nat.le_of_ble_eq_true rfl) [(h0, .inr (0, [.ref q1, .ref q2, .ref q3, .ref q4, .ref q5, .ref q6, .int 0, .int 0, .int 0, .int 0, .int 0, .int 0])), (q1, .inl (cI, 4, .inl (fun _ => 0))), (q2, .inl (cI, 4, .inl (fun _ => 0))), (q3, .inl (cI, 4, .inl (fun _ => 0))), (q4, .inl (cI, 4, .inl (fun _ => 0))), (q5, .inl (cI, 4, .inl (fun _ => 0))), (q6, .inl (cI, 16, .inl (fun _ => 0)))] rfl dX0_init_64 (fun H locs hX => ?_)
  refine lv_aload_n (pc := 67) hx hb dX0_init_67 rfl (lv_at hl 0 rfl) ?_
  refine lv_iconst (pc := 68) (v := 0) hx hb dX0_init_68 (by decide) ?_
  refine xc_putf (pc := 69) (Cn := RX0) (T := TX0) (N := 12) C hX tyX0 tyX0_ok nmX0 0 rfl rfl miX0_init_X0 10 (by decide) mmX0_init_15 rfl rfl (Nat.le_of_ble_eq_true rfl) [(h0, .inr (0, [.ref q1, .ref q2, .ref q3, .ref q4, .ref q5, .ref q6, .int 0, .int 0, .int 0, .int 0, .int 0, .int 0])), (q1, .inl (cI, 4, .inl (fun _ => 0))), (q2, .inl (cI, 4, .inl (fun _ => 0))), (q3, .inl (cI, 4, .inl (fun _ => 0))), (q4, .inl (cI, 4, .inl (fun _ => 0))), (q5, .inl (cI, 4, .inl (fun _ => 0))), (q6, .inl (cI, 16, .inl (fun _ => 0)))] rfl dX0_init_69 (fun H locs hX => ?_)
  refine lv_aload_n (pc := 72) hx hb dX0_init_72 rfl (lv_at hl 0 rfl) ?_
  refine lv_iconst (pc := 73) (v := 0) hx hb dX0_init_73 (by decide) ?_
  refine xc_putf (pc := 74) (Cn := RX0) (T := TX0) (N := 12) C hX tyX0 tyX0_ok nmX0 0 rfl rfl miX0_init_X0 11 (by decide) mmX0_init_16 rfl rfl (Nat.le_of_ble_eq_true rfl) [(h0, .inr (0, [.ref q1, .ref q2, .ref q3, .ref q4, .ref q5, .ref q6, .int 0, .int 0, .int 0, .int 0, .int 0, .int 0])), (q1, .inl (cI, 4, .inl (fun _ => 0))), (q2, .inl (cI, 4, .inl (fun _ => 0))), (q3, .inl (cI, 4, .inl (fun _ => 0))), (q4, .inl (cI, 4, .inl (fun _ => 0))), (q5, .inl (cI, 4, .inl (fun _ => 0))), (q6, .inl (cI, 16, .inl (fun _ => 0)))] rfl dX0_init_74 (fun H locs hX => ?_)
  exact hret (fun k => [q1, q2, q3, q4, q5, q6].getD k 0) _ _ _ _ (x_perm (isT := [0, 1, 2, 3, 4, 5, 6]) hX rfl rfl) dX0_init_77
theorem mmX1_init_1 : Cond.methodLink RX1 3 objectInit ∈ wsX1_init := List.mem_of_getElem? (i := 1) rfl
theorem mmX1_init_2 : Cond.instanceMethod objectInit ∈ wsX1_init := List.mem_of_getElem? (i := 2) rfl
theorem mmX1_init_3 : Cond.code objectInit ⟨#[0xb1]⟩ 1 none ∈ wsX1_init := List.mem_of_getElem? (i := 3) rfl
theorem mmX1_init_4 : Cond.arrayClass .int ∈ wsX1_init := List.mem_of_getElem? (i := 4) rfl
theorem mmX1_init_5 : Cond.fieldLink RX1 9 "SlackArms$Sheet" "cells" "[I" ∈ wsX1_init := List.mem_of_getElem? (i := 5) rfl
theorem miX1_init_X1 : ∀ w ∈ u_ws RX1 TX1 3, w ∈ wsX1_init := fun w h => List.mem_cons_of_mem _ (List.mem_append_right _ h)
theorem mmX1_init_6 : Cond.fieldLink RX1 15 "SlackArms$Sheet" "lane" "I" ∈ wsX1_init := List.mem_of_getElem? (i := 6) rfl
theorem mmX1_init_7 : Cond.fieldLink RX1 19 "SlackArms$Sheet" "size" "I" ∈ wsX1_init := List.mem_of_getElem? (i := 7) rfl
set_option maxHeartbeats 4000000 in
set_option maxRecDepth 100000 in
theorem kcX1_init (ad : xAd) (l : Launch) (D : va_G) (cI cB cZ cG cS : ClassId) (h0 : Nat) : xMc ad l yX1_init wsX1_init ({ frames := 1, cells := 1, slots := 40, locals := 20 } : Room) D (xTY cI cB cZ cG cS) (fun _ => True) [.ref h0] [(h0, .inr (1, [.null, .int 0, .int 0]))] (fun u => [(h0, .inr (1, [.ref (u 0), .int 0, .int (-1)])), ((u 0), .inl (cI, 40, .inl (fun _ => 0)))]) 1 40 := by
  refine xMc_of (cc := cX1_init) (maxL := 1) (by decide) rfl rfl (Nat.le_of_ble_eq_true rfl) ?_
  intro p e s m args below meth c A Q ls C hXs hin hX hl hret
  have hx := C.1.1
  have hb := C.1.2.1
  have hl : lv_has ls 1 [(0, .ref h0)] := hl
  refine lv_aload_n (pc := 0) hx hb dX1_init_0 rfl (lv_at hl 0 rfl) ?_
  refine W.objInit hx hb C.1.2.2.2.1 (C.1.2.2.2.2 _ mmX1_init_1) (C.1.2.2.2.2 _ mmX1_init_2) (C.1.2.2.2.2 _ mmX1_init_3) rfl (by rw [C.1.2.2.1]; exact hl.1) rfl dX1_init_1 (Nat.le_of_ble_eq_true rfl) (Nat.le_of_ble_eq_true rfl) ?_
  refine W.eq (g2 := F0 m 4 ls []) rfl ?_
  refine lv_aload_n (pc := 4) hx hb dX1_init_4 rfl (lv_at hl 0 rfl) ?_
  refine lv_bipush (pc := 5) (v := 40) hx hb dX1_init_5 (by decide) ?_
  refine xc_newa (pc := 7) (atype := .int) (ty := .int) (a0 := (40, .inl (fun _ => 0))) C hX mmX1_init_4 rfl 0 rfl (fun _ => rfl) (by decide) (by decide) (by decide) (Nat.le_of_ble_eq_true rfl) (Nat.le_of_ble_eq_true rfl) dX1_init_7 (fun q1 H hX => ?_)
  have hX : xSt A s D [(h0, .inr (1, [.null, .int 0, .int 0])), (q1, .inl (cI, 40, .inl (fun _ => 0)))] _ _ := hX
  refine W.widen (k := 1) (n := 40) (Nat.le_of_ble_eq_true rfl) (Nat.le_of_ble_eq_true rfl) ?_
  refine xc_putF (pc := 9) (Cn := RX1) (T := TX1) (N := 3) C hX hin tyX1 tyX1_ok nmX1 0 rfl rfl miX1_init_X1 0 (by decide) mmX1_init_5 rfl rfl rfl rfl (Nat.le_of_ble_eq_true rfl) [(h0, .inr (1, [.ref q1, .int 0, .int 0])), (q1, .inl (cI, 40, .inl (fun _ => 0)))] rfl dX1_init_9 (fun H locs hX => ?_)
  refine lv_aload_n (pc := 12) hx hb dX1_init_12 rfl (lv_at hl 0 rfl) ?_
  refine lv_iconst (pc := 13) (v := 0) hx hb dX1_init_13 (by decide) ?_
  refine xc_putf (pc := 14) (Cn := RX1) (T := TX1) (N := 3) C hX tyX1 tyX1_ok nmX1 0 rfl rfl miX1_init_X1 1 (by decide) mmX1_init_6 rfl rfl (Nat.le_of_ble_eq_true rfl) [(h0, .inr (1, [.ref q1, .int 0, .int 0])), (q1, .inl (cI, 40, .inl (fun _ => 0)))] rfl dX1_init_14 (fun H locs hX => ?_)
  refine lv_aload_n (pc := 17) hx hb dX1_init_17 rfl (lv_at hl 0 rfl) ?_
  refine lv_iconst (pc := 18) (v := -1) hx hb dX1_init_18 (by decide) ?_
  refine xc_putf (pc := 19) (Cn := RX1) (T := TX1) (N := 3) C hX tyX1 tyX1_ok nmX1 0 rfl rfl miX1_init_X1 2 (by decide) mmX1_init_7 rfl rfl (Nat.le_of_ble_eq_true rfl) [(h0, .inr (1, [.ref q1, .int 0, .int (-1)])), (q1, .inl (cI, 40, .inl (fun _ => 0)))] rfl dX1_init_19 (fun H locs hX => ?_)
  exact hret (fun k => [q1].getD k 0) _ _ _ _ (x_perm (isT := [0, 1]) hX rfl rfl) dX1_init_22
theorem mmX2_init_1 : Cond.methodLink RX2 3 objectInit ∈ wsX2_init := List.mem_of_getElem? (i := 1) rfl
theorem mmX2_init_2 : Cond.instanceMethod objectInit ∈ wsX2_init := List.mem_of_getElem? (i := 2) rfl
theorem mmX2_init_3 : Cond.code objectInit ⟨#[0xb1]⟩ 1 none ∈ wsX2_init := List.mem_of_getElem? (i := 3) rfl
theorem mmX2_init_4 : Cond.arrayClass .int ∈ wsX2_init := List.mem_of_getElem? (i := 4) rfl
theorem mmX2_init_5 : Cond.fieldLink RX2 9 "SlackArms$Sights" "stepRow" "[I" ∈ wsX2_init := List.mem_of_getElem? (i := 5) rfl
theorem miX2_init_X2 : ∀ w ∈ u_ws RX2 TX2 4, w ∈ wsX2_init := fun w h => List.mem_cons_of_mem _ (List.mem_append_right _ h)
theorem mmX2_init_6 : Cond.fieldLink RX2 15 "SlackArms$Sights" "armRow" "[I" ∈ wsX2_init := List.mem_of_getElem? (i := 6) rfl
theorem mmX2_init_7 : Cond.fieldLink RX2 18 "SlackArms$Sights" "placeRow" "[I" ∈ wsX2_init := List.mem_of_getElem? (i := 7) rfl
theorem mmX2_init_8 : Cond.fieldLink RX2 21 "SlackArms$Sights" "size" "I" ∈ wsX2_init := List.mem_of_getElem? (i := 8) rfl
set_option maxHeartbeats 4000000 in
set_option maxRecDepth 100000 in
theorem kcX2_init (ad : xAd) (l : Launch) (D : va_G) (cI cB cZ cG cS : ClassId) (h0 : Nat) : xMc ad l yX2_init wsX2_init ({ frames := 1, cells := 3, slots := 18, locals := 20 } : Room) D (xTY cI cB cZ cG cS) (fun _ => True) [.ref h0] [(h0, .inr (2, [.null, .null, .null, .int 0]))] (fun u => [(h0, .inr (2, [.ref (u 0), .ref (u 1), .ref (u 2), .int 0])), ((u 0), .inl (cI, 6, .inl (fun _ => 0))), ((u 1), .inl (cI, 6, .inl (fun _ => 0))), ((u 2), .inl (cI, 6, .inl (fun _ => 0)))]) 3 18 := by
  refine xMc_of (cc := cX2_init) (maxL := 1) (by decide) rfl rfl (Nat.le_of_ble_eq_true rfl) ?_
  intro p e s m args below meth c A Q ls C hXs hin hX hl hret
  have hx := C.1.1
  have hb := C.1.2.1
  have hl : lv_has ls 1 [(0, .ref h0)] := hl
  refine lv_aload_n (pc := 0) hx hb dX2_init_0 rfl (lv_at hl 0 rfl) ?_
  refine W.objInit hx hb C.1.2.2.2.1 (C.1.2.2.2.2 _ mmX2_init_1) (C.1.2.2.2.2 _ mmX2_init_2) (C.1.2.2.2.2 _ mmX2_init_3) rfl (by rw [C.1.2.2.1]; exact hl.1) rfl dX2_init_1 (Nat.le_of_ble_eq_true rfl) (Nat.le_of_ble_eq_true rfl) ?_
  refine W.eq (g2 := F0 m 4 ls []) rfl ?_
  refine lv_aload_n (pc := 4) hx hb dX2_init_4 rfl (lv_at hl 0 rfl) ?_
  refine lv_bipush (pc := 5) (v := 6) hx hb dX2_init_5 (by decide) ?_
  refine xc_newa (pc := 7) (atype := .int) (ty := .int) (a0 := (6, .inl (fun _ => 0))) C hX mmX2_init_4 rfl 0 rfl (fun _ => rfl) (by decide) (by decide) (by decide) (Nat.le_of_ble_eq_true rfl) (Nat.le_of_ble_eq_true rfl) dX2_init_7 (fun q1 H hX => ?_)
  have hX : xSt A s D [(h0, .inr (2, [.null, .null, .null, .int 0])), (q1, .inl (cI, 6, .inl (fun _ => 0)))] _ _ := hX
  refine W.widen (k := 1) (n := 6) (Nat.le_of_ble_eq_true rfl) (Nat.le_of_ble_eq_true rfl) ?_
  refine xc_putF (pc := 9) (Cn := RX2) (T := TX2) (N := 4) C hX hin tyX2 tyX2_ok nmX2 0 rfl rfl miX2_init_X2 0 (by decide) mmX2_init_5 rfl rfl rfl rfl (Nat.le_of_ble_eq_true rfl) [(h0, .inr (2, [.ref q1, .null, .null, .int 0])), (q1, .inl (cI, 6, .inl (fun _ => 0)))] rfl dX2_init_9 (fun H locs hX => ?_)
  refine lv_aload_n (pc := 12) hx hb dX2_init_12 rfl (lv_at hl 0 rfl) ?_
  refine lv_bipush (pc := 13) (v := 6) hx hb dX2_init_13 (by decide) ?_
  refine xc_newa (pc := 15) (atype := .int) (ty := .int) (a0 := (6, .inl (fun _ => 0))) C hX mmX2_init_4 rfl 0 rfl (fun _ => rfl) (by decide) (by decide) (by decide) (Nat.le_of_ble_eq_true rfl) (Nat.le_of_ble_eq_true rfl) dX2_init_15 (fun q2 H hX => ?_)
  have hX : xSt A s D [(h0, .inr (2, [.ref q1, .null, .null, .int 0])), (q1, .inl (cI, 6, .inl (fun _ => 0))), (q2, .inl (cI, 6, .inl (fun _ => 0)))] _ _ := hX
  refine W.widen (k := 2) (n := 12) (Nat.le_of_ble_eq_true rfl) (Nat.le_of_ble_eq_true rfl) ?_
  refine xc_putF (pc := 17) (Cn := RX2) (T := TX2) (N := 4) C hX hin tyX2 tyX2_ok nmX2 0 rfl rfl miX2_init_X2 1 (by decide) mmX2_init_6 rfl rfl rfl rfl (Nat.le_of_ble_eq_true rfl) [(h0, .inr (2, [.ref q1, .ref q2, .null, .int 0])), (q1, .inl (cI, 6, .inl (fun _ => 0))), (q2, .inl (cI, 6, .inl (fun _ => 0)))] rfl dX2_init_17 (fun H locs hX => ?_)
  refine lv_aload_n (pc := 20) hx hb dX2_init_20 rfl (lv_at hl 0 rfl) ?_
  refine lv_bipush (pc := 21) (v := 6) hx hb dX2_init_21 (by decide) ?_
  refine xc_newa (pc := 23) (atype := .int) (ty := .int) (a0 := (6, .inl (fun _ => 0))) C hX mmX2_init_4 rfl 0 rfl (fun _ => rfl) (by decide) (by decide) (by decide) (Nat.le_of_ble_eq_true rfl) (Nat.le_of_ble_eq_true rfl) dX2_init_23 (fun q3 H hX => ?_)
  have hX : xSt A s D [(h0, .inr (2, [.ref q1, .ref q2, .null, .int 0])), (q1, .inl (cI, 6, .inl (fun _ => 0))), (q2, .inl (cI, 6, .inl (fun _ => 0))), (q3, .inl (cI, 6, .inl (fun _ => 0)))] _ _ := hX
  refine W.widen (k := 3) (n := 18) (Nat.le_of_ble_eq_true rfl) (Nat.le_of_ble_eq_true rfl) ?_
  refine xc_putF (pc := 25) (Cn := RX2) (T := TX2) (N := 4) C hX hin tyX2 tyX2_ok nmX2 0 rfl rfl miX2_init_X2 2 (by decide) mmX2_init_7 rfl rfl rfl rfl (Nat.le_of_ble_eq_true rfl) [(h0, .inr (2, [.ref q1, .ref q2, .ref q3, .int 0])), (q1, .inl (cI, 6, .inl (fun _ => 0))), (q2, .inl (cI, 6, .inl (fun _ => 0))), (q3, .inl (cI, 6, .inl (fun _ => 0)))] rfl dX2_init_25 (fun H locs hX => ?_)
  refine lv_aload_n (pc := 28) hx hb dX2_init_28 rfl (lv_at hl 0 rfl) ?_
  refine lv_iconst (pc := 29) (v := 0) hx hb dX2_init_29 (by decide) ?_
  refine xc_putf (pc := 30) (Cn := RX2) (T := TX2) (N := 4) C hX tyX2 tyX2_ok nmX2 0 rfl rfl miX2_init_X2 3 (by decide) mmX2_init_8 rfl rfl (Nat.le_of_ble_eq_true rfl) [(h0, .inr (2, [.ref q1, .ref q2, .ref q3, .int 0])), (q1, .inl (cI, 6, .inl (fun _ => 0))), (q2, .inl (cI, 6, .inl (fun _ => 0))), (q3, .inl (cI, 6, .inl (fun _ => 0)))] rfl dX2_init_30 (fun H locs hX => ?_)
  exact hret (fun k => [q1, q2, q3].getD k 0) _ _ _ _ (x_perm (isT := [0, 1, 2, 3]) hX rfl rfl) dX2_init_33
theorem mmX3_init_1 : Cond.methodLink RX3 3 objectInit ∈ wsX3_init := List.mem_of_getElem? (i := 1) rfl
theorem mmX3_init_2 : Cond.instanceMethod objectInit ∈ wsX3_init := List.mem_of_getElem? (i := 2) rfl
theorem mmX3_init_3 : Cond.code objectInit ⟨#[0xb1]⟩ 1 none ∈ wsX3_init := List.mem_of_getElem? (i := 3) rfl
theorem mmX3_init_4 : Cond.arrayClass .byte ∈ wsX3_init := List.mem_of_getElem? (i := 4) rfl
theorem mmX3_init_5 : Cond.fieldLink RX3 9 "SlackArms$Tape" "bytes" "[B" ∈ wsX3_init := List.mem_of_getElem? (i := 5) rfl
theorem miX3_init_X3 : ∀ w ∈ u_ws RX3 TX3 7, w ∈ wsX3_init := fun w h => List.mem_cons_of_mem _ (List.mem_append_right _ h)
theorem mmX3_init_6 : Cond.fieldLink RX3 15 "SlackArms$Tape" "length" "I" ∈ wsX3_init := List.mem_of_getElem? (i := 6) rfl
theorem mmX3_init_7 : Cond.fieldLink RX3 19 "SlackArms$Tape" "fault" "I" ∈ wsX3_init := List.mem_of_getElem? (i := 7) rfl
theorem mmX3_init_8 : Cond.fieldLink RX3 22 "SlackArms$Tape" "faultPlace" "I" ∈ wsX3_init := List.mem_of_getElem? (i := 8) rfl
theorem mmX3_init_9 : Cond.fieldLink RX3 25 "SlackArms$Tape" "token" "I" ∈ wsX3_init := List.mem_of_getElem? (i := 9) rfl
theorem mmX3_init_10 : Cond.fieldLink RX3 28 "SlackArms$Tape" "tokenStart" "I" ∈ wsX3_init := List.mem_of_getElem? (i := 10) rfl
theorem mmX3_init_11 : Cond.fieldLink RX3 31 "SlackArms$Tape" "tokenEnd" "I" ∈ wsX3_init := List.mem_of_getElem? (i := 11) rfl
set_option maxHeartbeats 4000000 in
set_option maxRecDepth 100000 in
theorem kcX3_init (ad : xAd) (l : Launch) (D : va_G) (cI cB cZ cG cS : ClassId) (h0 : Nat) : xMc ad l yX3_init wsX3_init ({ frames := 1, cells := 1, slots := 160, locals := 20 } : Room) D (xTY cI cB cZ cG cS) (fun _ => True) [.ref h0] [(h0, .inr (3, [.null, .int 0, .int 0, .int 0, .int 0, .int 0, .int 0]))] (fun u => [(h0, .inr (3, [.ref (u 0), .int 0, .int 0, .int 0, .int 0, .int 0, .int 0])), ((u 0), .inl (cB, 160, .inl (fun _ => 0)))]) 1 160 := by
  refine xMc_of (cc := cX3_init) (maxL := 1) (by decide) rfl rfl (Nat.le_of_ble_eq_true rfl) ?_
  intro p e s m args below meth c A Q ls C hXs hin hX hl hret
  have hx := C.1.1
  have hb := C.1.2.1
  have hl : lv_has ls 1 [(0, .ref h0)] := hl
  refine lv_aload_n (pc := 0) hx hb dX3_init_0 rfl (lv_at hl 0 rfl) ?_
  refine W.objInit hx hb C.1.2.2.2.1 (C.1.2.2.2.2 _ mmX3_init_1) (C.1.2.2.2.2 _ mmX3_init_2) (C.1.2.2.2.2 _ mmX3_init_3) rfl (by rw [C.1.2.2.1]; exact hl.1) rfl dX3_init_1 (Nat.le_of_ble_eq_true rfl) (Nat.le_of_ble_eq_true rfl) ?_
  refine W.eq (g2 := F0 m 4 ls []) rfl ?_
  refine lv_aload_n (pc := 4) hx hb dX3_init_4 rfl (lv_at hl 0 rfl) ?_
  refine lv_sipush (pc := 5) (v := 160) hx hb dX3_init_5 (by decide) ?_
  refine xc_newa (pc := 8) (atype := .byte) (ty := .byte) (a0 := (160, .inl (fun _ => 0))) C hX mmX3_init_4 rfl 1 rfl (fun _ => rfl) (by decide) (by decide) (by decide) (Nat.le_of_ble_eq_true rfl) (Nat.le_of_ble_eq_true rfl) dX3_init_8 (fun q1 H hX => ?_)
  have hX : xSt A s D [(h0, .inr (3, [.null, .int 0, .int 0, .int 0, .int 0, .int 0, .int 0])), (q1, .inl (cB, 160, .inl (fun _ => 0)))] _ _ := hX
  refine W.widen (k := 1) (n := 160) (Nat.le_of_ble_eq_true rfl) (Nat.le_of_ble_eq_true rfl) ?_
  refine xc_putF (pc := 10) (Cn := RX3) (T := TX3) (N := 7) C hX hin tyX3 tyX3_ok nmX3 0 rfl rfl miX3_init_X3 0 (by decide) mmX3_init_5 rfl rfl rfl rfl (Nat.le_of_ble_eq_true rfl) [(h0, .inr (3, [.ref q1, .int 0, .int 0, .int 0, .int 0, .int 0, .int 0])), (q1, .inl (cB, 160, .inl (fun _ => 0)))] rfl dX3_init_10 (fun H locs hX => ?_)
  refine lv_aload_n (pc := 13) hx hb dX3_init_13 rfl (lv_at hl 0 rfl) ?_
  refine lv_iconst (pc := 14) (v := 0) hx hb dX3_init_14 (by decide) ?_
  refine xc_putf (pc := 15) (Cn := RX3) (T := TX3) (N := 7) C hX tyX3 tyX3_ok nmX3 0 rfl rfl miX3_init_X3 1 (by decide) mmX3_init_6 rfl rfl (Nat.le_of_ble_eq_true rfl) [(h0, .inr (3, [.ref q1, .int 0, .int 0, .int 0, .int 0, .int 0, .int 0])), (q1, .inl (cB, 160, .inl (fun _ => 0)))] rfl dX3_init_15 (fun H locs hX => ?_)
  refine lv_aload_n (pc := 18) hx hb dX3_init_18 rfl (lv_at hl 0 rfl) ?_
  refine lv_iconst (pc := 19) (v := 0) hx hb dX3_init_19 (by decide) ?_
  refine xc_putf (pc := 20) (Cn := RX3) (T := TX3) (N := 7) C hX tyX3 tyX3_ok nmX3 0 rfl rfl miX3_init_X3 2 (by decide) mmX3_init_7 rfl rfl (Nat.le_of_ble_eq_true rfl) [(h0, .inr (3, [.ref q1, .int 0, .int 0, .int 0, .int 0, .int 0, .int 0])), (q1, .inl (cB, 160, .inl (fun _ => 0)))] rfl dX3_init_20 (fun H locs hX => ?_)
  refine lv_aload_n (pc := 23) hx hb dX3_init_23 rfl (lv_at hl 0 rfl) ?_
  refine lv_iconst (pc := 24) (v := 0) hx hb dX3_init_24 (by decide) ?_
  refine xc_putf (pc := 25) (Cn := RX3) (T := TX3) (N := 7) C hX tyX3 tyX3_ok nmX3 0 rfl rfl miX3_init_X3 3 (by decide) mmX3_init_8 rfl rfl (Nat.le_of_ble_eq_true rfl) [(h0, .inr (3, [.ref q1, .int 0, .int 0, .int 0, .int 0, .int 0, .int 0])), (q1, .inl (cB, 160, .inl (fun _ => 0)))] rfl dX3_init_25 (fun H locs hX => ?_)
  refine lv_aload_n (pc := 28) hx hb dX3_init_28 rfl (lv_at hl 0 rfl) ?_
  refine lv_iconst (pc := 29) (v := 0) hx hb dX3_init_29 (by decide) ?_
  refine xc_putf (pc := 30) (Cn := RX3) (T := TX3) (N := 7) C hX tyX3 tyX3_ok nmX3 0 rfl rfl miX3_init_X3 4 (by decide) mmX3_init_9 rfl rfl (Nat.le_of_ble_eq_true rfl) [(h0, .inr (3, [.ref q1, .int 0, .int 0, .int 0, .int 0, .int 0, .int 0])), (q1, .inl (cB, 160, .inl (fun _ => 0)))] rfl dX3_init_30 (fun H locs hX => ?_)
  refine lv_aload_n (pc := 33) hx hb dX3_init_33 rfl (lv_at hl 0 rfl) ?_
  refine lv_iconst (pc := 34) (v := 0) hx hb dX3_init_34 (by decide) ?_
  refine xc_putf (pc := 35) (Cn := RX3) (T := TX3) (N := 7) C hX tyX3 tyX3_ok nmX3 0 rfl rfl miX3_init_X3 5 (by decide) mmX3_init_10 rfl rfl (Nat.le_of_ble_eq_true rfl) [(h0, .inr (3, [.ref q1, .int 0, .int 0, .int 0, .int 0, .int 0, .int 0])), (q1, .inl (cB, 160, .inl (fun _ => 0)))] rfl dX3_init_35 (fun H locs hX => ?_)
  refine lv_aload_n (pc := 38) hx hb dX3_init_38 rfl (lv_at hl 0 rfl) ?_
  refine lv_iconst (pc := 39) (v := 0) hx hb dX3_init_39 (by decide) ?_
  refine xc_putf (pc := 40) (Cn := RX3) (T := TX3) (N := 7) C hX tyX3 tyX3_ok nmX3 0 rfl rfl miX3_init_X3 6 (by decide) mmX3_init_11 rfl rfl (Nat.le_of_ble_eq_true rfl) [(h0, .inr (3, [.ref q1, .int 0, .int 0, .int 0, .int 0, .int 0, .int 0])), (q1, .inl (cB, 160, .inl (fun _ => 0)))] rfl dX3_init_40 (fun H locs hX => ?_)
  exact hret (fun k => [q1].getD k 0) _ _ _ _ (x_perm (isT := [0, 1]) hX rfl rfl) dX3_init_43
