theorem mmX5_hang_1 : Cond.constantLong RX5 157 (3) ∈ wsX5_hang := List.mem_of_getElem? (i := 1) rfl
theorem mmX5_hang_2 : Cond.constantLong RX5 159 (9) ∈ wsX5_hang := List.mem_of_getElem? (i := 2) rfl
theorem mmX5_hang_3 : Cond.fieldLink RX5 7 "SlackArmsModel" "state" "[I" ∈ wsX5_hang := List.mem_of_getElem? (i := 3) rfl
theorem miX5_hang_X5 : ∀ w ∈ u_ws RX5 TX5 24, w ∈ wsX5_hang := fun w h => List.mem_cons_of_mem _ (List.mem_append_right _ h)
set_option maxHeartbeats 4000000 in
set_option maxRecDepth 100000 in
theorem kX5_hang (ad : xAd) (l : Launch) (D : va_G) (cI cB cZ cG cS : ClassId) (h0 h_state h_readPage h_tape h_ends h_letters h_seen h_lastBy h_isKept h_lanes h_lengths h_cells : Nat) (taped : Int32) (fault : Int32) (broken : Int32) (brokenAt : Int32) (spot : Int32) (here : Int32) (token : Int32) (value : Int32) (moved : Int32) (turned : Int32) (worst : Int32) (seenMany : Int32) (torn : Int32) (state : (Nat → Int32)) (r0 : Int32) (o_state' : (Nat → Int32)) (p1 : Int32) (p2 : Int32) (hf : fX5_hang p1 p2 state = some (r0, o_state')) : xMi ad l yX5_hang wsX5_hang ({ frames := 1, cells := 0, slots := 0, locals := 25 } : Room) D (xTY cI cB cZ cG cS) [.ref h0, .int p1, .int p2] [(h0, .inr (5, [.ref h_state, .ref h_readPage, .ref h_tape, .int taped, .int fault, .int broken, .int brokenAt, .int spot, .int here, .int token, .int value, .ref h_ends, .ref h_letters, .int moved, .int turned, .int worst, .ref h_seen, .int seenMany, .ref h_lastBy, .ref h_isKept, .ref h_lanes, .ref h_lengths, .ref h_cells, .int torn])), (h_state, .inl (cI, 240, .inl state))] [(h0, .inr (5, [.ref h_state, .ref h_readPage, .ref h_tape, .int taped, .int fault, .int broken, .int brokenAt, .int spot, .int here, .int token, .int value, .ref h_ends, .ref h_letters, .int moved, .int turned, .int worst, .ref h_seen, .int seenMany, .ref h_lastBy, .ref h_isKept, .ref h_lanes, .ref h_lengths, .ref h_cells, .int torn])), (h_state, .inl (cI, 240, .inl o_state'))] r0 := by
  refine xMi_of (cc := cX5_hang) (maxL := 4) (ty := .int) (by decide) rfl (Nat.le_of_ble_eq_true rfl) ?_
  intro p e s m args below meth c A Q ls C hX hl hret
  have hx := C.1.1
  have hb := C.1.2.1
  have hl : lv_has ls 4 [(0, .ref h0), (1, .int p1), (2, .int p2)] := hl
  unfold fX5_hang at hf
  refine lv_iload_n (pc := 0) hx hb dX5_hang_0 rfl (lv_at hl 1 rfl) ?_
  refine lv_i2l (pc := 1) (v := ((p1).toInt64)) hx hb dX5_hang_1 rfl ?_
  refine lv_lconst (pc := 2) (v := 0) hx hb dX5_hang_2 (by decide) ?_
  refine lv_ldc2 (pc := 3) hx hb C.1.2.2.2.1 (C.1.2.2.2.2 _ mmX5_hang_1) dX5_hang_3 ?_
  obtain ⟨r1, g2, hf⟩ := cl1_adv hf
  refine x_callSi (pc := 6) (rest := []) C hX (kX5_in ad l D cI cB cZ cG cS r1 ((p1).toInt64) (0 : Int64) (3 : Int64) g2) (va_cwS 3 C.1.2.2.2.2 gX5_hang_X5_in rfl rfl rfl (by decide +kernel) ⟨Nat.le_of_ble_eq_true rfl, Nat.le_of_ble_eq_true rfl⟩) hl.1 rfl rfl (Nat.le_of_ble_eq_true rfl) dX5_hang_6 (fun H locs hX => ?_)
  refine lv_if_eq (pc := 9) (tgt := 24) hx hb dX5_hang_9 (by decide) (fun c3 => ?_) (fun c3 => ?_)
  · replace hf := ite_t c3 hf
    refine lv_iconst (pc := 24) (v := -1) hx hb dX5_hang_24 (by decide) ?_
    obtain ⟨rfl, rfl⟩ := re2 hf
    exact hret _ _ _ _ _ rfl rfl hX dX5_hang_25
  · replace hf := ite_f c3 hf
    refine lv_iload_n (pc := 12) hx hb dX5_hang_12 rfl (lv_at hl 2 rfl) ?_
    refine lv_i2l (pc := 13) (v := ((p2).toInt64)) hx hb dX5_hang_13 rfl ?_
    refine lv_lconst (pc := 14) (v := 0) hx hb dX5_hang_14 (by decide) ?_
    refine lv_ldc2 (pc := 15) hx hb C.1.2.2.2.1 (C.1.2.2.2.2 _ mmX5_hang_2) dX5_hang_15 ?_
    obtain ⟨r4, g5, hf⟩ := cl1_adv hf
    refine x_callSi (pc := 18) (rest := []) C hX (kX5_in ad l D cI cB cZ cG cS r4 ((p2).toInt64) (0 : Int64) (9 : Int64) g5) (va_cwS 3 C.1.2.2.2.2 gX5_hang_X5_in rfl rfl rfl (by decide +kernel) ⟨Nat.le_of_ble_eq_true rfl, Nat.le_of_ble_eq_true rfl⟩) hl.1 rfl rfl (Nat.le_of_ble_eq_true rfl) dX5_hang_18 (fun H locs hX => ?_)
    refine lv_if_ne (pc := 21) (tgt := 26) hx hb dX5_hang_21 (by decide) (fun c6 => ?_) (fun c6 => ?_)
    · replace hf := ite_f c6 hf
      refine lv_aload_n (pc := 26) hx hb dX5_hang_26 rfl (lv_at hl 0 rfl) ?_
      refine x_getf (pc := 27) (Cn := RX5) (T := TX5) (N := 24) C hX 0 rfl rfl miX5_hang_X5 0 (by decide) mmX5_hang_3 rfl dX5_hang_27 ?_
      refine lv_bipush (pc := 30) (v := 20) hx hb dX5_hang_30 (by decide) ?_
      replace hf := chk_adv hf
      have i7 := hf.1
      replace hf := hf.2
      refine x_iald (pc := 32) C hX 1 0 rfl rfl i7 dX5_hang_32 ?_
      refine lv_topi (fun v8 ev8 => ?_)
      replace hf := bnd_use ev8 hf
      refine lv_istore_n (pc := 33) (lv' := [(3, .int v8), (0, .ref h0), (1, .int p1), (2, .int p2)]) hx hb dX5_hang_33 rfl hl (by decide) rfl (fun ls hl => ?_)
      refine lv_iload_n (pc := 34) hx hb dX5_hang_34 rfl (lv_at hl 0 rfl) ?_
      refine lv_iconst (pc := 35) (v := 4) hx hb dX5_hang_35 (by decide) ?_
      refine lv_icmp_ne (pc := 36) (tgt := 42) hx hb dX5_hang_36 (by decide) (fun c9 => ?_) (fun c9 => ?_)
      · replace hf := ite_f c9 hf
        refine lv_aload_n (pc := 42) hx hb dX5_hang_42 rfl (lv_at hl 1 rfl) ?_
        refine x_getf (pc := 43) (Cn := RX5) (T := TX5) (N := 24) C hX 0 rfl rfl miX5_hang_X5 0 (by decide) mmX5_hang_3 rfl dX5_hang_43 ?_
        refine lv_iload_n (pc := 46) hx hb dX5_hang_46 rfl (lv_at hl 0 rfl) ?_
        refine lv_iload_n (pc := 47) hx hb dX5_hang_47 rfl (lv_at hl 2 rfl) ?_
        replace hf := chk_adv hf
        have i10 := hf.1
        replace hf := hf.2
        obtain ⟨f11, ef11⟩ : ∃ y : Nat → Int32, y = (upd state (v8).toNatClampNeg p1) := ⟨_, rfl⟩
        replace hf := bnd_use ef11 hf
        refine x_iast (pc := 48) C hX 1 0 rfl rfl i10 [(h0, .inr (5, [.ref h_state, .ref h_readPage, .ref h_tape, .int taped, .int fault, .int broken, .int brokenAt, .int spot, .int here, .int token, .int value, .ref h_ends, .ref h_letters, .int moved, .int turned, .int worst, .ref h_seen, .int seenMany, .ref h_lastBy, .ref h_isKept, .ref h_lanes, .ref h_lengths, .ref h_cells, .int torn])), (h_state, .inl (cI, 240, .inl f11))] (by subst ef11; rfl) dX5_hang_48 (fun H locs hX => ?_)
        refine lv_aload_n (pc := 49) hx hb dX5_hang_49 rfl (lv_at hl 1 rfl) ?_
        refine x_getf (pc := 50) (Cn := RX5) (T := TX5) (N := 24) C hX 0 rfl rfl miX5_hang_X5 0 (by decide) mmX5_hang_3 rfl dX5_hang_50 ?_
        refine lv_iconst (pc := 53) (v := 4) hx hb dX5_hang_53 (by decide) ?_
        refine lv_iload_n (pc := 54) hx hb dX5_hang_54 rfl (lv_at hl 0 rfl) ?_
        refine lv_iadd (pc := 55) hx hb dX5_hang_55 ?_
        refine lv_iload_n (pc := 56) hx hb dX5_hang_56 rfl (lv_at hl 3 rfl) ?_
        replace hf := chk_adv hf
        have i12 := hf.1
        replace hf := hf.2
        obtain ⟨f13, ef13⟩ : ∃ y : Nat → Int32, y = (upd f11 (((4 : Int32) + v8)).toNatClampNeg p2) := ⟨_, rfl⟩
        replace hf := bnd_use ef13 hf
        refine x_iast (pc := 57) C hX 1 0 rfl rfl i12 [(h0, .inr (5, [.ref h_state, .ref h_readPage, .ref h_tape, .int taped, .int fault, .int broken, .int brokenAt, .int spot, .int here, .int token, .int value, .ref h_ends, .ref h_letters, .int moved, .int turned, .int worst, .ref h_seen, .int seenMany, .ref h_lastBy, .ref h_isKept, .ref h_lanes, .ref h_lengths, .ref h_cells, .int torn])), (h_state, .inl (cI, 240, .inl f13))] (by subst ef13; rfl) dX5_hang_57 (fun H locs hX => ?_)
        refine lv_aload_n (pc := 58) hx hb dX5_hang_58 rfl (lv_at hl 1 rfl) ?_
        refine x_getf (pc := 59) (Cn := RX5) (T := TX5) (N := 24) C hX 0 rfl rfl miX5_hang_X5 0 (by decide) mmX5_hang_3 rfl dX5_hang_59 ?_
        refine lv_bipush (pc := 62) (v := 8) hx hb dX5_hang_62 (by decide) ?_
        refine lv_iload_n (pc := 64) hx hb dX5_hang_64 rfl (lv_at hl 0 rfl) ?_
        refine lv_iadd (pc := 65) hx hb dX5_hang_65 ?_
        refine lv_aload_n (pc := 66) hx hb dX5_hang_66 rfl (lv_at hl 1 rfl) ?_
        refine lv_iconst (pc := 67) (v := 0) hx hb dX5_hang_67 (by decide) ?_
        refine lv_iload_n (pc := 68) hx hb dX5_hang_68 rfl (lv_at hl 0 rfl) ?_
        obtain ⟨r14, g15, hf⟩ := cl1_adv hf
        refine x_callVi (pc := 69) (rest := [.int ((8 : Int32) + v8), .ref h_state]) (w2 := [(h0, .inr (5, [.ref h_state, .ref h_readPage, .ref h_tape, .int taped, .int fault, .int broken, .int brokenAt, .int spot, .int here, .int token, .int value, .ref h_ends, .ref h_letters, .int moved, .int turned, .int worst, .ref h_seen, .int seenMany, .ref h_lastBy, .ref h_isKept, .ref h_lanes, .ref h_lengths, .ref h_cells, .int torn])), (h_state, .inl (cI, 240, .inl f13))]) C hX (kX5_leaderOn ad l D cI cB cZ cG cS h0 h_state h_readPage h_tape h_ends h_letters h_seen h_lastBy h_isKept h_lanes h_lengths h_cells taped fault broken brokenAt spot here token value moved turned worst seenMany torn f13 r14 (0 : Int32) v8 g15) (cwV 2 C.1.2.2.2.2 gX5_hang_X5_leaderOn rfl rfl rfl (by decide +kernel) ⟨Nat.le_of_ble_eq_true rfl, Nat.le_of_ble_eq_true rfl⟩) [0, 1] [] [0, 1] rfl rfl rfl rfl (by decide) rfl rfl 0 rfl rfl rfl hl.1 rfl rfl (Nat.le_of_ble_eq_true rfl) dX5_hang_69 (fun H locs hX => ?_)
        replace hf := chk_adv hf
        have i16 := hf.1
        replace hf := hf.2
        obtain ⟨f17, ef17⟩ : ∃ y : Nat → Int32, y = (upd f13 (((8 : Int32) + v8)).toNatClampNeg r14) := ⟨_, rfl⟩
        replace hf := bnd_use ef17 hf
        refine x_iast (pc := 72) C hX 1 0 rfl rfl i16 [(h0, .inr (5, [.ref h_state, .ref h_readPage, .ref h_tape, .int taped, .int fault, .int broken, .int brokenAt, .int spot, .int here, .int token, .int value, .ref h_ends, .ref h_letters, .int moved, .int turned, .int worst, .ref h_seen, .int seenMany, .ref h_lastBy, .ref h_isKept, .ref h_lanes, .ref h_lengths, .ref h_cells, .int torn])), (h_state, .inl (cI, 240, .inl f17))] (by subst ef17; rfl) dX5_hang_72 (fun H locs hX => ?_)
        refine lv_aload_n (pc := 73) hx hb dX5_hang_73 rfl (lv_at hl 1 rfl) ?_
        refine x_getf (pc := 74) (Cn := RX5) (T := TX5) (N := 24) C hX 0 rfl rfl miX5_hang_X5 0 (by decide) mmX5_hang_3 rfl dX5_hang_74 ?_
        refine lv_bipush (pc := 77) (v := 12) hx hb dX5_hang_77 (by decide) ?_
        refine lv_iload_n (pc := 79) hx hb dX5_hang_79 rfl (lv_at hl 0 rfl) ?_
        refine lv_iadd (pc := 80) hx hb dX5_hang_80 ?_
        refine lv_iconst (pc := 81) (v := 0) hx hb dX5_hang_81 (by decide) ?_
        replace hf := chk_adv hf
        have i18 := hf.1
        replace hf := hf.2
        obtain ⟨f19, ef19⟩ : ∃ y : Nat → Int32, y = (upd f17 (((12 : Int32) + v8)).toNatClampNeg (0 : Int32)) := ⟨_, rfl⟩
        replace hf := bnd_use ef19 hf
        refine x_iast (pc := 82) C hX 1 0 rfl rfl i18 [(h0, .inr (5, [.ref h_state, .ref h_readPage, .ref h_tape, .int taped, .int fault, .int broken, .int brokenAt, .int spot, .int here, .int token, .int value, .ref h_ends, .ref h_letters, .int moved, .int turned, .int worst, .ref h_seen, .int seenMany, .ref h_lastBy, .ref h_isKept, .ref h_lanes, .ref h_lengths, .ref h_cells, .int torn])), (h_state, .inl (cI, 240, .inl f19))] (by subst ef19; rfl) dX5_hang_82 (fun H locs hX => ?_)
        refine lv_aload_n (pc := 83) hx hb dX5_hang_83 rfl (lv_at hl 1 rfl) ?_
        refine x_getf (pc := 84) (Cn := RX5) (T := TX5) (N := 24) C hX 0 rfl rfl miX5_hang_X5 0 (by decide) mmX5_hang_3 rfl dX5_hang_84 ?_
        refine lv_bipush (pc := 87) (v := 16) hx hb dX5_hang_87 (by decide) ?_
        refine lv_iload_n (pc := 89) hx hb dX5_hang_89 rfl (lv_at hl 0 rfl) ?_
        refine lv_iadd (pc := 90) hx hb dX5_hang_90 ?_
        refine lv_iconst (pc := 91) (v := 0) hx hb dX5_hang_91 (by decide) ?_
        replace hf := chk_adv hf
        have i20 := hf.1
        replace hf := hf.2
        obtain ⟨f21, ef21⟩ : ∃ y : Nat → Int32, y = (upd f19 (((16 : Int32) + v8)).toNatClampNeg (0 : Int32)) := ⟨_, rfl⟩
        replace hf := bnd_use ef21 hf
        refine x_iast (pc := 92) C hX 1 0 rfl rfl i20 [(h0, .inr (5, [.ref h_state, .ref h_readPage, .ref h_tape, .int taped, .int fault, .int broken, .int brokenAt, .int spot, .int here, .int token, .int value, .ref h_ends, .ref h_letters, .int moved, .int turned, .int worst, .ref h_seen, .int seenMany, .ref h_lastBy, .ref h_isKept, .ref h_lanes, .ref h_lengths, .ref h_cells, .int torn])), (h_state, .inl (cI, 240, .inl f21))] (by subst ef21; rfl) dX5_hang_92 (fun H locs hX => ?_)
        refine lv_aload_n (pc := 93) hx hb dX5_hang_93 rfl (lv_at hl 1 rfl) ?_
        refine x_getf (pc := 94) (Cn := RX5) (T := TX5) (N := 24) C hX 0 rfl rfl miX5_hang_X5 0 (by decide) mmX5_hang_3 rfl dX5_hang_94 ?_
        refine lv_bipush (pc := 97) (v := 20) hx hb dX5_hang_97 (by decide) ?_
        refine lv_dup2_11 (pc := 99) hx hb dX5_hang_99 rfl rfl ?_
        replace hf := chk_adv hf
        have i22 := hf.1
        replace hf := hf.2
        refine x_iald (pc := 100) C hX 1 0 rfl rfl i22 dX5_hang_100 ?_
        refine lv_iconst (pc := 101) (v := 1) hx hb dX5_hang_101 (by decide) ?_
        refine lv_iadd (pc := 102) hx hb dX5_hang_102 ?_
        refine lv_topi (fun v23 ev23 => ?_)
        replace hf := bnd_use ev23 hf
        replace hf := chk_adv hf
        have i24 := hf.1
        replace hf := hf.2
        obtain ⟨f25, ef25⟩ : ∃ y : Nat → Int32, y = (upd f21 ((20 : Int32)).toNatClampNeg v23) := ⟨_, rfl⟩
        replace hf := bnd_use ef25 hf
        refine x_iast (pc := 103) C hX 1 0 rfl rfl i24 [(h0, .inr (5, [.ref h_state, .ref h_readPage, .ref h_tape, .int taped, .int fault, .int broken, .int brokenAt, .int spot, .int here, .int token, .int value, .ref h_ends, .ref h_letters, .int moved, .int turned, .int worst, .ref h_seen, .int seenMany, .ref h_lastBy, .ref h_isKept, .ref h_lanes, .ref h_lengths, .ref h_cells, .int torn])), (h_state, .inl (cI, 240, .inl f25))] (by subst ef25; rfl) dX5_hang_103 (fun H locs hX => ?_)
        refine lv_aload_n (pc := 104) hx hb dX5_hang_104 rfl (lv_at hl 1 rfl) ?_
        refine x_getf (pc := 105) (Cn := RX5) (T := TX5) (N := 24) C hX 0 rfl rfl miX5_hang_X5 0 (by decide) mmX5_hang_3 rfl dX5_hang_105 ?_
        refine lv_bipush (pc := 108) (v := 20) hx hb dX5_hang_108 (by decide) ?_
        replace hf := chk_adv hf
        have i26 := hf.1
        replace hf := hf.2
        refine x_iald (pc := 110) C hX 1 0 rfl rfl i26 dX5_hang_110 ?_
        obtain ⟨rfl, rfl⟩ := re2 hf
        exact hret _ _ _ _ _ rfl rfl hX dX5_hang_111
      · replace hf := ite_t c9 hf
        refine lv_bipush (pc := 39) (v := -3) hx hb dX5_hang_39 (by decide) ?_
        obtain ⟨rfl, rfl⟩ := re2 hf
        exact hret _ _ _ _ _ rfl rfl hX dX5_hang_41
    · replace hf := ite_t c6 hf
      refine lv_iconst (pc := 24) (v := -1) hx hb dX5_hang_24 (by decide) ?_
      obtain ⟨rfl, rfl⟩ := re2 hf
      exact hret _ _ _ _ _ rfl rfl hX dX5_hang_25
theorem mmX5_cut_1 : Cond.fieldLink RX5 7 "SlackArmsModel" "state" "[I" ∈ wsX5_cut := List.mem_of_getElem? (i := 1) rfl
theorem miX5_cut_X5 : ∀ w ∈ u_ws RX5 TX5 24, w ∈ wsX5_cut := fun w h => List.mem_cons_of_mem _ (List.mem_append_right _ h)
set_option maxHeartbeats 4000000 in
set_option maxRecDepth 100000 in
theorem kX5_cut (ad : xAd) (l : Launch) (D : va_G) (cI cB cZ cG cS : ClassId) (h0 h_state h_readPage h_tape h_ends h_letters h_seen h_lastBy h_isKept h_lanes h_lengths h_cells : Nat) (taped : Int32) (fault : Int32) (broken : Int32) (brokenAt : Int32) (spot : Int32) (here : Int32) (token : Int32) (value : Int32) (moved : Int32) (turned : Int32) (worst : Int32) (seenMany : Int32) (torn : Int32) (state : (Nat → Int32)) (r0 : Int32) (o_state' : (Nat → Int32)) (p1 : Int32) (hf : fX5_cut p1 state = some (r0, o_state')) : xMi ad l yX5_cut wsX5_cut ({ frames := 1, cells := 0, slots := 0, locals := 25 } : Room) D (xTY cI cB cZ cG cS) [.ref h0, .int p1] [(h0, .inr (5, [.ref h_state, .ref h_readPage, .ref h_tape, .int taped, .int fault, .int broken, .int brokenAt, .int spot, .int here, .int token, .int value, .ref h_ends, .ref h_letters, .int moved, .int turned, .int worst, .ref h_seen, .int seenMany, .ref h_lastBy, .ref h_isKept, .ref h_lanes, .ref h_lengths, .ref h_cells, .int torn])), (h_state, .inl (cI, 240, .inl state))] [(h0, .inr (5, [.ref h_state, .ref h_readPage, .ref h_tape, .int taped, .int fault, .int broken, .int brokenAt, .int spot, .int here, .int token, .int value, .ref h_ends, .ref h_letters, .int moved, .int turned, .int worst, .ref h_seen, .int seenMany, .ref h_lastBy, .ref h_isKept, .ref h_lanes, .ref h_lengths, .ref h_cells, .int torn])), (h_state, .inl (cI, 240, .inl o_state'))] r0 := by
  refine xMi_of (cc := cX5_cut) (maxL := 2) (ty := .int) (by decide) rfl (Nat.le_of_ble_eq_true rfl) ?_
  intro p e s m args below meth c A Q ls C hX hl hret
  have hx := C.1.1
  have hb := C.1.2.1
  have hl : lv_has ls 2 [(0, .ref h0), (1, .int p1)] := hl
  unfold fX5_cut at hf
  refine lv_aload_n (pc := 0) hx hb dX5_cut_0 rfl (lv_at hl 0 rfl) ?_
  refine lv_iload_n (pc := 1) hx hb dX5_cut_1 rfl (lv_at hl 1 rfl) ?_
  refine lv_i2l (pc := 2) (v := ((p1).toInt64)) hx hb dX5_cut_2 rfl ?_
  refine lv_lconst (pc := 3) (v := 0) hx hb dX5_cut_3 (by decide) ?_
  refine lv_aload_n (pc := 4) hx hb dX5_cut_4 rfl (lv_at hl 0 rfl) ?_
  refine x_getf (pc := 5) (Cn := RX5) (T := TX5) (N := 24) C hX 0 rfl rfl miX5_cut_X5 0 (by decide) mmX5_cut_1 rfl dX5_cut_5 ?_
  refine lv_bipush (pc := 8) (v := 20) hx hb dX5_cut_8 (by decide) ?_
  replace hf := chk_adv hf
  have i1 := hf.1
  replace hf := hf.2
  refine x_iald (pc := 10) C hX 1 0 rfl rfl i1 dX5_cut_10 ?_
  refine lv_i2l (pc := 11) (v := (((state ((20 : Int32)).toNatClampNeg)).toInt64)) hx hb dX5_cut_11 rfl ?_
  obtain ⟨r2, g3, hf⟩ := cl1_adv hf
  refine x_callSi (pc := 12) (rest := [.ref h0]) C hX (kX5_in ad l D cI cB cZ cG cS r2 ((p1).toInt64) (0 : Int64) (((state ((20 : Int32)).toNatClampNeg)).toInt64) g3) (va_cwS 3 C.1.2.2.2.2 gX5_cut_X5_in rfl rfl rfl (by decide +kernel) ⟨Nat.le_of_ble_eq_true rfl, Nat.le_of_ble_eq_true rfl⟩) hl.1 rfl rfl (Nat.le_of_ble_eq_true rfl) dX5_cut_12 (fun H locs hX => ?_)
  refine lv_bipush (pc := 15) (v := 20) hx hb dX5_cut_15 (by decide) ?_
  refine lv_iload_n (pc := 17) hx hb dX5_cut_17 rfl (lv_at hl 1 rfl) ?_
  refine lv_iconst (pc := 18) (v := 0) hx hb dX5_cut_18 (by decide) ?_
  obtain ⟨r4, u5, g6, hf⟩ := cl2_adv hf
  refine x_callVi (pc := 19) (rest := []) (w2 := [(h0, .inr (5, [.ref h_state, .ref h_readPage, .ref h_tape, .int taped, .int fault, .int broken, .int brokenAt, .int spot, .int here, .int token, .int value, .ref h_ends, .ref h_letters, .int moved, .int turned, .int worst, .ref h_seen, .int seenMany, .ref h_lastBy, .ref h_isKept, .ref h_lanes, .ref h_lengths, .ref h_cells, .int torn])), (h_state, .inl (cI, 240, .inl u5))]) C hX (kX5_puts ad l D cI cB cZ cG cS h0 h_state h_readPage h_tape h_ends h_letters h_seen h_lastBy h_isKept h_lanes h_lengths h_cells taped fault broken brokenAt spot here token value moved turned worst seenMany torn state r4 u5 r2 (20 : Int32) p1 (0 : Int32) g6) (cwV 4 C.1.2.2.2.2 gX5_cut_X5_puts rfl rfl rfl (by decide +kernel) ⟨Nat.le_of_ble_eq_true rfl, Nat.le_of_ble_eq_true rfl⟩) [0, 1] [] [0, 1] rfl rfl rfl rfl (by decide) rfl rfl 0 rfl rfl rfl hl.1 rfl rfl (Nat.le_of_ble_eq_true rfl) dX5_cut_19 (fun H locs hX => ?_)
  obtain ⟨rfl, rfl⟩ := re2 hf
  exact hret _ _ _ _ _ rfl rfl hX dX5_cut_22
theorem mmX5_set_1 : Cond.constantLong RX5 165 (18) ∈ wsX5_set := List.mem_of_getElem? (i := 1) rfl
set_option maxHeartbeats 4000000 in
set_option maxRecDepth 100000 in
theorem kX5_set (ad : xAd) (l : Launch) (D : va_G) (cI cB cZ cG cS : ClassId) (h0 h_state h_readPage h_tape h_ends h_letters h_seen h_lastBy h_isKept h_lanes h_lengths h_cells : Nat) (taped : Int32) (fault : Int32) (broken : Int32) (brokenAt : Int32) (spot : Int32) (here : Int32) (token : Int32) (value : Int32) (moved : Int32) (turned : Int32) (worst : Int32) (seenMany : Int32) (torn : Int32) (state : (Nat → Int32)) (r0 : Int32) (o_state' : (Nat → Int32)) (p1 : Int32) (p2 : Int32) (hf : fX5_set p1 p2 state = some (r0, o_state')) : xMi ad l yX5_set wsX5_set ({ frames := 2, cells := 0, slots := 0, locals := 46 } : Room) D (xTY cI cB cZ cG cS) [.ref h0, .int p1, .int p2] [(h0, .inr (5, [.ref h_state, .ref h_readPage, .ref h_tape, .int taped, .int fault, .int broken, .int brokenAt, .int spot, .int here, .int token, .int value, .ref h_ends, .ref h_letters, .int moved, .int turned, .int worst, .ref h_seen, .int seenMany, .ref h_lastBy, .ref h_isKept, .ref h_lanes, .ref h_lengths, .ref h_cells, .int torn])), (h_state, .inl (cI, 240, .inl state))] [(h0, .inr (5, [.ref h_state, .ref h_readPage, .ref h_tape, .int taped, .int fault, .int broken, .int brokenAt, .int spot, .int here, .int token, .int value, .ref h_ends, .ref h_letters, .int moved, .int turned, .int worst, .ref h_seen, .int seenMany, .ref h_lastBy, .ref h_isKept, .ref h_lanes, .ref h_lengths, .ref h_cells, .int torn])), (h_state, .inl (cI, 240, .inl o_state'))] r0 := by
  refine xMi_of (cc := cX5_set) (maxL := 3) (ty := .int) (by decide) rfl (Nat.le_of_ble_eq_true rfl) ?_
  intro p e s m args below meth c A Q ls C hX hl hret
  have hx := C.1.1
  have hb := C.1.2.1
  have hl : lv_has ls 3 [(0, .ref h0), (1, .int p1), (2, .int p2)] := hl
  have L26 : ∀ (x1 : Int32) (x2 : Int32) (y0 : Int32) (state : (Nat → Int32)) (H : Heap) (locs : List Loc) (ls : Array Slot), fX5_set_L26  x1 x2 y0 state = some (r0, o_state') → xSt A s D [(h0, .inr (5, [.ref h_state, .ref h_readPage, .ref h_tape, .int taped, .int fault, .int broken, .int brokenAt, .int spot, .int here, .int token, .int value, .ref h_ends, .ref h_letters, .int moved, .int turned, .int worst, .ref h_seen, .int seenMany, .ref h_lastBy, .ref h_isKept, .ref h_lanes, .ref h_lengths, .ref h_cells, .int torn])), (h_state, .inl (cI, 240, .inl state))] H locs → lv_has ls 3 [(1, .int x1), (2, .int x2)] → W p l e ({ frames := 2, cells := 0, slots := 0, locals := 46 } : Room) s m args below meth c H locs 0 0 Q (F0 m 26 ls [.int y0, .ref h0]) := by
    intro  x1 x2 y0 state H locs ls hf hX hl
    unfold fX5_set_L26 at hf
    refine lv_bipush (pc := 26) (v := 21) hx hb dX5_set_26 (by decide) ?_
    refine lv_iload_n (pc := 28) hx hb dX5_set_28 rfl (lv_at hl 0 rfl) ?_
    refine lv_iadd (pc := 29) hx hb dX5_set_29 ?_
    refine lv_iload_n (pc := 30) hx hb dX5_set_30 rfl (lv_at hl 1 rfl) ?_
    refine lv_bipush (pc := 31) (v := 9) hx hb dX5_set_31 (by decide) ?_
    obtain ⟨r4, u5, g6, hf⟩ := cl2_adv hf
    refine x_callVi (pc := 33) (rest := []) (w2 := [(h0, .inr (5, [.ref h_state, .ref h_readPage, .ref h_tape, .int taped, .int fault, .int broken, .int brokenAt, .int spot, .int here, .int token, .int value, .ref h_ends, .ref h_letters, .int moved, .int turned, .int worst, .ref h_seen, .int seenMany, .ref h_lastBy, .ref h_isKept, .ref h_lanes, .ref h_lengths, .ref h_cells, .int torn])), (h_state, .inl (cI, 240, .inl u5))]) C hX (kX5_puts ad l D cI cB cZ cG cS h0 h_state h_readPage h_tape h_ends h_letters h_seen h_lastBy h_isKept h_lanes h_lengths h_cells taped fault broken brokenAt spot here token value moved turned worst seenMany torn state r4 u5 y0 ((21 : Int32) + x1) x2 (9 : Int32) g6) (cwV 4 C.1.2.2.2.2 gX5_set_X5_puts rfl rfl rfl (by decide +kernel) ⟨Nat.le_of_ble_eq_true rfl, Nat.le_of_ble_eq_true rfl⟩) [0, 1] [] [0, 1] rfl rfl rfl rfl (by decide) rfl rfl 0 rfl rfl rfl hl.1 rfl rfl (Nat.le_of_ble_eq_true rfl) dX5_set_33 (fun H locs hX => ?_)
    obtain ⟨rfl, rfl⟩ := re2 hf
    exact hret _ _ _ _ _ rfl rfl hX dX5_set_36
  have L25 : ∀ (x1 : Int32) (x2 : Int32) (state : (Nat → Int32)) (H : Heap) (locs : List Loc) (ls : Array Slot), fX5_set_L25  x1 x2 state = some (r0, o_state') → xSt A s D [(h0, .inr (5, [.ref h_state, .ref h_readPage, .ref h_tape, .int taped, .int fault, .int broken, .int brokenAt, .int spot, .int here, .int token, .int value, .ref h_ends, .ref h_letters, .int moved, .int turned, .int worst, .ref h_seen, .int seenMany, .ref h_lastBy, .ref h_isKept, .ref h_lanes, .ref h_lengths, .ref h_cells, .int torn])), (h_state, .inl (cI, 240, .inl state))] H locs → lv_has ls 3 [(1, .int x1), (2, .int x2)] → W p l e ({ frames := 2, cells := 0, slots := 0, locals := 46 } : Room) s m args below meth c H locs 0 0 Q (F0 m 25 ls [.ref h0]) := by
    intro  x1 x2 state H locs ls hf hX hl
    unfold fX5_set_L25 at hf
    refine lv_iconst (pc := 25) (v := 0) hx hb dX5_set_25 (by decide) ?_
    exact L26  x1 x2 (0 : Int32) state _ _ _ hf hX (lv_sub hl [0, 1] rfl)
  unfold fX5_set at hf
  refine lv_aload_n (pc := 0) hx hb dX5_set_0 rfl (lv_at hl 0 rfl) ?_
  refine lv_aload_n (pc := 1) hx hb dX5_set_1 rfl (lv_at hl 0 rfl) ?_
  refine lv_iload_n (pc := 2) hx hb dX5_set_2 rfl (lv_at hl 1 rfl) ?_
  obtain ⟨r1, g2, hf⟩ := cl1_adv hf
  refine x_callVi (pc := 3) (rest := [.ref h0]) (w2 := [(h0, .inr (5, [.ref h_state, .ref h_readPage, .ref h_tape, .int taped, .int fault, .int broken, .int brokenAt, .int spot, .int here, .int token, .int value, .ref h_ends, .ref h_letters, .int moved, .int turned, .int worst, .ref h_seen, .int seenMany, .ref h_lastBy, .ref h_isKept, .ref h_lanes, .ref h_lengths, .ref h_cells, .int torn])), (h_state, .inl (cI, 240, .inl state))]) C hX (kX5_isStroke ad l D cI cB cZ cG cS h0 h_state h_readPage h_tape h_ends h_letters h_seen h_lastBy h_isKept h_lanes h_lengths h_cells taped fault broken brokenAt spot here token value moved turned worst seenMany torn state r1 p1 g2) (cwV 1 C.1.2.2.2.2 gX5_set_X5_isStroke rfl rfl rfl (by decide +kernel) ⟨Nat.le_of_ble_eq_true rfl, Nat.le_of_ble_eq_true rfl⟩) [0, 1] [] [0, 1] rfl rfl rfl rfl (by decide) rfl rfl 0 rfl rfl rfl hl.1 rfl rfl (Nat.le_of_ble_eq_true rfl) dX5_set_3 (fun H locs hX => ?_)
  refine lv_if_eq (pc := 6) (tgt := 25) hx hb dX5_set_6 (by decide) (fun c3 => ?_) (fun c3 => ?_)
  · replace hf := ite_t c3 hf
    exact L25  p1 p2 state _ _ _ hf hX (lv_sub hl [1, 2] rfl)
  · replace hf := ite_f c3 hf
    refine lv_iload_n (pc := 9) hx hb dX5_set_9 rfl (lv_at hl 2 rfl) ?_
    refine lv_i2l (pc := 10) (v := ((p2).toInt64)) hx hb dX5_set_10 rfl ?_
    refine lv_lconst (pc := 11) (v := 0) hx hb dX5_set_11 (by decide) ?_
    refine lv_ldc2 (pc := 12) hx hb C.1.2.2.2.1 (C.1.2.2.2.2 _ mmX5_set_1) dX5_set_12 ?_
    obtain ⟨r7, g8, hf⟩ := cl1_adv hf
    refine x_callSi (pc := 15) (rest := [.ref h0]) C hX (kX5_in ad l D cI cB cZ cG cS r7 ((p2).toInt64) (0 : Int64) (18 : Int64) g8) (va_cwS 3 C.1.2.2.2.2 gX5_set_X5_in rfl rfl rfl (by decide +kernel) ⟨Nat.le_of_ble_eq_true rfl, Nat.le_of_ble_eq_true rfl⟩) hl.1 rfl rfl (Nat.le_of_ble_eq_true rfl) dX5_set_15 (fun H locs hX => ?_)
    refine lv_if_eq (pc := 18) (tgt := 25) hx hb dX5_set_18 (by decide) (fun c9 => ?_) (fun c9 => ?_)
    · replace hf := ite_t c9 hf
      exact L25  p1 p2 state _ _ _ hf hX (lv_sub hl [1, 2] rfl)
    · replace hf := ite_f c9 hf
      refine lv_iconst (pc := 21) (v := 1) hx hb dX5_set_21 (by decide) ?_
      refine lv_goto (pc := 22) (tgt := 26) hx hb dX5_set_22 (by decide) ?_
      exact L26  p1 p2 (1 : Int32) state _ _ _ hf hX (lv_sub hl [1, 2] rfl)
theorem mmX5_adds_1 : Cond.constantLong RX5 165 (18) ∈ wsX5_adds := List.mem_of_getElem? (i := 1) rfl
theorem mmX5_adds_2 : Cond.fieldLink RX5 7 "SlackArmsModel" "state" "[I" ∈ wsX5_adds := List.mem_of_getElem? (i := 2) rfl
theorem miX5_adds_X5 : ∀ w ∈ u_ws RX5 TX5 24, w ∈ wsX5_adds := fun w h => List.mem_cons_of_mem _ (List.mem_append_right _ h)
set_option maxHeartbeats 4000000 in
set_option maxRecDepth 100000 in
theorem kX5_adds (ad : xAd) (l : Launch) (D : va_G) (cI cB cZ cG cS : ClassId) (h0 h_state h_readPage h_tape h_ends h_letters h_seen h_lastBy h_isKept h_lanes h_lengths h_cells : Nat) (taped : Int32) (fault : Int32) (broken : Int32) (brokenAt : Int32) (spot : Int32) (here : Int32) (token : Int32) (value : Int32) (moved : Int32) (turned : Int32) (worst : Int32) (seenMany : Int32) (torn : Int32) (state : (Nat → Int32)) (r0 : Int32) (o_state' : (Nat → Int32)) (p1 : Int32) (hf : fX5_adds p1 state = some (r0, o_state')) : xMi ad l yX5_adds wsX5_adds ({ frames := 1, cells := 0, slots := 0, locals := 25 } : Room) D (xTY cI cB cZ cG cS) [.ref h0, .int p1] [(h0, .inr (5, [.ref h_state, .ref h_readPage, .ref h_tape, .int taped, .int fault, .int broken, .int brokenAt, .int spot, .int here, .int token, .int value, .ref h_ends, .ref h_letters, .int moved, .int turned, .int worst, .ref h_seen, .int seenMany, .ref h_lastBy, .ref h_isKept, .ref h_lanes, .ref h_lengths, .ref h_cells, .int torn])), (h_state, .inl (cI, 240, .inl state))] [(h0, .inr (5, [.ref h_state, .ref h_readPage, .ref h_tape, .int taped, .int fault, .int broken, .int brokenAt, .int spot, .int here, .int token, .int value, .ref h_ends, .ref h_letters, .int moved, .int turned, .int worst, .ref h_seen, .int seenMany, .ref h_lastBy, .ref h_isKept, .ref h_lanes, .ref h_lengths, .ref h_cells, .int torn])), (h_state, .inl (cI, 240, .inl o_state'))] r0 := by
  refine xMi_of (cc := cX5_adds) (maxL := 2) (ty := .int) (by decide) rfl (Nat.le_of_ble_eq_true rfl) ?_
  intro p e s m args below meth c A Q ls C hX hl hret
  have hx := C.1.1
  have hb := C.1.2.1
  have hl : lv_has ls 2 [(0, .ref h0), (1, .int p1)] := hl
  unfold fX5_adds at hf
  refine lv_iload_n (pc := 0) hx hb dX5_adds_0 rfl (lv_at hl 1 rfl) ?_
  refine lv_i2l (pc := 1) (v := ((p1).toInt64)) hx hb dX5_adds_1 rfl ?_
  refine lv_lconst (pc := 2) (v := 0) hx hb dX5_adds_2 (by decide) ?_
  refine lv_ldc2 (pc := 3) hx hb C.1.2.2.2.1 (C.1.2.2.2.2 _ mmX5_adds_1) dX5_adds_3 ?_
  obtain ⟨r1, g2, hf⟩ := cl1_adv hf
  refine x_callSi (pc := 6) (rest := []) C hX (kX5_in ad l D cI cB cZ cG cS r1 ((p1).toInt64) (0 : Int64) (18 : Int64) g2) (va_cwS 3 C.1.2.2.2.2 gX5_adds_X5_in rfl rfl rfl (by decide +kernel) ⟨Nat.le_of_ble_eq_true rfl, Nat.le_of_ble_eq_true rfl⟩) hl.1 rfl rfl (Nat.le_of_ble_eq_true rfl) dX5_adds_6 (fun H locs hX => ?_)
  refine lv_if_ne (pc := 9) (tgt := 14) hx hb dX5_adds_9 (by decide) (fun c3 => ?_) (fun c3 => ?_)
  · replace hf := ite_f c3 hf
    refine lv_aload_n (pc := 14) hx hb dX5_adds_14 rfl (lv_at hl 0 rfl) ?_
    refine x_getf (pc := 15) (Cn := RX5) (T := TX5) (N := 24) C hX 0 rfl rfl miX5_adds_X5 0 (by decide) mmX5_adds_2 rfl dX5_adds_15 ?_
    refine lv_bipush (pc := 18) (v := 37) hx hb dX5_adds_18 (by decide) ?_
    replace hf := chk_adv hf
    have i4 := hf.1
    replace hf := hf.2
    refine x_iald (pc := 20) C hX 1 0 rfl rfl i4 dX5_adds_20 ?_
    refine lv_bipush (pc := 21) (v := 16) hx hb dX5_adds_21 (by decide) ?_
    refine lv_icmp_ne (pc := 23) (tgt := 29) hx hb dX5_adds_23 (by decide) (fun c5 => ?_) (fun c5 => ?_)
    · replace hf := ite_f c5 hf
      refine lv_aload_n (pc := 29) hx hb dX5_adds_29 rfl (lv_at hl 0 rfl) ?_
      refine x_getf (pc := 30) (Cn := RX5) (T := TX5) (N := 24) C hX 0 rfl rfl miX5_adds_X5 0 (by decide) mmX5_adds_2 rfl dX5_adds_30 ?_
      refine lv_bipush (pc := 33) (v := 21) hx hb dX5_adds_33 (by decide) ?_
      refine lv_aload_n (pc := 35) hx hb dX5_adds_35 rfl (lv_at hl 0 rfl) ?_
      refine x_getf (pc := 36) (Cn := RX5) (T := TX5) (N := 24) C hX 0 rfl rfl miX5_adds_X5 0 (by decide) mmX5_adds_2 rfl dX5_adds_36 ?_
      refine lv_bipush (pc := 39) (v := 37) hx hb dX5_adds_39 (by decide) ?_
      replace hf := chk_adv hf
      have i6 := hf.1
      replace hf := hf.2
      refine x_iald (pc := 41) C hX 1 0 rfl rfl i6 dX5_adds_41 ?_
      refine lv_iadd (pc := 42) hx hb dX5_adds_42 ?_
      refine lv_iload_n (pc := 43) hx hb dX5_adds_43 rfl (lv_at hl 1 rfl) ?_
      refine lv_bipush (pc := 44) (v := 9) hx hb dX5_adds_44 (by decide) ?_
      refine lv_isub (pc := 46) hx hb dX5_adds_46 ?_
      refine lv_topi (fun v7 ev7 => ?_)
      replace hf := bnd_use ev7 hf
      replace hf := chk_adv hf
      have i8 := hf.1
      replace hf := hf.2
      obtain ⟨f9, ef9⟩ : ∃ y : Nat → Int32, y = (upd state (((21 : Int32) + (state ((37 : Int32)).toNatClampNeg))).toNatClampNeg v7) := ⟨_, rfl⟩
      replace hf := bnd_use ef9 hf
      refine x_iast (pc := 47) C hX 1 0 rfl rfl i8 [(h0, .inr (5, [.ref h_state, .ref h_readPage, .ref h_tape, .int taped, .int fault, .int broken, .int brokenAt, .int spot, .int here, .int token, .int value, .ref h_ends, .ref h_letters, .int moved, .int turned, .int worst, .ref h_seen, .int seenMany, .ref h_lastBy, .ref h_isKept, .ref h_lanes, .ref h_lengths, .ref h_cells, .int torn])), (h_state, .inl (cI, 240, .inl f9))] (by subst ef9; rfl) dX5_adds_47 (fun H locs hX => ?_)
      refine lv_aload_n (pc := 48) hx hb dX5_adds_48 rfl (lv_at hl 0 rfl) ?_
      refine x_getf (pc := 49) (Cn := RX5) (T := TX5) (N := 24) C hX 0 rfl rfl miX5_adds_X5 0 (by decide) mmX5_adds_2 rfl dX5_adds_49 ?_
      refine lv_bipush (pc := 52) (v := 37) hx hb dX5_adds_52 (by decide) ?_
      refine lv_dup2_11 (pc := 54) hx hb dX5_adds_54 rfl rfl ?_
      replace hf := chk_adv hf
      have i10 := hf.1
      replace hf := hf.2
      refine x_iald (pc := 55) C hX 1 0 rfl rfl i10 dX5_adds_55 ?_
      refine lv_iconst (pc := 56) (v := 1) hx hb dX5_adds_56 (by decide) ?_
      refine lv_iadd (pc := 57) hx hb dX5_adds_57 ?_
      refine lv_topi (fun v11 ev11 => ?_)
      replace hf := bnd_use ev11 hf
      replace hf := chk_adv hf
      have i12 := hf.1
      replace hf := hf.2
      obtain ⟨f13, ef13⟩ : ∃ y : Nat → Int32, y = (upd f9 ((37 : Int32)).toNatClampNeg v11) := ⟨_, rfl⟩
      replace hf := bnd_use ef13 hf
      refine x_iast (pc := 58) C hX 1 0 rfl rfl i12 [(h0, .inr (5, [.ref h_state, .ref h_readPage, .ref h_tape, .int taped, .int fault, .int broken, .int brokenAt, .int spot, .int here, .int token, .int value, .ref h_ends, .ref h_letters, .int moved, .int turned, .int worst, .ref h_seen, .int seenMany, .ref h_lastBy, .ref h_isKept, .ref h_lanes, .ref h_lengths, .ref h_cells, .int torn])), (h_state, .inl (cI, 240, .inl f13))] (by subst ef13; rfl) dX5_adds_58 (fun H locs hX => ?_)
      refine lv_aload_n (pc := 59) hx hb dX5_adds_59 rfl (lv_at hl 0 rfl) ?_
      refine x_getf (pc := 60) (Cn := RX5) (T := TX5) (N := 24) C hX 0 rfl rfl miX5_adds_X5 0 (by decide) mmX5_adds_2 rfl dX5_adds_60 ?_
      refine lv_bipush (pc := 63) (v := 37) hx hb dX5_adds_63 (by decide) ?_
      replace hf := chk_adv hf
      have i14 := hf.1
      replace hf := hf.2
      refine x_iald (pc := 65) C hX 1 0 rfl rfl i14 dX5_adds_65 ?_
      obtain ⟨rfl, rfl⟩ := re2 hf
      exact hret _ _ _ _ _ rfl rfl hX dX5_adds_66
    · replace hf := ite_t c5 hf
      refine lv_bipush (pc := 26) (v := -3) hx hb dX5_adds_26 (by decide) ?_
      obtain ⟨rfl, rfl⟩ := re2 hf
      exact hret _ _ _ _ _ rfl rfl hX dX5_adds_28
  · replace hf := ite_t c3 hf
    refine lv_iconst (pc := 12) (v := -1) hx hb dX5_adds_12 (by decide) ?_
    obtain ⟨rfl, rfl⟩ := re2 hf
    exact hret _ _ _ _ _ rfl rfl hX dX5_adds_13
set_option maxHeartbeats 4000000 in
set_option maxRecDepth 100000 in
theorem kX5_add (ad : xAd) (l : Launch) (D : va_G) (cI cB cZ cG cS : ClassId) (h0 h_state h_readPage h_tape h_ends h_letters h_seen h_lastBy h_isKept h_lanes h_lengths h_cells : Nat) (taped : Int32) (fault : Int32) (broken : Int32) (brokenAt : Int32) (spot : Int32) (here : Int32) (token : Int32) (value : Int32) (moved : Int32) (turned : Int32) (worst : Int32) (seenMany : Int32) (torn : Int32) (state : (Nat → Int32)) (r0 : Int32) (o_state' : (Nat → Int32)) (p1 : Int32) (hf : fX5_add p1 state = some (r0, o_state')) : xMi ad l yX5_add wsX5_add ({ frames := 2, cells := 0, slots := 0, locals := 46 } : Room) D (xTY cI cB cZ cG cS) [.ref h0, .int p1] [(h0, .inr (5, [.ref h_state, .ref h_readPage, .ref h_tape, .int taped, .int fault, .int broken, .int brokenAt, .int spot, .int here, .int token, .int value, .ref h_ends, .ref h_letters, .int moved, .int turned, .int worst, .ref h_seen, .int seenMany, .ref h_lastBy, .ref h_isKept, .ref h_lanes, .ref h_lengths, .ref h_cells, .int torn])), (h_state, .inl (cI, 240, .inl state))] [(h0, .inr (5, [.ref h_state, .ref h_readPage, .ref h_tape, .int taped, .int fault, .int broken, .int brokenAt, .int spot, .int here, .int token, .int value, .ref h_ends, .ref h_letters, .int moved, .int turned, .int worst, .ref h_seen, .int seenMany, .ref h_lastBy, .ref h_isKept, .ref h_lanes, .ref h_lengths, .ref h_cells, .int torn])), (h_state, .inl (cI, 240, .inl o_state'))] r0 := by
  refine xMi_of (cc := cX5_add) (maxL := 2) (ty := .int) (by decide) rfl (Nat.le_of_ble_eq_true rfl) ?_
  intro p e s m args below meth c A Q ls C hX hl hret
  have hx := C.1.1
  have hb := C.1.2.1
  have hl : lv_has ls 2 [(0, .ref h0), (1, .int p1)] := hl
  unfold fX5_add at hf
  refine lv_aload_n (pc := 0) hx hb dX5_add_0 rfl (lv_at hl 0 rfl) ?_
  refine lv_iload_n (pc := 1) hx hb dX5_add_1 rfl (lv_at hl 1 rfl) ?_
  obtain ⟨r1, u2, g3, hf⟩ := cl2_adv hf
  refine x_callVi (pc := 2) (rest := []) (w2 := [(h0, .inr (5, [.ref h_state, .ref h_readPage, .ref h_tape, .int taped, .int fault, .int broken, .int brokenAt, .int spot, .int here, .int token, .int value, .ref h_ends, .ref h_letters, .int moved, .int turned, .int worst, .ref h_seen, .int seenMany, .ref h_lastBy, .ref h_isKept, .ref h_lanes, .ref h_lengths, .ref h_cells, .int torn])), (h_state, .inl (cI, 240, .inl u2))]) C hX (kX5_adds ad l D cI cB cZ cG cS h0 h_state h_readPage h_tape h_ends h_letters h_seen h_lastBy h_isKept h_lanes h_lengths h_cells taped fault broken brokenAt spot here token value moved turned worst seenMany torn state r1 u2 p1 g3) (cwV 1 C.1.2.2.2.2 gX5_add_X5_adds rfl rfl rfl (by decide +kernel) ⟨Nat.le_of_ble_eq_true rfl, Nat.le_of_ble_eq_true rfl⟩) [0, 1] [] [0, 1] rfl rfl rfl rfl (by decide) rfl rfl 0 rfl rfl rfl hl.1 rfl rfl (Nat.le_of_ble_eq_true rfl) dX5_add_2 (fun H locs hX => ?_)
  obtain ⟨rfl, rfl⟩ := re2 hf
  exact hret _ _ _ _ _ rfl rfl hX dX5_add_5
theorem mmX5_drop_1 : Cond.fieldLink RX5 7 "SlackArmsModel" "state" "[I" ∈ wsX5_drop := List.mem_of_getElem? (i := 1) rfl
theorem miX5_drop_X5 : ∀ w ∈ u_ws RX5 TX5 24, w ∈ wsX5_drop := fun w h => List.mem_cons_of_mem _ (List.mem_append_right _ h)
set_option maxHeartbeats 4000000 in
set_option maxRecDepth 100000 in
theorem kX5_drop (ad : xAd) (l : Launch) (D : va_G) (cI cB cZ cG cS : ClassId) (h0 h_state h_readPage h_tape h_ends h_letters h_seen h_lastBy h_isKept h_lanes h_lengths h_cells : Nat) (taped : Int32) (fault : Int32) (broken : Int32) (brokenAt : Int32) (spot : Int32) (here : Int32) (token : Int32) (value : Int32) (moved : Int32) (turned : Int32) (worst : Int32) (seenMany : Int32) (torn : Int32) (state : (Nat → Int32)) (r0 : Int32) (o_state' : (Nat → Int32)) (p1 : Int32) (hf : fX5_drop p1 state = some (r0, o_state')) : xMi ad l yX5_drop wsX5_drop ({ frames := 1, cells := 0, slots := 0, locals := 25 } : Room) D (xTY cI cB cZ cG cS) [.ref h0, .int p1] [(h0, .inr (5, [.ref h_state, .ref h_readPage, .ref h_tape, .int taped, .int fault, .int broken, .int brokenAt, .int spot, .int here, .int token, .int value, .ref h_ends, .ref h_letters, .int moved, .int turned, .int worst, .ref h_seen, .int seenMany, .ref h_lastBy, .ref h_isKept, .ref h_lanes, .ref h_lengths, .ref h_cells, .int torn])), (h_state, .inl (cI, 240, .inl state))] [(h0, .inr (5, [.ref h_state, .ref h_readPage, .ref h_tape, .int taped, .int fault, .int broken, .int brokenAt, .int spot, .int here, .int token, .int value, .ref h_ends, .ref h_letters, .int moved, .int turned, .int worst, .ref h_seen, .int seenMany, .ref h_lastBy, .ref h_isKept, .ref h_lanes, .ref h_lengths, .ref h_cells, .int torn])), (h_state, .inl (cI, 240, .inl o_state'))] r0 := by
  refine xMi_of (cc := cX5_drop) (maxL := 2) (ty := .int) (by decide) rfl (Nat.le_of_ble_eq_true rfl) ?_
  intro p e s m args below meth c A Q ls C hX hl hret
  have hx := C.1.1
  have hb := C.1.2.1
  have hl : lv_has ls 2 [(0, .ref h0), (1, .int p1)] := hl
  unfold fX5_drop at hf
  refine lv_aload_n (pc := 0) hx hb dX5_drop_0 rfl (lv_at hl 0 rfl) ?_
  refine lv_iload_n (pc := 1) hx hb dX5_drop_1 rfl (lv_at hl 1 rfl) ?_
  refine lv_i2l (pc := 2) (v := ((p1).toInt64)) hx hb dX5_drop_2 rfl ?_
  refine lv_lconst (pc := 3) (v := 0) hx hb dX5_drop_3 (by decide) ?_
  refine lv_aload_n (pc := 4) hx hb dX5_drop_4 rfl (lv_at hl 0 rfl) ?_
  refine x_getf (pc := 5) (Cn := RX5) (T := TX5) (N := 24) C hX 0 rfl rfl miX5_drop_X5 0 (by decide) mmX5_drop_1 rfl dX5_drop_5 ?_
  refine lv_bipush (pc := 8) (v := 37) hx hb dX5_drop_8 (by decide) ?_
  replace hf := chk_adv hf
  have i1 := hf.1
  replace hf := hf.2
  refine x_iald (pc := 10) C hX 1 0 rfl rfl i1 dX5_drop_10 ?_
  refine lv_i2l (pc := 11) (v := (((state ((37 : Int32)).toNatClampNeg)).toInt64)) hx hb dX5_drop_11 rfl ?_
  obtain ⟨r2, g3, hf⟩ := cl1_adv hf
  refine x_callSi (pc := 12) (rest := [.ref h0]) C hX (kX5_in ad l D cI cB cZ cG cS r2 ((p1).toInt64) (0 : Int64) (((state ((37 : Int32)).toNatClampNeg)).toInt64) g3) (va_cwS 3 C.1.2.2.2.2 gX5_drop_X5_in rfl rfl rfl (by decide +kernel) ⟨Nat.le_of_ble_eq_true rfl, Nat.le_of_ble_eq_true rfl⟩) hl.1 rfl rfl (Nat.le_of_ble_eq_true rfl) dX5_drop_12 (fun H locs hX => ?_)
  refine lv_bipush (pc := 15) (v := 37) hx hb dX5_drop_15 (by decide) ?_
  refine lv_iload_n (pc := 17) hx hb dX5_drop_17 rfl (lv_at hl 1 rfl) ?_
  refine lv_iconst (pc := 18) (v := 0) hx hb dX5_drop_18 (by decide) ?_
  obtain ⟨r4, u5, g6, hf⟩ := cl2_adv hf
  refine x_callVi (pc := 19) (rest := []) (w2 := [(h0, .inr (5, [.ref h_state, .ref h_readPage, .ref h_tape, .int taped, .int fault, .int broken, .int brokenAt, .int spot, .int here, .int token, .int value, .ref h_ends, .ref h_letters, .int moved, .int turned, .int worst, .ref h_seen, .int seenMany, .ref h_lastBy, .ref h_isKept, .ref h_lanes, .ref h_lengths, .ref h_cells, .int torn])), (h_state, .inl (cI, 240, .inl u5))]) C hX (kX5_puts ad l D cI cB cZ cG cS h0 h_state h_readPage h_tape h_ends h_letters h_seen h_lastBy h_isKept h_lanes h_lengths h_cells taped fault broken brokenAt spot here token value moved turned worst seenMany torn state r4 u5 r2 (37 : Int32) p1 (0 : Int32) g6) (cwV 4 C.1.2.2.2.2 gX5_drop_X5_puts rfl rfl rfl (by decide +kernel) ⟨Nat.le_of_ble_eq_true rfl, Nat.le_of_ble_eq_true rfl⟩) [0, 1] [] [0, 1] rfl rfl rfl rfl (by decide) rfl rfl 0 rfl rfl rfl hl.1 rfl rfl (Nat.le_of_ble_eq_true rfl) dX5_drop_19 (fun H locs hX => ?_)
  obtain ⟨rfl, rfl⟩ := re2 hf
  exact hret _ _ _ _ _ rfl rfl hX dX5_drop_22
theorem mmX5_pull_1 : Cond.constantLong RX5 165 (18) ∈ wsX5_pull := List.mem_of_getElem? (i := 1) rfl
set_option maxHeartbeats 4000000 in
set_option maxRecDepth 100000 in
theorem kX5_pull (ad : xAd) (l : Launch) (D : va_G) (cI cB cZ cG cS : ClassId) (h0 h_state h_readPage h_tape h_ends h_letters h_seen h_lastBy h_isKept h_lanes h_lengths h_cells : Nat) (taped : Int32) (fault : Int32) (broken : Int32) (brokenAt : Int32) (spot : Int32) (here : Int32) (token : Int32) (value : Int32) (moved : Int32) (turned : Int32) (worst : Int32) (seenMany : Int32) (torn : Int32) (state : (Nat → Int32)) (r0 : Int32) (o_moved' : Int32) (o_turned' : Int32) (o_state' : (Nat → Int32)) (p1 : Int32) (hf : fX5_pull p1 moved turned state = some (r0, o_moved', o_turned', o_state')) : xMi ad l yX5_pull wsX5_pull ({ frames := 4, cells := 0, slots := 0, locals := 94 } : Room) D (xTY cI cB cZ cG cS) [.ref h0, .int p1] [(h0, .inr (5, [.ref h_state, .ref h_readPage, .ref h_tape, .int taped, .int fault, .int broken, .int brokenAt, .int spot, .int here, .int token, .int value, .ref h_ends, .ref h_letters, .int moved, .int turned, .int worst, .ref h_seen, .int seenMany, .ref h_lastBy, .ref h_isKept, .ref h_lanes, .ref h_lengths, .ref h_cells, .int torn])), (h_state, .inl (cI, 240, .inl state))] [(h0, .inr (5, [.ref h_state, .ref h_readPage, .ref h_tape, .int taped, .int fault, .int broken, .int brokenAt, .int spot, .int here, .int token, .int value, .ref h_ends, .ref h_letters, .int o_moved', .int o_turned', .int worst, .ref h_seen, .int seenMany, .ref h_lastBy, .ref h_isKept, .ref h_lanes, .ref h_lengths, .ref h_cells, .int torn])), (h_state, .inl (cI, 240, .inl o_state'))] r0 := by
  refine xMi_of (cc := cX5_pull) (maxL := 2) (ty := .int) (by decide) rfl (Nat.le_of_ble_eq_true rfl) ?_
  intro p e s m args below meth c A Q ls C hX hl hret
  have hx := C.1.1
  have hb := C.1.2.1
  have hl : lv_has ls 2 [(0, .ref h0), (1, .int p1)] := hl
  unfold fX5_pull at hf
  refine lv_iload_n (pc := 0) hx hb dX5_pull_0 rfl (lv_at hl 1 rfl) ?_
  refine lv_i2l (pc := 1) (v := ((p1).toInt64)) hx hb dX5_pull_1 rfl ?_
  refine lv_lconst (pc := 2) (v := 0) hx hb dX5_pull_2 (by decide) ?_
  refine lv_ldc2 (pc := 3) hx hb C.1.2.2.2.1 (C.1.2.2.2.2 _ mmX5_pull_1) dX5_pull_3 ?_
  obtain ⟨r1, g2, hf⟩ := cl1_adv hf
  refine x_callSi (pc := 6) (rest := []) C hX (kX5_in ad l D cI cB cZ cG cS r1 ((p1).toInt64) (0 : Int64) (18 : Int64) g2) (va_cwS 3 C.1.2.2.2.2 gX5_pull_X5_in rfl rfl rfl (by decide +kernel) ⟨Nat.le_of_ble_eq_true rfl, Nat.le_of_ble_eq_true rfl⟩) hl.1 rfl rfl (Nat.le_of_ble_eq_true rfl) dX5_pull_6 (fun H locs hX => ?_)
  refine lv_if_ne (pc := 9) (tgt := 14) hx hb dX5_pull_9 (by decide) (fun c3 => ?_) (fun c3 => ?_)
  · replace hf := ite_f c3 hf
    refine lv_aload_n (pc := 14) hx hb dX5_pull_14 rfl (lv_at hl 0 rfl) ?_
    refine lv_iconst (pc := 15) (v := 0) hx hb dX5_pull_15 (by decide) ?_
    refine lv_iload_n (pc := 16) hx hb dX5_pull_16 rfl (lv_at hl 1 rfl) ?_
    refine lv_bipush (pc := 17) (v := 9) hx hb dX5_pull_17 (by decide) ?_
    refine lv_isub (pc := 19) hx hb dX5_pull_19 ?_
    obtain ⟨u4, u5, u6, g7, hf⟩ := cl3_adv hf
    refine x_callVv (pc := 20) (rest := []) (w2 := [(h0, .inr (5, [.ref h_state, .ref h_readPage, .ref h_tape, .int taped, .int fault, .int broken, .int brokenAt, .int spot, .int here, .int token, .int value, .ref h_ends, .ref h_letters, .int u4, .int u5, .int worst, .ref h_seen, .int seenMany, .ref h_lastBy, .ref h_isKept, .ref h_lanes, .ref h_lengths, .ref h_cells, .int torn])), (h_state, .inl (cI, 240, .inl u6))]) C hX (kX5_handOn ad l D cI cB cZ cG cS h0 h_state h_readPage h_tape h_ends h_letters h_seen h_lastBy h_isKept h_lanes h_lengths h_cells taped fault broken brokenAt spot here token value moved turned worst seenMany torn state u4 u5 u6 (0 : Int32) (p1 - (9 : Int32)) g7) (cwV 2 C.1.2.2.2.2 gX5_pull_X5_handOn rfl rfl rfl (by decide +kernel) ⟨Nat.le_of_ble_eq_true rfl, Nat.le_of_ble_eq_true rfl⟩) [0, 1] [] [0, 1] rfl rfl rfl rfl (by decide) rfl rfl 0 rfl rfl rfl hl.1 rfl rfl (Nat.le_of_ble_eq_true rfl) dX5_pull_20 (fun H locs hX => ?_)
    refine lv_aload_n (pc := 23) hx hb dX5_pull_23 rfl (lv_at hl 0 rfl) ?_
    refine lv_iconst (pc := 24) (v := 0) hx hb dX5_pull_24 (by decide) ?_
    obtain ⟨r8, g9, hf⟩ := cl1_adv hf
    refine x_callVi (pc := 25) (rest := []) (w2 := [(h0, .inr (5, [.ref h_state, .ref h_readPage, .ref h_tape, .int taped, .int fault, .int broken, .int brokenAt, .int spot, .int here, .int token, .int value, .ref h_ends, .ref h_letters, .int u4, .int u5, .int worst, .ref h_seen, .int seenMany, .ref h_lastBy, .ref h_isKept, .ref h_lanes, .ref h_lengths, .ref h_cells, .int torn])), (h_state, .inl (cI, 240, .inl u6))]) C hX (kX5_errorOn ad l D cI cB cZ cG cS h0 h_state h_readPage h_tape h_ends h_letters h_seen h_lastBy h_isKept h_lanes h_lengths h_cells taped fault broken brokenAt spot here token value u4 u5 worst seenMany torn u6 r8 (0 : Int32) g9) (cwV 1 C.1.2.2.2.2 gX5_pull_X5_errorOn rfl rfl rfl (by decide +kernel) ⟨Nat.le_of_ble_eq_true rfl, Nat.le_of_ble_eq_true rfl⟩) [0, 1] [] [0, 1] rfl rfl rfl rfl (by decide) rfl rfl 0 rfl rfl rfl hl.1 rfl rfl (Nat.le_of_ble_eq_true rfl) dX5_pull_25 (fun H locs hX => ?_)
    obtain ⟨rfl, rfl, rfl, rfl⟩ := re4 hf
    exact hret _ _ _ _ _ rfl rfl hX dX5_pull_28
  · replace hf := ite_t c3 hf
    refine lv_iconst (pc := 12) (v := -1) hx hb dX5_pull_12 (by decide) ?_
    obtain ⟨rfl, rfl, rfl, rfl⟩ := re4 hf
    exact hret _ _ _ _ _ rfl rfl hX dX5_pull_13
theorem mmX5_steps_1 : Cond.constantLong RX5 170 (100) ∈ wsX5_steps := List.mem_of_getElem? (i := 1) rfl
theorem mmX5_steps_2 : Cond.fieldLink RX5 7 "SlackArmsModel" "state" "[I" ∈ wsX5_steps := List.mem_of_getElem? (i := 2) rfl
theorem miX5_steps_X5 : ∀ w ∈ u_ws RX5 TX5 24, w ∈ wsX5_steps := fun w h => List.mem_cons_of_mem _ (List.mem_append_right _ h)
theorem mmX5_steps_3 : Cond.fieldLink RX5 134 "SlackArmsModel" "moved" "I" ∈ wsX5_steps := List.mem_of_getElem? (i := 3) rfl
set_option maxHeartbeats 4000000 in
set_option maxRecDepth 100000 in
theorem kX5_steps (ad : xAd) (l : Launch) (D : va_G) (cI cB cZ cG cS : ClassId) (h0 h_state h_readPage h_tape h_ends h_letters h_seen h_lastBy h_isKept h_lanes h_lengths h_cells : Nat) (taped : Int32) (fault : Int32) (broken : Int32) (brokenAt : Int32) (spot : Int32) (here : Int32) (token : Int32) (value : Int32) (moved : Int32) (turned : Int32) (worst : Int32) (seenMany : Int32) (torn : Int32) (state : (Nat → Int32)) (r0 : Int32) (o_moved' : Int32) (o_turned' : Int32) (o_state' : (Nat → Int32)) (p1 : Int32) (hf : fX5_steps p1 moved turned state = some (r0, o_moved', o_turned', o_state')) : xMi ad l yX5_steps wsX5_steps ({ frames := 5, cells := 0, slots := 0, locals := 117 } : Room) D (xTY cI cB cZ cG cS) [.ref h0, .int p1] [(h0, .inr (5, [.ref h_state, .ref h_readPage, .ref h_tape, .int taped, .int fault, .int broken, .int brokenAt, .int spot, .int here, .int token, .int value, .ref h_ends, .ref h_letters, .int moved, .int turned, .int worst, .ref h_seen, .int seenMany, .ref h_lastBy, .ref h_isKept, .ref h_lanes, .ref h_lengths, .ref h_cells, .int torn])), (h_state, .inl (cI, 240, .inl state))] [(h0, .inr (5, [.ref h_state, .ref h_readPage, .ref h_tape, .int taped, .int fault, .int broken, .int brokenAt, .int spot, .int here, .int token, .int value, .ref h_ends, .ref h_letters, .int o_moved', .int o_turned', .int worst, .ref h_seen, .int seenMany, .ref h_lastBy, .ref h_isKept, .ref h_lanes, .ref h_lengths, .ref h_cells, .int torn])), (h_state, .inl (cI, 240, .inl o_state'))] r0 := by
  refine xMi_of (cc := cX5_steps) (maxL := 3) (ty := .int) (by decide) rfl (Nat.le_of_ble_eq_true rfl) ?_
  intro p e s m args below meth c A Q ls C hX hl hret
  have hx := C.1.1
  have hb := C.1.2.1
  have hl : lv_has ls 3 [(0, .ref h0), (1, .int p1)] := hl
  have L39 : ∀ (n : Nat), ∀ (x1 : Int32) (x2 : Int32) (moved : Int32) (turned : Int32) (state : (Nat → Int32)) (H : Heap) (locs : List Loc) (ls : Array Slot), fX5_steps_L39  n x1 x2 moved turned state = some (r0, o_moved', o_turned', o_state') → xSt A s D [(h0, .inr (5, [.ref h_state, .ref h_readPage, .ref h_tape, .int taped, .int fault, .int broken, .int brokenAt, .int spot, .int here, .int token, .int value, .ref h_ends, .ref h_letters, .int moved, .int turned, .int worst, .ref h_seen, .int seenMany, .ref h_lastBy, .ref h_isKept, .ref h_lanes, .ref h_lengths, .ref h_cells, .int torn])), (h_state, .inl (cI, 240, .inl state))] H locs → lv_has ls 3 [(0, .ref h0), (1, .int x1), (2, .int x2)] → W p l e ({ frames := 5, cells := 0, slots := 0, locals := 117 } : Room) s m args below meth c H locs 0 0 Q (F0 m 39 ls []) := by
    intro n
    induction n with
    | zero =>
      intro x1 x2 moved turned state H locs ls hf
      rw [fX5_steps_L39] at hf
      cases hf
    | succ n ih =>
      intro x1 x2 moved turned state H locs ls hf hX hl
      rw [fX5_steps_L39] at hf
      refine lv_iload_n (pc := 39) hx hb dX5_steps_39 rfl (lv_at hl 2 rfl) ?_
      refine lv_iload_n (pc := 40) hx hb dX5_steps_40 rfl (lv_at hl 1 rfl) ?_
      refine lv_icmp_ge (pc := 41) (tgt := 56) hx hb dX5_steps_41 (by decide) (fun c6 => ?_) (fun c6 => ?_)
      · replace hf := ite_t c6 hf
        refine lv_aload_n (pc := 56) hx hb dX5_steps_56 rfl (lv_at hl 0 rfl) ?_
        refine x_getf (pc := 57) (Cn := RX5) (T := TX5) (N := 24) C hX 0 rfl rfl miX5_steps_X5 13 (by decide) mmX5_steps_3 rfl dX5_steps_57 ?_
        obtain ⟨rfl, rfl, rfl, rfl⟩ := re4 hf
        exact hret _ _ _ _ _ rfl rfl hX dX5_steps_60
      · replace hf := ite_f c6 hf
        refine lv_aload_n (pc := 44) hx hb dX5_steps_44 rfl (lv_at hl 0 rfl) ?_
        refine lv_iconst (pc := 45) (v := 0) hx hb dX5_steps_45 (by decide) ?_
        refine lv_iconst (pc := 46) (v := 0) hx hb dX5_steps_46 (by decide) ?_
        obtain ⟨u7, u8, u9, g10, hf⟩ := cl3_adv hf
        refine x_callVv (pc := 47) (rest := []) (w2 := [(h0, .inr (5, [.ref h_state, .ref h_readPage, .ref h_tape, .int taped, .int fault, .int broken, .int brokenAt, .int spot, .int here, .int token, .int value, .ref h_ends, .ref h_letters, .int u7, .int u8, .int worst, .ref h_seen, .int seenMany, .ref h_lastBy, .ref h_isKept, .ref h_lanes, .ref h_lengths, .ref h_cells, .int torn])), (h_state, .inl (cI, 240, .inl u9))]) C hX (kX5_stepOn ad l D cI cB cZ cG cS h0 h_state h_readPage h_tape h_ends h_letters h_seen h_lastBy h_isKept h_lanes h_lengths h_cells taped fault broken brokenAt spot here token value moved turned worst seenMany torn state u7 u8 u9 (0 : Int32) (0 : Int32) g10) (cwV 2 C.1.2.2.2.2 gX5_steps_X5_stepOn rfl rfl rfl (by decide +kernel) ⟨Nat.le_of_ble_eq_true rfl, Nat.le_of_ble_eq_true rfl⟩) [0, 1] [] [0, 1] rfl rfl rfl rfl (by decide) rfl rfl 0 rfl rfl rfl hl.1 rfl rfl (Nat.le_of_ble_eq_true rfl) dX5_steps_47 (fun H locs hX => ?_)
        obtain ⟨v11, ev11⟩ : ∃ y : Int32, y = (x2 + (1 : Int32)) := ⟨_, rfl⟩
        replace hf := bnd_use ev11 hf
        refine lv_iinc (pc := 50) (v := v11) (lv' := [(2, .int v11), (0, .ref h0), (1, .int x1)]) hx hb dX5_steps_50 hl (k := 2) rfl (by rw [ev11]; rfl) (by decide) rfl (fun ls hl => ?_)
        refine lv_goto (pc := 53) (tgt := 39) hx hb dX5_steps_53 (by decide) ?_
        exact ih x1 v11 u7 u8 u9 _ _ _ hf hX (lv_sub hl [1, 2, 0] rfl)
  unfold fX5_steps at hf
  refine lv_iload_n (pc := 0) hx hb dX5_steps_0 rfl (lv_at hl 1 rfl) ?_
  refine lv_i2l (pc := 1) (v := ((p1).toInt64)) hx hb dX5_steps_1 rfl ?_
  refine lv_lconst (pc := 2) (v := 0) hx hb dX5_steps_2 (by decide) ?_
  refine lv_ldc2 (pc := 3) hx hb C.1.2.2.2.1 (C.1.2.2.2.2 _ mmX5_steps_1) dX5_steps_3 ?_
  obtain ⟨r1, g2, hf⟩ := cl1_adv hf
  refine x_callSi (pc := 6) (rest := []) C hX (kX5_in ad l D cI cB cZ cG cS r1 ((p1).toInt64) (0 : Int64) (100 : Int64) g2) (va_cwS 3 C.1.2.2.2.2 gX5_steps_X5_in rfl rfl rfl (by decide +kernel) ⟨Nat.le_of_ble_eq_true rfl, Nat.le_of_ble_eq_true rfl⟩) hl.1 rfl rfl (Nat.le_of_ble_eq_true rfl) dX5_steps_6 (fun H locs hX => ?_)
  refine lv_if_ne (pc := 9) (tgt := 14) hx hb dX5_steps_9 (by decide) (fun c3 => ?_) (fun c3 => ?_)
  · replace hf := ite_f c3 hf
    refine lv_aload_n (pc := 14) hx hb dX5_steps_14 rfl (lv_at hl 0 rfl) ?_
    refine x_getf (pc := 15) (Cn := RX5) (T := TX5) (N := 24) C hX 0 rfl rfl miX5_steps_X5 0 (by decide) mmX5_steps_2 rfl dX5_steps_15 ?_
    refine lv_bipush (pc := 18) (v := 39) hx hb dX5_steps_18 (by decide) ?_
    replace hf := chk_adv hf
    have i4 := hf.1
    replace hf := hf.2
    refine x_iald (pc := 20) C hX 1 0 rfl rfl i4 dX5_steps_20 ?_
    refine lv_iload_n (pc := 21) hx hb dX5_steps_21 rfl (lv_at hl 1 rfl) ?_
    refine lv_iadd (pc := 22) hx hb dX5_steps_22 ?_
    refine lv_sipush (pc := 23) (v := 9999) hx hb dX5_steps_23 (by decide) ?_
    refine lv_icmp_le (pc := 26) (tgt := 32) hx hb dX5_steps_26 (by decide) (fun c5 => ?_) (fun c5 => ?_)
    · replace hf := ite_t c5 hf
      refine lv_aload_n (pc := 32) hx hb dX5_steps_32 rfl (lv_at hl 0 rfl) ?_
      refine lv_iconst (pc := 33) (v := 0) hx hb dX5_steps_33 (by decide) ?_
      refine x_putf (pc := 34) (Cn := RX5) (T := TX5) (N := 24) C hX tyX5 tyX5_ok nmX5 0 rfl rfl miX5_steps_X5 13 (by decide) mmX5_steps_3 rfl rfl (Nat.le_of_ble_eq_true rfl) [(h0, .inr (5, [.ref h_state, .ref h_readPage, .ref h_tape, .int taped, .int fault, .int broken, .int brokenAt, .int spot, .int here, .int token, .int value, .ref h_ends, .ref h_letters, .int (0 : Int32), .int turned, .int worst, .ref h_seen, .int seenMany, .ref h_lastBy, .ref h_isKept, .ref h_lanes, .ref h_lengths, .ref h_cells, .int torn])), (h_state, .inl (cI, 240, .inl state))] rfl dX5_steps_34 (fun H locs hX => ?_)
      refine lv_iconst (pc := 37) (v := 0) hx hb dX5_steps_37 (by decide) ?_
      refine lv_istore_n (pc := 38) (lv' := [(2, .int (0 : Int32)), (0, .ref h0), (1, .int p1)]) hx hb dX5_steps_38 rfl hl (by decide) rfl (fun ls hl => ?_)
      exact L39  xF p1 (0 : Int32) (0 : Int32) turned state _ _ _ hf hX (lv_sub hl [1, 2, 0] rfl)
    · replace hf := ite_f c5 hf
      refine lv_bipush (pc := 29) (v := -3) hx hb dX5_steps_29 (by decide) ?_
      obtain ⟨rfl, rfl, rfl, rfl⟩ := re4 hf
      exact hret _ _ _ _ _ rfl rfl hX dX5_steps_31
  · replace hf := ite_t c3 hf
    refine lv_iconst (pc := 12) (v := -1) hx hb dX5_steps_12 (by decide) ?_
    obtain ⟨rfl, rfl, rfl, rfl⟩ := re4 hf
    exact hret _ _ _ _ _ rfl rfl hX dX5_steps_13
theorem mmX5_copies_1 : Cond.fieldLink RX5 7 "SlackArmsModel" "state" "[I" ∈ wsX5_copies := List.mem_of_getElem? (i := 1) rfl
theorem miX5_copies_X5 : ∀ w ∈ u_ws RX5 TX5 24, w ∈ wsX5_copies := fun w h => List.mem_cons_of_mem _ (List.mem_append_right _ h)
set_option maxHeartbeats 4000000 in
set_option maxRecDepth 100000 in
theorem kX5_copies (ad : xAd) (l : Launch) (D : va_G) (cI cB cZ cG cS : ClassId) (h0 h_state h_readPage h_tape h_ends h_letters h_seen h_lastBy h_isKept h_lanes h_lengths h_cells : Nat) (taped : Int32) (fault : Int32) (broken : Int32) (brokenAt : Int32) (spot : Int32) (here : Int32) (token : Int32) (value : Int32) (moved : Int32) (turned : Int32) (worst : Int32) (seenMany : Int32) (torn : Int32) (state : (Nat → Int32)) (o_state' : (Nat → Int32)) (p1 : Int32) (p2 : Int32) (hf : fX5_copies p1 p2 state = some o_state') : xMv ad l yX5_copies wsX5_copies ({ frames := 0, cells := 0, slots := 0, locals := 0 } : Room) D (xTY cI cB cZ cG cS) [.ref h0, .int p1, .int p2] [(h0, .inr (5, [.ref h_state, .ref h_readPage, .ref h_tape, .int taped, .int fault, .int broken, .int brokenAt, .int spot, .int here, .int token, .int value, .ref h_ends, .ref h_letters, .int moved, .int turned, .int worst, .ref h_seen, .int seenMany, .ref h_lastBy, .ref h_isKept, .ref h_lanes, .ref h_lengths, .ref h_cells, .int torn])), (h_state, .inl (cI, 240, .inl state))] [(h0, .inr (5, [.ref h_state, .ref h_readPage, .ref h_tape, .int taped, .int fault, .int broken, .int brokenAt, .int spot, .int here, .int token, .int value, .ref h_ends, .ref h_letters, .int moved, .int turned, .int worst, .ref h_seen, .int seenMany, .ref h_lastBy, .ref h_isKept, .ref h_lanes, .ref h_lengths, .ref h_cells, .int torn])), (h_state, .inl (cI, 240, .inl o_state'))] := by
  refine xMv_of (cc := cX5_copies) (maxL := 4) (by decide) rfl (Nat.le_of_ble_eq_true rfl) ?_
  intro p e s m args below meth c A Q ls C hX hl hret
  have hx := C.1.1
  have hb := C.1.2.1
  have hl : lv_has ls 4 [(0, .ref h0), (1, .int p1), (2, .int p2)] := hl
  have L2 : ∀ (n : Nat), ∀ (x1 : Int32) (x2 : Int32) (x3 : Int32) (state : (Nat → Int32)) (H : Heap) (locs : List Loc) (ls : Array Slot), fX5_copies_L2  n x1 x2 x3 state = some o_state' → xSt A s D [(h0, .inr (5, [.ref h_state, .ref h_readPage, .ref h_tape, .int taped, .int fault, .int broken, .int brokenAt, .int spot, .int here, .int token, .int value, .ref h_ends, .ref h_letters, .int moved, .int turned, .int worst, .ref h_seen, .int seenMany, .ref h_lastBy, .ref h_isKept, .ref h_lanes, .ref h_lengths, .ref h_cells, .int torn])), (h_state, .inl (cI, 240, .inl state))] H locs → lv_has ls 4 [(0, .ref h0), (1, .int x1), (2, .int x2), (3, .int x3)] → W p l e ({ frames := 0, cells := 0, slots := 0, locals := 0 } : Room) s m args below meth c H locs 0 0 Q (F0 m 2 ls []) := by
    intro n
    induction n with
    | zero =>
      intro x1 x2 x3 state H locs ls hf
      rw [fX5_copies_L2] at hf
      cases hf
    | succ n ih =>
      intro x1 x2 x3 state H locs ls hf hX hl
      rw [fX5_copies_L2] at hf
      refine lv_iload_n (pc := 2) hx hb dX5_copies_2 rfl (lv_at hl 3 rfl) ?_
      refine lv_bipush (pc := 3) (v := 40) hx hb dX5_copies_3 (by decide) ?_
      refine lv_icmp_ge (pc := 5) (tgt := 30) hx hb dX5_copies_5 (by decide) (fun c1 => ?_) (fun c1 => ?_)
      · replace hf := ite_t c1 hf
        obtain ⟨rfl⟩ := re1 hf
        exact hret _ _ _ _ hX dX5_copies_30
      · replace hf := ite_f c1 hf
        refine lv_aload_n (pc := 8) hx hb dX5_copies_8 rfl (lv_at hl 0 rfl) ?_
        refine x_getf (pc := 9) (Cn := RX5) (T := TX5) (N := 24) C hX 0 rfl rfl miX5_copies_X5 0 (by decide) mmX5_copies_1 rfl dX5_copies_9 ?_
        refine lv_iload_n (pc := 12) hx hb dX5_copies_12 rfl (lv_at hl 2 rfl) ?_
        refine lv_iload_n (pc := 13) hx hb dX5_copies_13 rfl (lv_at hl 3 rfl) ?_
        refine lv_iadd (pc := 14) hx hb dX5_copies_14 ?_
        refine lv_aload_n (pc := 15) hx hb dX5_copies_15 rfl (lv_at hl 0 rfl) ?_
        refine x_getf (pc := 16) (Cn := RX5) (T := TX5) (N := 24) C hX 0 rfl rfl miX5_copies_X5 0 (by decide) mmX5_copies_1 rfl dX5_copies_16 ?_
        refine lv_iload_n (pc := 19) hx hb dX5_copies_19 rfl (lv_at hl 1 rfl) ?_
        refine lv_iload_n (pc := 20) hx hb dX5_copies_20 rfl (lv_at hl 3 rfl) ?_
        refine lv_iadd (pc := 21) hx hb dX5_copies_21 ?_
        replace hf := chk_adv hf
        have i2 := hf.1
        replace hf := hf.2
        refine x_iald (pc := 22) C hX 1 0 rfl rfl i2 dX5_copies_22 ?_
        refine lv_topi (fun v3 ev3 => ?_)
        replace hf := bnd_use ev3 hf
        replace hf := chk_adv hf
        have i4 := hf.1
        replace hf := hf.2
        obtain ⟨f5, ef5⟩ : ∃ y : Nat → Int32, y = (upd state ((x2 + x3)).toNatClampNeg v3) := ⟨_, rfl⟩
        replace hf := bnd_use ef5 hf
        refine x_iast (pc := 23) C hX 1 0 rfl rfl i4 [(h0, .inr (5, [.ref h_state, .ref h_readPage, .ref h_tape, .int taped, .int fault, .int broken, .int brokenAt, .int spot, .int here, .int token, .int value, .ref h_ends, .ref h_letters, .int moved, .int turned, .int worst, .ref h_seen, .int seenMany, .ref h_lastBy, .ref h_isKept, .ref h_lanes, .ref h_lengths, .ref h_cells, .int torn])), (h_state, .inl (cI, 240, .inl f5))] (by subst ef5; rfl) dX5_copies_23 (fun H locs hX => ?_)
        obtain ⟨v6, ev6⟩ : ∃ y : Int32, y = (x3 + (1 : Int32)) := ⟨_, rfl⟩
        replace hf := bnd_use ev6 hf
        refine lv_iinc (pc := 24) (v := v6) (lv' := [(3, .int v6), (0, .ref h0), (1, .int x1), (2, .int x2)]) hx hb dX5_copies_24 hl (k := 3) rfl (by rw [ev6]; rfl) (by decide) rfl (fun ls hl => ?_)
        refine lv_goto (pc := 27) (tgt := 2) hx hb dX5_copies_27 (by decide) ?_
        exact ih x1 x2 v6 f5 _ _ _ hf hX (lv_sub hl [1, 2, 3, 0] rfl)
  unfold fX5_copies at hf
  refine lv_iconst (pc := 0) (v := 0) hx hb dX5_copies_0 (by decide) ?_
  refine lv_istore_n (pc := 1) (lv' := [(3, .int (0 : Int32)), (0, .ref h0), (1, .int p1), (2, .int p2)]) hx hb dX5_copies_1 rfl hl (by decide) rfl (fun ls hl => ?_)
  exact L2  xF p1 p2 (0 : Int32) state _ _ _ hf hX (lv_sub hl [1, 2, 3, 0] rfl)
theorem mmX5_stepsGo_1 : Cond.fieldLink RX5 134 "SlackArmsModel" "moved" "I" ∈ wsX5_stepsGo := List.mem_of_getElem? (i := 1) rfl
theorem miX5_stepsGo_X5 : ∀ w ∈ u_ws RX5 TX5 24, w ∈ wsX5_stepsGo := fun w h => List.mem_cons_of_mem _ (List.mem_append_right _ h)
theorem mmX5_stepsGo_2 : Cond.fieldLink RX5 131 "SlackArmsModel" "turned" "I" ∈ wsX5_stepsGo := List.mem_of_getElem? (i := 2) rfl
theorem mmX5_stepsGo_3 : Cond.fieldLink RX5 179 "SlackArmsModel" "worst" "I" ∈ wsX5_stepsGo := List.mem_of_getElem? (i := 3) rfl
set_option maxHeartbeats 4000000 in
set_option maxRecDepth 100000 in
theorem kX5_stepsGo (ad : xAd) (l : Launch) (D : va_G) (cI cB cZ cG cS : ClassId) (h0 h_state h_readPage h_tape h_ends h_letters h_seen h_lastBy h_isKept h_lanes h_lengths h_cells : Nat) (taped : Int32) (fault : Int32) (broken : Int32) (brokenAt : Int32) (spot : Int32) (here : Int32) (token : Int32) (value : Int32) (moved : Int32) (turned : Int32) (worst : Int32) (seenMany : Int32) (torn : Int32) (state : (Nat → Int32)) (r0 : Int32) (o_moved' : Int32) (o_turned' : Int32) (o_worst' : Int32) (o_state' : (Nat → Int32)) (p1 : Int32) (p2 : Int32) (hf : fX5_stepsGo p1 p2 moved turned worst state = some (r0, o_moved', o_turned', o_worst', o_state')) : xMi ad l yX5_stepsGo wsX5_stepsGo ({ frames := 5, cells := 0, slots := 0, locals := 117 } : Room) D (xTY cI cB cZ cG cS) [.ref h0, .int p1, .int p2] [(h0, .inr (5, [.ref h_state, .ref h_readPage, .ref h_tape, .int taped, .int fault, .int broken, .int brokenAt, .int spot, .int here, .int token, .int value, .ref h_ends, .ref h_letters, .int moved, .int turned, .int worst, .ref h_seen, .int seenMany, .ref h_lastBy, .ref h_isKept, .ref h_lanes, .ref h_lengths, .ref h_cells, .int torn])), (h_state, .inl (cI, 240, .inl state))] [(h0, .inr (5, [.ref h_state, .ref h_readPage, .ref h_tape, .int taped, .int fault, .int broken, .int brokenAt, .int spot, .int here, .int token, .int value, .ref h_ends, .ref h_letters, .int o_moved', .int o_turned', .int o_worst', .ref h_seen, .int seenMany, .ref h_lastBy, .ref h_isKept, .ref h_lanes, .ref h_lengths, .ref h_cells, .int torn])), (h_state, .inl (cI, 240, .inl o_state'))] r0 := by
  refine xMi_of (cc := cX5_stepsGo) (maxL := 5) (ty := .int) (by decide) rfl (Nat.le_of_ble_eq_true rfl) ?_
  intro p e s m args below meth c A Q ls C hX hl hret
  have hx := C.1.1
  have hb := C.1.2.1
  have hl : lv_has ls 5 [(0, .ref h0), (1, .int p1), (2, .int p2)] := hl
  have L66 : ∀ (k25 : Int32 → Int32 → Int32 → Int32 → Int32 → (Nat → Int32) → Option (Int32 × Int32 × Int32 × Int32 × (Nat → Int32))) (hk25 : ∀ (x2 : Int32) (x3 : Int32) (moved : Int32) (turned : Int32) (worst : Int32) (state : (Nat → Int32)) (H : Heap) (locs : List Loc) (ls : Array Slot), k25 x2 x3 moved turned worst state = some (r0, o_moved', o_turned', o_worst', o_state') → xSt A s D [(h0, .inr (5, [.ref h_state, .ref h_readPage, .ref h_tape, .int taped, .int fault, .int broken, .int brokenAt, .int spot, .int here, .int token, .int value, .ref h_ends, .ref h_letters, .int moved, .int turned, .int worst, .ref h_seen, .int seenMany, .ref h_lastBy, .ref h_isKept, .ref h_lanes, .ref h_lengths, .ref h_cells, .int torn])), (h_state, .inl (cI, 240, .inl state))] H locs → lv_has ls 5 [(0, .ref h0), (2, .int x2), (3, .int x3)] → W p l e ({ frames := 5, cells := 0, slots := 0, locals := 117 } : Room) s m args below meth c H locs 0 0 Q (F0 m 25 ls [])), ∀ (x2 : Int32) (x3 : Int32) (y0 : Int32) (moved : Int32) (turned : Int32) (worst : Int32) (state : (Nat → Int32)) (H : Heap) (locs : List Loc) (ls : Array Slot), fX5_stepsGo_L66  k25 x2 x3 y0 moved turned worst state = some (r0, o_moved', o_turned', o_worst', o_state') → xSt A s D [(h0, .inr (5, [.ref h_state, .ref h_readPage, .ref h_tape, .int taped, .int fault, .int broken, .int brokenAt, .int spot, .int here, .int token, .int value, .ref h_ends, .ref h_letters, .int moved, .int turned, .int worst, .ref h_seen, .int seenMany, .ref h_lastBy, .ref h_isKept, .ref h_lanes, .ref h_lengths, .ref h_cells, .int torn])), (h_state, .inl (cI, 240, .inl state))] H locs → lv_has ls 5 [(0, .ref h0), (2, .int x2), (3, .int x3)] → W p l e ({ frames := 5, cells := 0, slots := 0, locals := 117 } : Room) s m args below meth c H locs 0 0 Q (F0 m 66 ls [.int y0, .ref h0]) := by
    intro k25 hk25 x2 x3 y0 moved turned worst state H locs ls hf hX hl
    unfold fX5_stepsGo_L66 at hf
    refine x_putf (pc := 66) (Cn := RX5) (T := TX5) (N := 24) C hX tyX5 tyX5_ok nmX5 0 rfl rfl miX5_stepsGo_X5 15 (by decide) mmX5_stepsGo_3 rfl rfl (Nat.le_of_ble_eq_true rfl) [(h0, .inr (5, [.ref h_state, .ref h_readPage, .ref h_tape, .int taped, .int fault, .int broken, .int brokenAt, .int spot, .int here, .int token, .int value, .ref h_ends, .ref h_letters, .int moved, .int turned, .int y0, .ref h_seen, .int seenMany, .ref h_lastBy, .ref h_isKept, .ref h_lanes, .ref h_lengths, .ref h_cells, .int torn])), (h_state, .inl (cI, 240, .inl state))] rfl dX5_stepsGo_66 (fun H locs hX => ?_)
    obtain ⟨v13, ev13⟩ : ∃ y : Int32, y = (x3 + (1 : Int32)) := ⟨_, rfl⟩
    replace hf := bnd_use ev13 hf
    refine lv_iinc (pc := 69) (v := v13) (lv' := [(3, .int v13), (0, .ref h0), (2, .int x2)]) hx hb dX5_stepsGo_69 hl (k := 2) rfl (by rw [ev13]; rfl) (by decide) rfl (fun ls hl => ?_)
    refine lv_goto (pc := 72) (tgt := 25) hx hb dX5_stepsGo_72 (by decide) ?_
    exact hk25 x2 v13 moved turned y0 state _ _ _ hf hX (lv_sub hl [1, 2, 0] rfl)
  have L25 : ∀ (n : Nat), ∀ (x2 : Int32) (x3 : Int32) (moved : Int32) (turned : Int32) (worst : Int32) (state : (Nat → Int32)) (H : Heap) (locs : List Loc) (ls : Array Slot), fX5_stepsGo_L25  n x2 x3 moved turned worst state = some (r0, o_moved', o_turned', o_worst', o_state') → xSt A s D [(h0, .inr (5, [.ref h_state, .ref h_readPage, .ref h_tape, .int taped, .int fault, .int broken, .int brokenAt, .int spot, .int here, .int token, .int value, .ref h_ends, .ref h_letters, .int moved, .int turned, .int worst, .ref h_seen, .int seenMany, .ref h_lastBy, .ref h_isKept, .ref h_lanes, .ref h_lengths, .ref h_cells, .int torn])), (h_state, .inl (cI, 240, .inl state))] H locs → lv_has ls 5 [(0, .ref h0), (2, .int x2), (3, .int x3)] → W p l e ({ frames := 5, cells := 0, slots := 0, locals := 117 } : Room) s m args below meth c H locs 0 0 Q (F0 m 25 ls []) := by
    intro n
    induction n with
    | zero =>
      intro x2 x3 moved turned worst state H locs ls hf
      rw [fX5_stepsGo_L25] at hf
      cases hf
    | succ n ih =>
      intro x2 x3 moved turned worst state H locs ls hf hX hl
      rw [fX5_stepsGo_L25] at hf
      refine lv_iload_n (pc := 25) hx hb dX5_stepsGo_25 rfl (lv_at hl 2 rfl) ?_
      refine lv_iload_n (pc := 26) hx hb dX5_stepsGo_26 rfl (lv_at hl 1 rfl) ?_
      refine lv_icmp_ge (pc := 27) (tgt := 75) hx hb dX5_stepsGo_27 (by decide) (fun c3 => ?_) (fun c3 => ?_)
      · replace hf := ite_t c3 hf
        refine lv_aload_n (pc := 75) hx hb dX5_stepsGo_75 rfl (lv_at hl 0 rfl) ?_
        refine lv_sipush (pc := 76) (v := 160) hx hb dX5_stepsGo_76 (by decide) ?_
        obtain ⟨r4, g5, hf⟩ := cl1_adv hf
        refine x_callVi (pc := 79) (rest := []) (w2 := [(h0, .inr (5, [.ref h_state, .ref h_readPage, .ref h_tape, .int taped, .int fault, .int broken, .int brokenAt, .int spot, .int here, .int token, .int value, .ref h_ends, .ref h_letters, .int moved, .int turned, .int worst, .ref h_seen, .int seenMany, .ref h_lastBy, .ref h_isKept, .ref h_lanes, .ref h_lengths, .ref h_cells, .int torn])), (h_state, .inl (cI, 240, .inl state))]) C hX (kX5_errorOn ad l D cI cB cZ cG cS h0 h_state h_readPage h_tape h_ends h_letters h_seen h_lastBy h_isKept h_lanes h_lengths h_cells taped fault broken brokenAt spot here token value moved turned worst seenMany torn state r4 (160 : Int32) g5) (cwV 1 C.1.2.2.2.2 gX5_stepsGo_X5_errorOn rfl rfl rfl (by decide +kernel) ⟨Nat.le_of_ble_eq_true rfl, Nat.le_of_ble_eq_true rfl⟩) [0, 1] [] [0, 1] rfl rfl rfl rfl (by decide) rfl rfl 0 rfl rfl rfl hl.1 rfl rfl (Nat.le_of_ble_eq_true rfl) dX5_stepsGo_79 (fun H locs hX => ?_)
        obtain ⟨rfl, rfl, rfl, rfl, rfl⟩ := re5 hf
        exact hret _ _ _ _ _ rfl rfl hX dX5_stepsGo_82
      · replace hf := ite_f c3 hf
        refine lv_aload_n (pc := 30) hx hb dX5_stepsGo_30 rfl (lv_at hl 0 rfl) ?_
        refine lv_sipush (pc := 31) (v := 160) hx hb dX5_stepsGo_31 (by decide) ?_
        refine lv_iconst (pc := 34) (v := 0) hx hb dX5_stepsGo_34 (by decide) ?_
        obtain ⟨u6, u7, u8, g9, hf⟩ := cl3_adv hf
        refine x_callVv (pc := 35) (rest := []) (w2 := [(h0, .inr (5, [.ref h_state, .ref h_readPage, .ref h_tape, .int taped, .int fault, .int broken, .int brokenAt, .int spot, .int here, .int token, .int value, .ref h_ends, .ref h_letters, .int u6, .int u7, .int worst, .ref h_seen, .int seenMany, .ref h_lastBy, .ref h_isKept, .ref h_lanes, .ref h_lengths, .ref h_cells, .int torn])), (h_state, .inl (cI, 240, .inl u8))]) C hX (kX5_stepOn ad l D cI cB cZ cG cS h0 h_state h_readPage h_tape h_ends h_letters h_seen h_lastBy h_isKept h_lanes h_lengths h_cells taped fault broken brokenAt spot here token value moved turned worst seenMany torn state u6 u7 u8 (160 : Int32) (0 : Int32) g9) (cwV 2 C.1.2.2.2.2 gX5_stepsGo_X5_stepOn rfl rfl rfl (by decide +kernel) ⟨Nat.le_of_ble_eq_true rfl, Nat.le_of_ble_eq_true rfl⟩) [0, 1] [] [0, 1] rfl rfl rfl rfl (by decide) rfl rfl 0 rfl rfl rfl hl.1 rfl rfl (Nat.le_of_ble_eq_true rfl) dX5_stepsGo_35 (fun H locs hX => ?_)
        refine lv_aload_n (pc := 38) hx hb dX5_stepsGo_38 rfl (lv_at hl 0 rfl) ?_
        refine lv_sipush (pc := 39) (v := 160) hx hb dX5_stepsGo_39 (by decide) ?_
        obtain ⟨r10, g11, hf⟩ := cl1_adv hf
        refine x_callVi (pc := 42) (rest := []) (w2 := [(h0, .inr (5, [.ref h_state, .ref h_readPage, .ref h_tape, .int taped, .int fault, .int broken, .int brokenAt, .int spot, .int here, .int token, .int value, .ref h_ends, .ref h_letters, .int u6, .int u7, .int worst, .ref h_seen, .int seenMany, .ref h_lastBy, .ref h_isKept, .ref h_lanes, .ref h_lengths, .ref h_cells, .int torn])), (h_state, .inl (cI, 240, .inl u8))]) C hX (kX5_errorOn ad l D cI cB cZ cG cS h0 h_state h_readPage h_tape h_ends h_letters h_seen h_lastBy h_isKept h_lanes h_lengths h_cells taped fault broken brokenAt spot here token value u6 u7 worst seenMany torn u8 r10 (160 : Int32) g11) (cwV 1 C.1.2.2.2.2 gX5_stepsGo_X5_errorOn rfl rfl rfl (by decide +kernel) ⟨Nat.le_of_ble_eq_true rfl, Nat.le_of_ble_eq_true rfl⟩) [0, 1] [] [0, 1] rfl rfl rfl rfl (by decide) rfl rfl 0 rfl rfl rfl hl.1 rfl rfl (Nat.le_of_ble_eq_true rfl) dX5_stepsGo_42 (fun H locs hX => ?_)
        refine lv_istore (pc := 45) (lv' := [(4, .int r10), (0, .ref h0), (2, .int x2), (3, .int x3)]) hx hb dX5_stepsGo_45 hl (by decide) rfl (fun ls hl => ?_)
        refine lv_aload_n (pc := 47) hx hb dX5_stepsGo_47 rfl (lv_at hl 1 rfl) ?_
        refine lv_iload (pc := 48) hx hb dX5_stepsGo_48 (lv_at hl 0 rfl) ?_
        refine lv_aload_n (pc := 50) hx hb dX5_stepsGo_50 rfl (lv_at hl 1 rfl) ?_
        refine x_getf (pc := 51) (Cn := RX5) (T := TX5) (N := 24) C hX 0 rfl rfl miX5_stepsGo_X5 15 (by decide) mmX5_stepsGo_3 rfl dX5_stepsGo_51 ?_
        refine lv_icmp_le (pc := 54) (tgt := 62) hx hb dX5_stepsGo_54 (by decide) (fun c12 => ?_) (fun c12 => ?_)
        · replace hf := ite_t c12 hf
          refine lv_aload_n (pc := 62) hx hb dX5_stepsGo_62 rfl (lv_at hl 1 rfl) ?_
          refine x_getf (pc := 63) (Cn := RX5) (T := TX5) (N := 24) C hX 0 rfl rfl miX5_stepsGo_X5 15 (by decide) mmX5_stepsGo_3 rfl dX5_stepsGo_63 ?_
          exact L66 (fX5_stepsGo_L25  n) ih x2 x3 worst u6 u7 worst u8 _ _ _ hf hX (lv_sub hl [1, 2, 3] rfl)
        · replace hf := ite_f c12 hf
          refine lv_iload (pc := 57) hx hb dX5_stepsGo_57 (lv_at hl 0 rfl) ?_
          refine lv_goto (pc := 59) (tgt := 66) hx hb dX5_stepsGo_59 (by decide) ?_
          exact L66 (fX5_stepsGo_L25  n) ih x2 x3 r10 u6 u7 worst u8 _ _ _ hf hX (lv_sub hl [1, 2, 3] rfl)
  unfold fX5_stepsGo at hf
  refine lv_aload_n (pc := 0) hx hb dX5_stepsGo_0 rfl (lv_at hl 0 rfl) ?_
  refine lv_iload_n (pc := 1) hx hb dX5_stepsGo_1 rfl (lv_at hl 1 rfl) ?_
  refine lv_sipush (pc := 2) (v := 160) hx hb dX5_stepsGo_2 (by decide) ?_
  obtain ⟨u1, g2, hf⟩ := cl1_adv hf
  refine x_callVv (pc := 5) (rest := []) (w2 := [(h0, .inr (5, [.ref h_state, .ref h_readPage, .ref h_tape, .int taped, .int fault, .int broken, .int brokenAt, .int spot, .int here, .int token, .int value, .ref h_ends, .ref h_letters, .int moved, .int turned, .int worst, .ref h_seen, .int seenMany, .ref h_lastBy, .ref h_isKept, .ref h_lanes, .ref h_lengths, .ref h_cells, .int torn])), (h_state, .inl (cI, 240, .inl u1))]) C hX (kX5_copies ad l D cI cB cZ cG cS h0 h_state h_readPage h_tape h_ends h_letters h_seen h_lastBy h_isKept h_lanes h_lengths h_cells taped fault broken brokenAt spot here token value moved turned worst seenMany torn state u1 p1 (160 : Int32) g2) (cwV 2 C.1.2.2.2.2 gX5_stepsGo_X5_copies rfl rfl rfl (by decide +kernel) ⟨Nat.le_of_ble_eq_true rfl, Nat.le_of_ble_eq_true rfl⟩) [0, 1] [] [0, 1] rfl rfl rfl rfl (by decide) rfl rfl 0 rfl rfl rfl hl.1 rfl rfl (Nat.le_of_ble_eq_true rfl) dX5_stepsGo_5 (fun H locs hX => ?_)
  refine lv_aload_n (pc := 8) hx hb dX5_stepsGo_8 rfl (lv_at hl 0 rfl) ?_
  refine lv_iconst (pc := 9) (v := 0) hx hb dX5_stepsGo_9 (by decide) ?_
  refine x_putf (pc := 10) (Cn := RX5) (T := TX5) (N := 24) C hX tyX5 tyX5_ok nmX5 0 rfl rfl miX5_stepsGo_X5 13 (by decide) mmX5_stepsGo_1 rfl rfl (Nat.le_of_ble_eq_true rfl) [(h0, .inr (5, [.ref h_state, .ref h_readPage, .ref h_tape, .int taped, .int fault, .int broken, .int brokenAt, .int spot, .int here, .int token, .int value, .ref h_ends, .ref h_letters, .int (0 : Int32), .int turned, .int worst, .ref h_seen, .int seenMany, .ref h_lastBy, .ref h_isKept, .ref h_lanes, .ref h_lengths, .ref h_cells, .int torn])), (h_state, .inl (cI, 240, .inl u1))] rfl dX5_stepsGo_10 (fun H locs hX => ?_)
  refine lv_aload_n (pc := 13) hx hb dX5_stepsGo_13 rfl (lv_at hl 0 rfl) ?_
  refine lv_iconst (pc := 14) (v := 0) hx hb dX5_stepsGo_14 (by decide) ?_
  refine x_putf (pc := 15) (Cn := RX5) (T := TX5) (N := 24) C hX tyX5 tyX5_ok nmX5 0 rfl rfl miX5_stepsGo_X5 14 (by decide) mmX5_stepsGo_2 rfl rfl (Nat.le_of_ble_eq_true rfl) [(h0, .inr (5, [.ref h_state, .ref h_readPage, .ref h_tape, .int taped, .int fault, .int broken, .int brokenAt, .int spot, .int here, .int token, .int value, .ref h_ends, .ref h_letters, .int (0 : Int32), .int (0 : Int32), .int worst, .ref h_seen, .int seenMany, .ref h_lastBy, .ref h_isKept, .ref h_lanes, .ref h_lengths, .ref h_cells, .int torn])), (h_state, .inl (cI, 240, .inl u1))] rfl dX5_stepsGo_15 (fun H locs hX => ?_)
  refine lv_aload_n (pc := 18) hx hb dX5_stepsGo_18 rfl (lv_at hl 0 rfl) ?_
  refine lv_iconst (pc := 19) (v := 0) hx hb dX5_stepsGo_19 (by decide) ?_
  refine x_putf (pc := 20) (Cn := RX5) (T := TX5) (N := 24) C hX tyX5 tyX5_ok nmX5 0 rfl rfl miX5_stepsGo_X5 15 (by decide) mmX5_stepsGo_3 rfl rfl (Nat.le_of_ble_eq_true rfl) [(h0, .inr (5, [.ref h_state, .ref h_readPage, .ref h_tape, .int taped, .int fault, .int broken, .int brokenAt, .int spot, .int here, .int token, .int value, .ref h_ends, .ref h_letters, .int (0 : Int32), .int (0 : Int32), .int (0 : Int32), .ref h_seen, .int seenMany, .ref h_lastBy, .ref h_isKept, .ref h_lanes, .ref h_lengths, .ref h_cells, .int torn])), (h_state, .inl (cI, 240, .inl u1))] rfl dX5_stepsGo_20 (fun H locs hX => ?_)
  refine lv_iconst (pc := 23) (v := 0) hx hb dX5_stepsGo_23 (by decide) ?_
  refine lv_istore_n (pc := 24) (lv' := [(3, .int (0 : Int32)), (0, .ref h0), (1, .int p1), (2, .int p2)]) hx hb dX5_stepsGo_24 rfl hl (by decide) rfl (fun ls hl => ?_)
  exact L25  xF p2 (0 : Int32) (0 : Int32) (0 : Int32) (0 : Int32) u1 _ _ _ hf hX (lv_sub hl [1, 3, 0] rfl)
theorem mmX5_runs_1 : Cond.constantLong RX5 185 (4) ∈ wsX5_runs := List.mem_of_getElem? (i := 1) rfl
theorem mmX5_runs_2 : Cond.fieldLink RX5 134 "SlackArmsModel" "moved" "I" ∈ wsX5_runs := List.mem_of_getElem? (i := 2) rfl
theorem miX5_runs_X5 : ∀ w ∈ u_ws RX5 TX5 24, w ∈ wsX5_runs := fun w h => List.mem_cons_of_mem _ (List.mem_append_right _ h)
theorem mmX5_runs_3 : Cond.constant RX5 144 (200000) ∈ wsX5_runs := List.mem_of_getElem? (i := 3) rfl
theorem mmX5_runs_4 : Cond.fieldLink RX5 7 "SlackArmsModel" "state" "[I" ∈ wsX5_runs := List.mem_of_getElem? (i := 4) rfl
theorem mmX5_runs_5 : Cond.fieldLink RX5 179 "SlackArmsModel" "worst" "I" ∈ wsX5_runs := List.mem_of_getElem? (i := 5) rfl
theorem mmX5_runs_6 : Cond.fieldLink RX5 131 "SlackArmsModel" "turned" "I" ∈ wsX5_runs := List.mem_of_getElem? (i := 6) rfl
set_option maxHeartbeats 4000000 in
set_option maxRecDepth 100000 in
theorem kX5_runs (ad : xAd) (l : Launch) (D : va_G) (cI cB cZ cG cS : ClassId) (h0 h_state h_readPage h_tape h_ends h_letters h_seen h_lastBy h_isKept h_lanes h_lengths h_cells : Nat) (taped : Int32) (fault : Int32) (broken : Int32) (brokenAt : Int32) (spot : Int32) (here : Int32) (token : Int32) (value : Int32) (moved : Int32) (turned : Int32) (worst : Int32) (seenMany : Int32) (torn : Int32) (state : (Nat → Int32)) (r0 : Int32) (o_moved' : Int32) (o_turned' : Int32) (o_worst' : Int32) (o_state' : (Nat → Int32)) (p1 : Int32) (p2 : Int32) (hf : fX5_runs p1 p2 moved turned worst state = some (r0, o_moved', o_turned', o_worst', o_state')) : xMi ad l yX5_runs wsX5_runs ({ frames := 6, cells := 0, slots := 0, locals := 141 } : Room) D (xTY cI cB cZ cG cS) [.ref h0, .int p1, .int p2] [(h0, .inr (5, [.ref h_state, .ref h_readPage, .ref h_tape, .int taped, .int fault, .int broken, .int brokenAt, .int spot, .int here, .int token, .int value, .ref h_ends, .ref h_letters, .int moved, .int turned, .int worst, .ref h_seen, .int seenMany, .ref h_lastBy, .ref h_isKept, .ref h_lanes, .ref h_lengths, .ref h_cells, .int torn])), (h_state, .inl (cI, 240, .inl state))] [(h0, .inr (5, [.ref h_state, .ref h_readPage, .ref h_tape, .int taped, .int fault, .int broken, .int brokenAt, .int spot, .int here, .int token, .int value, .ref h_ends, .ref h_letters, .int o_moved', .int o_turned', .int o_worst', .ref h_seen, .int seenMany, .ref h_lastBy, .ref h_isKept, .ref h_lanes, .ref h_lengths, .ref h_cells, .int torn])), (h_state, .inl (cI, 240, .inl o_state'))] r0 := by
  refine xMi_of (cc := cX5_runs) (maxL := 5) (ty := .int) (by decide) rfl (Nat.le_of_ble_eq_true rfl) ?_
  intro p e s m args below meth c A Q ls C hX hl hret
  have hx := C.1.1
  have hb := C.1.2.1
  have hl : lv_has ls 5 [(0, .ref h0), (1, .int p1), (2, .int p2)] := hl
  unfold fX5_runs at hf
  refine lv_iload_n (pc := 0) hx hb dX5_runs_0 rfl (lv_at hl 1 rfl) ?_
  obtain ⟨r1, g2, hf⟩ := cl1_adv hf
  refine x_callSi (pc := 1) (rest := []) C hX (kX5_isLong ad l D cI cB cZ cG cS r1 p1 g2) (va_cwS 1 C.1.2.2.2.2 gX5_runs_X5_isLong rfl rfl rfl (by decide +kernel) ⟨Nat.le_of_ble_eq_true rfl, Nat.le_of_ble_eq_true rfl⟩) hl.1 rfl rfl (Nat.le_of_ble_eq_true rfl) dX5_runs_1 (fun H locs hX => ?_)
  refine lv_if_eq (pc := 4) (tgt := 19) hx hb dX5_runs_4 (by decide) (fun c3 => ?_) (fun c3 => ?_)
  · replace hf := ite_t c3 hf
    refine lv_iconst (pc := 19) (v := -1) hx hb dX5_runs_19 (by decide) ?_
    obtain ⟨rfl, rfl, rfl, rfl, rfl⟩ := re5 hf
    exact hret _ _ _ _ _ rfl rfl hX dX5_runs_20
  · replace hf := ite_f c3 hf
    refine lv_iload_n (pc := 7) hx hb dX5_runs_7 rfl (lv_at hl 2 rfl) ?_
    refine lv_i2l (pc := 8) (v := ((p2).toInt64)) hx hb dX5_runs_8 rfl ?_
    refine lv_lconst (pc := 9) (v := 0) hx hb dX5_runs_9 (by decide) ?_
    refine lv_ldc2 (pc := 10) hx hb C.1.2.2.2.1 (C.1.2.2.2.2 _ mmX5_runs_1) dX5_runs_10 ?_
    obtain ⟨r4, g5, hf⟩ := cl1_adv hf
    refine x_callSi (pc := 13) (rest := []) C hX (kX5_in ad l D cI cB cZ cG cS r4 ((p2).toInt64) (0 : Int64) (4 : Int64) g5) (va_cwS 3 C.1.2.2.2.2 gX5_runs_X5_in rfl rfl rfl (by decide +kernel) ⟨Nat.le_of_ble_eq_true rfl, Nat.le_of_ble_eq_true rfl⟩) hl.1 rfl rfl (Nat.le_of_ble_eq_true rfl) dX5_runs_13 (fun H locs hX => ?_)
    refine lv_if_ne (pc := 16) (tgt := 21) hx hb dX5_runs_16 (by decide) (fun c6 => ?_) (fun c6 => ?_)
    · replace hf := ite_f c6 hf
      refine lv_aload_n (pc := 21) hx hb dX5_runs_21 rfl (lv_at hl 0 rfl) ?_
      refine lv_iconst (pc := 22) (v := 0) hx hb dX5_runs_22 (by decide) ?_
      refine lv_iload_n (pc := 23) hx hb dX5_runs_23 rfl (lv_at hl 1 rfl) ?_
      obtain ⟨r7, u8, u9, u10, u11, g12, hf⟩ := cl5_adv hf
      refine x_callVi (pc := 24) (rest := []) (w2 := [(h0, .inr (5, [.ref h_state, .ref h_readPage, .ref h_tape, .int taped, .int fault, .int broken, .int brokenAt, .int spot, .int here, .int token, .int value, .ref h_ends, .ref h_letters, .int u8, .int u9, .int u10, .ref h_seen, .int seenMany, .ref h_lastBy, .ref h_isKept, .ref h_lanes, .ref h_lengths, .ref h_cells, .int torn])), (h_state, .inl (cI, 240, .inl u11))]) C hX (kX5_stepsGo ad l D cI cB cZ cG cS h0 h_state h_readPage h_tape h_ends h_letters h_seen h_lastBy h_isKept h_lanes h_lengths h_cells taped fault broken brokenAt spot here token value moved turned worst seenMany torn state r7 u8 u9 u10 u11 (0 : Int32) p1 g12) (cwV 2 C.1.2.2.2.2 gX5_runs_X5_stepsGo rfl rfl rfl (by decide +kernel) ⟨Nat.le_of_ble_eq_true rfl, Nat.le_of_ble_eq_true rfl⟩) [0, 1] [] [0, 1] rfl rfl rfl rfl (by decide) rfl rfl 0 rfl rfl rfl hl.1 rfl rfl (Nat.le_of_ble_eq_true rfl) dX5_runs_24 (fun H locs hX => ?_)
      refine lv_istore_n (pc := 27) (lv' := [(3, .int r7), (0, .ref h0), (1, .int p1), (2, .int p2)]) hx hb dX5_runs_27 rfl hl (by decide) rfl (fun ls hl => ?_)
      refine lv_aload_n (pc := 28) hx hb dX5_runs_28 rfl (lv_at hl 1 rfl) ?_
      refine lv_iconst (pc := 29) (v := 0) hx hb dX5_runs_29 (by decide) ?_
      obtain ⟨r13, g14, hf⟩ := cl1_adv hf
      refine x_callVi (pc := 30) (rest := []) (w2 := [(h0, .inr (5, [.ref h_state, .ref h_readPage, .ref h_tape, .int taped, .int fault, .int broken, .int brokenAt, .int spot, .int here, .int token, .int value, .ref h_ends, .ref h_letters, .int u8, .int u9, .int u10, .ref h_seen, .int seenMany, .ref h_lastBy, .ref h_isKept, .ref h_lanes, .ref h_lengths, .ref h_cells, .int torn])), (h_state, .inl (cI, 240, .inl u11))]) C hX (kX5_errorOn ad l D cI cB cZ cG cS h0 h_state h_readPage h_tape h_ends h_letters h_seen h_lastBy h_isKept h_lanes h_lengths h_cells taped fault broken brokenAt spot here token value u8 u9 u10 seenMany torn u11 r13 (0 : Int32) g14) (cwV 1 C.1.2.2.2.2 gX5_runs_X5_errorOn rfl rfl rfl (by decide +kernel) ⟨Nat.le_of_ble_eq_true rfl, Nat.le_of_ble_eq_true rfl⟩) [0, 1] [] [0, 1] rfl rfl rfl rfl (by decide) rfl rfl 0 rfl rfl rfl hl.1 rfl rfl (Nat.le_of_ble_eq_true rfl) dX5_runs_30 (fun H locs hX => ?_)
      refine lv_istore (pc := 33) (lv' := [(4, .int r13), (3, .int r7), (0, .ref h0), (1, .int p1), (2, .int p2)]) hx hb dX5_runs_33 hl (by decide) rfl (fun ls hl => ?_)
      refine lv_iload_n (pc := 35) hx hb dX5_runs_35 rfl (lv_at hl 4 rfl) ?_
      rcases Decidable.em (p2 = 0) with c15 | c15
      · replace hf := ite_t c15 hf
        refine lv_tableIn (pc := 36) (off := 32) (tgt := 68) hx hb dX5_runs_36 (by rw [c15]; decide) (by rw [c15]; decide) (by rw [c15]; decide) (by decide) ?_
        refine lv_aload_n (pc := 68) hx hb dX5_runs_68 rfl (lv_at hl 2 rfl) ?_
        refine x_getf (pc := 69) (Cn := RX5) (T := TX5) (N := 24) C hX 0 rfl rfl miX5_runs_X5 13 (by decide) mmX5_runs_2 rfl dX5_runs_69 ?_
        obtain ⟨rfl, rfl, rfl, rfl, rfl⟩ := re5 hf
        exact hret _ _ _ _ _ rfl rfl hX dX5_runs_72
      · replace hf := ite_f c15 hf
        rcases Decidable.em (p2 = 1) with c16 | c16
        · replace hf := ite_t c16 hf
          refine lv_tableIn (pc := 36) (off := 37) (tgt := 73) hx hb dX5_runs_36 (by rw [c16]; decide) (by rw [c16]; decide) (by rw [c16]; decide) (by decide) ?_
          refine lv_ldc (pc := 73) hx hb C.1.2.2.2.1 (C.1.2.2.2.2 _ mmX5_runs_3) dX5_runs_73 ?_
          refine lv_aload_n (pc := 75) hx hb dX5_runs_75 rfl (lv_at hl 2 rfl) ?_
          refine x_getf (pc := 76) (Cn := RX5) (T := TX5) (N := 24) C hX 0 rfl rfl miX5_runs_X5 0 (by decide) mmX5_runs_4 rfl dX5_runs_76 ?_
          refine lv_sipush (pc := 79) (v := 198) hx hb dX5_runs_79 (by decide) ?_
          replace hf := chk_adv hf
          have i17 := hf.1
          replace hf := hf.2
          refine x_iald (pc := 82) C hX 1 0 rfl rfl i17 dX5_runs_82 ?_
          refine lv_iadd (pc := 83) hx hb dX5_runs_83 ?_
          obtain ⟨rfl, rfl, rfl, rfl, rfl⟩ := re5 hf
          exact hret _ _ _ _ _ rfl rfl hX dX5_runs_84
        · replace hf := ite_f c16 hf
          rcases Decidable.em (p2 = 2) with c18 | c18
          · replace hf := ite_t c18 hf
            refine lv_tableIn (pc := 36) (off := 49) (tgt := 85) hx hb dX5_runs_36 (by rw [c18]; decide) (by rw [c18]; decide) (by rw [c18]; decide) (by decide) ?_
            refine lv_iload_n (pc := 85) hx hb dX5_runs_85 rfl (lv_at hl 1 rfl) ?_
            obtain ⟨rfl, rfl, rfl, rfl, rfl⟩ := re5 hf
            exact hret _ _ _ _ _ rfl rfl hX dX5_runs_86
          · replace hf := ite_f c18 hf
            rcases Decidable.em (p2 = 3) with c19 | c19
            · replace hf := ite_t c19 hf
              refine lv_tableIn (pc := 36) (off := 51) (tgt := 87) hx hb dX5_runs_36 (by rw [c19]; decide) (by rw [c19]; decide) (by rw [c19]; decide) (by decide) ?_
              refine lv_iload (pc := 87) hx hb dX5_runs_87 (lv_at hl 0 rfl) ?_
              refine lv_aload_n (pc := 89) hx hb dX5_runs_89 rfl (lv_at hl 2 rfl) ?_
              refine x_getf (pc := 90) (Cn := RX5) (T := TX5) (N := 24) C hX 0 rfl rfl miX5_runs_X5 15 (by decide) mmX5_runs_5 rfl dX5_runs_90 ?_
              refine lv_icmp_le (pc := 93) (tgt := 101) hx hb dX5_runs_93 (by decide) (fun c20 => ?_) (fun c20 => ?_)
              · replace hf := ite_t c20 hf
                refine lv_aload_n (pc := 101) hx hb dX5_runs_101 rfl (lv_at hl 2 rfl) ?_
                refine x_getf (pc := 102) (Cn := RX5) (T := TX5) (N := 24) C hX 0 rfl rfl miX5_runs_X5 15 (by decide) mmX5_runs_5 rfl dX5_runs_102 ?_
                obtain ⟨rfl, rfl, rfl, rfl, rfl⟩ := re5 hf
                exact hret _ _ _ _ _ rfl rfl hX dX5_runs_105
              · replace hf := ite_f c20 hf
                refine lv_iload (pc := 96) hx hb dX5_runs_96 (lv_at hl 0 rfl) ?_
                refine lv_goto (pc := 98) (tgt := 105) hx hb dX5_runs_98 (by decide) ?_
                obtain ⟨rfl, rfl, rfl, rfl, rfl⟩ := re5 hf
                exact hret _ _ _ _ _ rfl rfl hX dX5_runs_105
            · replace hf := ite_f c19 hf
              refine lv_tableOut (pc := 36) (tgt := 106) hx hb dX5_runs_36 (by have := tbl_ne (n := 0) (by decide) c15; have := tbl_ne (n := 1) (by decide) c16; have := tbl_ne (n := 2) (by decide) c18; have := tbl_ne (n := 3) (by decide) c19; omega) (by decide) ?_
              refine lv_aload_n (pc := 106) hx hb dX5_runs_106 rfl (lv_at hl 2 rfl) ?_
              refine x_getf (pc := 107) (Cn := RX5) (T := TX5) (N := 24) C hX 0 rfl rfl miX5_runs_X5 14 (by decide) mmX5_runs_6 rfl dX5_runs_107 ?_
              obtain ⟨rfl, rfl, rfl, rfl, rfl⟩ := re5 hf
              exact hret _ _ _ _ _ rfl rfl hX dX5_runs_110
    · replace hf := ite_t c6 hf
      refine lv_iconst (pc := 19) (v := -1) hx hb dX5_runs_19 (by decide) ?_
      obtain ⟨rfl, rfl, rfl, rfl, rfl⟩ := re5 hf
      exact hret _ _ _ _ _ rfl rfl hX dX5_runs_20
theorem mmX5_ahead_1 : Cond.constant RX5 144 (200000) ∈ wsX5_ahead := List.mem_of_getElem? (i := 1) rfl
theorem mmX5_ahead_2 : Cond.fieldLink RX5 7 "SlackArmsModel" "state" "[I" ∈ wsX5_ahead := List.mem_of_getElem? (i := 2) rfl
theorem miX5_ahead_X5 : ∀ w ∈ u_ws RX5 TX5 24, w ∈ wsX5_ahead := fun w h => List.mem_cons_of_mem _ (List.mem_append_right _ h)
set_option maxHeartbeats 4000000 in
set_option maxRecDepth 100000 in
theorem kX5_ahead (ad : xAd) (l : Launch) (D : va_G) (cI cB cZ cG cS : ClassId) (h0 h_state h_readPage h_tape h_ends h_letters h_seen h_lastBy h_isKept h_lanes h_lengths h_cells : Nat) (taped : Int32) (fault : Int32) (broken : Int32) (brokenAt : Int32) (spot : Int32) (here : Int32) (token : Int32) (value : Int32) (moved : Int32) (turned : Int32) (worst : Int32) (seenMany : Int32) (torn : Int32) (state : (Nat → Int32)) (r0 : Int32) (o_moved' : Int32) (o_turned' : Int32) (o_worst' : Int32) (o_state' : (Nat → Int32)) (p1 : Int32) (p2 : Int32) (hf : fX5_ahead p1 p2 moved turned worst state = some (r0, o_moved', o_turned', o_worst', o_state')) : xMi ad l yX5_ahead wsX5_ahead ({ frames := 6, cells := 0, slots := 0, locals := 141 } : Room) D (xTY cI cB cZ cG cS) [.ref h0, .int p1, .int p2] [(h0, .inr (5, [.ref h_state, .ref h_readPage, .ref h_tape, .int taped, .int fault, .int broken, .int brokenAt, .int spot, .int here, .int token, .int value, .ref h_ends, .ref h_letters, .int moved, .int turned, .int worst, .ref h_seen, .int seenMany, .ref h_lastBy, .ref h_isKept, .ref h_lanes, .ref h_lengths, .ref h_cells, .int torn])), (h_state, .inl (cI, 240, .inl state))] [(h0, .inr (5, [.ref h_state, .ref h_readPage, .ref h_tape, .int taped, .int fault, .int broken, .int brokenAt, .int spot, .int here, .int token, .int value, .ref h_ends, .ref h_letters, .int o_moved', .int o_turned', .int o_worst', .ref h_seen, .int seenMany, .ref h_lastBy, .ref h_isKept, .ref h_lanes, .ref h_lengths, .ref h_cells, .int torn])), (h_state, .inl (cI, 240, .inl o_state'))] r0 := by
  refine xMi_of (cc := cX5_ahead) (maxL := 3) (ty := .int) (by decide) rfl (Nat.le_of_ble_eq_true rfl) ?_
  intro p e s m args below meth c A Q ls C hX hl hret
  have hx := C.1.1
  have hb := C.1.2.1
  have hl : lv_has ls 3 [(0, .ref h0), (1, .int p1), (2, .int p2)] := hl
  unfold fX5_ahead at hf
  refine lv_aload_n (pc := 0) hx hb dX5_ahead_0 rfl (lv_at hl 0 rfl) ?_
  refine lv_iload_n (pc := 1) hx hb dX5_ahead_1 rfl (lv_at hl 1 rfl) ?_
  obtain ⟨r1, g2, hf⟩ := cl1_adv hf
  refine x_callVi (pc := 2) (rest := []) (w2 := [(h0, .inr (5, [.ref h_state, .ref h_readPage, .ref h_tape, .int taped, .int fault, .int broken, .int brokenAt, .int spot, .int here, .int token, .int value, .ref h_ends, .ref h_letters, .int moved, .int turned, .int worst, .ref h_seen, .int seenMany, .ref h_lastBy, .ref h_isKept, .ref h_lanes, .ref h_lengths, .ref h_cells, .int torn])), (h_state, .inl (cI, 240, .inl state))]) C hX (kX5_isArm ad l D cI cB cZ cG cS h0 h_state h_readPage h_tape h_ends h_letters h_seen h_lastBy h_isKept h_lanes h_lengths h_cells taped fault broken brokenAt spot here token value moved turned worst seenMany torn state r1 p1 g2) (cwV 1 C.1.2.2.2.2 gX5_ahead_X5_isArm rfl rfl rfl (by decide +kernel) ⟨Nat.le_of_ble_eq_true rfl, Nat.le_of_ble_eq_true rfl⟩) [0, 1] [] [0, 1] rfl rfl rfl rfl (by decide) rfl rfl 0 rfl rfl rfl hl.1 rfl rfl (Nat.le_of_ble_eq_true rfl) dX5_ahead_2 (fun H locs hX => ?_)
  refine lv_if_eq (pc := 5) (tgt := 15) hx hb dX5_ahead_5 (by decide) (fun c3 => ?_) (fun c3 => ?_)
  · replace hf := ite_t c3 hf
    refine lv_iconst (pc := 15) (v := -1) hx hb dX5_ahead_15 (by decide) ?_
    obtain ⟨rfl, rfl, rfl, rfl, rfl⟩ := re5 hf
    exact hret _ _ _ _ _ rfl rfl hX dX5_ahead_16
  · replace hf := ite_f c3 hf
    refine lv_iload_n (pc := 8) hx hb dX5_ahead_8 rfl (lv_at hl 2 rfl) ?_
    obtain ⟨r4, g5, hf⟩ := cl1_adv hf
    refine x_callSi (pc := 9) (rest := []) C hX (kX5_isLong ad l D cI cB cZ cG cS r4 p2 g5) (va_cwS 1 C.1.2.2.2.2 gX5_ahead_X5_isLong rfl rfl rfl (by decide +kernel) ⟨Nat.le_of_ble_eq_true rfl, Nat.le_of_ble_eq_true rfl⟩) hl.1 rfl rfl (Nat.le_of_ble_eq_true rfl) dX5_ahead_9 (fun H locs hX => ?_)
    refine lv_if_ne (pc := 12) (tgt := 17) hx hb dX5_ahead_12 (by decide) (fun c6 => ?_) (fun c6 => ?_)
    · replace hf := ite_f c6 hf
      refine lv_aload_n (pc := 17) hx hb dX5_ahead_17 rfl (lv_at hl 0 rfl) ?_
      refine lv_iconst (pc := 18) (v := 0) hx hb dX5_ahead_18 (by decide) ?_
      refine lv_iload_n (pc := 19) hx hb dX5_ahead_19 rfl (lv_at hl 2 rfl) ?_
      obtain ⟨r7, u8, u9, u10, u11, g12, hf⟩ := cl5_adv hf
      refine x_callVi (pc := 20) (rest := []) (w2 := [(h0, .inr (5, [.ref h_state, .ref h_readPage, .ref h_tape, .int taped, .int fault, .int broken, .int brokenAt, .int spot, .int here, .int token, .int value, .ref h_ends, .ref h_letters, .int u8, .int u9, .int u10, .ref h_seen, .int seenMany, .ref h_lastBy, .ref h_isKept, .ref h_lanes, .ref h_lengths, .ref h_cells, .int torn])), (h_state, .inl (cI, 240, .inl u11))]) C hX (kX5_stepsGo ad l D cI cB cZ cG cS h0 h_state h_readPage h_tape h_ends h_letters h_seen h_lastBy h_isKept h_lanes h_lengths h_cells taped fault broken brokenAt spot here token value moved turned worst seenMany torn state r7 u8 u9 u10 u11 (0 : Int32) p2 g12) (cwV 2 C.1.2.2.2.2 gX5_ahead_X5_stepsGo rfl rfl rfl (by decide +kernel) ⟨Nat.le_of_ble_eq_true rfl, Nat.le_of_ble_eq_true rfl⟩) [0, 1] [] [0, 1] rfl rfl rfl rfl (by decide) rfl rfl 0 rfl rfl rfl hl.1 rfl rfl (Nat.le_of_ble_eq_true rfl) dX5_ahead_20 (fun H locs hX => ?_)
      refine lv_pop (pc := 23) hx hb dX5_ahead_23 rfl ?_
      refine lv_ldc (pc := 24) hx hb C.1.2.2.2.1 (C.1.2.2.2.2 _ mmX5_ahead_1) dX5_ahead_24 ?_
      refine lv_aload_n (pc := 26) hx hb dX5_ahead_26 rfl (lv_at hl 0 rfl) ?_
      refine x_getf (pc := 27) (Cn := RX5) (T := TX5) (N := 24) C hX 0 rfl rfl miX5_ahead_X5 0 (by decide) mmX5_ahead_2 rfl dX5_ahead_27 ?_
      refine lv_sipush (pc := 30) (v := 168) hx hb dX5_ahead_30 (by decide) ?_
      refine lv_iload_n (pc := 33) hx hb dX5_ahead_33 rfl (lv_at hl 1 rfl) ?_
      refine lv_iadd (pc := 34) hx hb dX5_ahead_34 ?_
      replace hf := chk_adv hf
      have i13 := hf.1
      replace hf := hf.2
      refine x_iald (pc := 35) C hX 1 0 rfl rfl i13 dX5_ahead_35 ?_
      refine lv_iadd (pc := 36) hx hb dX5_ahead_36 ?_
      obtain ⟨rfl, rfl, rfl, rfl, rfl⟩ := re5 hf
      exact hret _ _ _ _ _ rfl rfl hX dX5_ahead_37
    · replace hf := ite_t c6 hf
      refine lv_iconst (pc := 15) (v := -1) hx hb dX5_ahead_15 (by decide) ?_
      obtain ⟨rfl, rfl, rfl, rfl, rfl⟩ := re5 hf
      exact hret _ _ _ _ _ rfl rfl hX dX5_ahead_16
theorem mmX5_when_1 : Cond.constant RX5 144 (200000) ∈ wsX5_when := List.mem_of_getElem? (i := 1) rfl
theorem mmX5_when_2 : Cond.fieldLink RX5 7 "SlackArmsModel" "state" "[I" ∈ wsX5_when := List.mem_of_getElem? (i := 2) rfl
theorem miX5_when_X5 : ∀ w ∈ u_ws RX5 TX5 24, w ∈ wsX5_when := fun w h => List.mem_cons_of_mem _ (List.mem_append_right _ h)
set_option maxHeartbeats 4000000 in
set_option maxRecDepth 100000 in
theorem kX5_when (ad : xAd) (l : Launch) (D : va_G) (cI cB cZ cG cS : ClassId) (h0 h_state h_readPage h_tape h_ends h_letters h_seen h_lastBy h_isKept h_lanes h_lengths h_cells : Nat) (taped : Int32) (fault : Int32) (broken : Int32) (brokenAt : Int32) (spot : Int32) (here : Int32) (token : Int32) (value : Int32) (moved : Int32) (turned : Int32) (worst : Int32) (seenMany : Int32) (torn : Int32) (state : (Nat → Int32)) (r0 : Int32) (o_moved' : Int32) (o_turned' : Int32) (o_state' : (Nat → Int32)) (p1 : Int32) (p2 : Int32) (hf : fX5_when p1 p2 moved turned state = some (r0, o_moved', o_turned', o_state')) : xMi ad l yX5_when wsX5_when ({ frames := 5, cells := 0, slots := 0, locals := 117 } : Room) D (xTY cI cB cZ cG cS) [.ref h0, .int p1, .int p2] [(h0, .inr (5, [.ref h_state, .ref h_readPage, .ref h_tape, .int taped, .int fault, .int broken, .int brokenAt, .int spot, .int here, .int token, .int value, .ref h_ends, .ref h_letters, .int moved, .int turned, .int worst, .ref h_seen, .int seenMany, .ref h_lastBy, .ref h_isKept, .ref h_lanes, .ref h_lengths, .ref h_cells, .int torn])), (h_state, .inl (cI, 240, .inl state))] [(h0, .inr (5, [.ref h_state, .ref h_readPage, .ref h_tape, .int taped, .int fault, .int broken, .int brokenAt, .int spot, .int here, .int token, .int value, .ref h_ends, .ref h_letters, .int o_moved', .int o_turned', .int worst, .ref h_seen, .int seenMany, .ref h_lastBy, .ref h_isKept, .ref h_lanes, .ref h_lengths, .ref h_cells, .int torn])), (h_state, .inl (cI, 240, .inl o_state'))] r0 := by
  refine xMi_of (cc := cX5_when) (maxL := 6) (ty := .int) (by decide) rfl (Nat.le_of_ble_eq_true rfl) ?_
  intro p e s m args below meth c A Q ls C hX hl hret
  have hx := C.1.1
  have hb := C.1.2.1
  have hl : lv_has ls 6 [(0, .ref h0), (1, .int p1), (2, .int p2)] := hl
  have L100 : ∀ (k43 : Int32 → Int32 → Int32 → Int32 → Int32 → (Nat → Int32) → Option (Int32 × Int32 × Int32 × (Nat → Int32))) (hk43 : ∀ (x1 : Int32) (x3 : Int32) (x4 : Int32) (moved : Int32) (turned : Int32) (state : (Nat → Int32)) (H : Heap) (locs : List Loc) (ls : Array Slot), k43 x1 x3 x4 moved turned state = some (r0, o_moved', o_turned', o_state') → xSt A s D [(h0, .inr (5, [.ref h_state, .ref h_readPage, .ref h_tape, .int taped, .int fault, .int broken, .int brokenAt, .int spot, .int here, .int token, .int value, .ref h_ends, .ref h_letters, .int moved, .int turned, .int worst, .ref h_seen, .int seenMany, .ref h_lastBy, .ref h_isKept, .ref h_lanes, .ref h_lengths, .ref h_cells, .int torn])), (h_state, .inl (cI, 240, .inl state))] H locs → lv_has ls 6 [(0, .ref h0), (1, .int x1), (3, .int x3), (4, .int x4)] → W p l e ({ frames := 5, cells := 0, slots := 0, locals := 117 } : Room) s m args below meth c H locs 0 0 Q (F0 m 43 ls [])), ∀ (x1 : Int32) (x3 : Int32) (x4 : Int32) (moved : Int32) (turned : Int32) (state : (Nat → Int32)) (H : Heap) (locs : List Loc) (ls : Array Slot), fX5_when_L100  k43 x1 x3 x4 moved turned state = some (r0, o_moved', o_turned', o_state') → xSt A s D [(h0, .inr (5, [.ref h_state, .ref h_readPage, .ref h_tape, .int taped, .int fault, .int broken, .int brokenAt, .int spot, .int here, .int token, .int value, .ref h_ends, .ref h_letters, .int moved, .int turned, .int worst, .ref h_seen, .int seenMany, .ref h_lastBy, .ref h_isKept, .ref h_lanes, .ref h_lengths, .ref h_cells, .int torn])), (h_state, .inl (cI, 240, .inl state))] H locs → lv_has ls 6 [(0, .ref h0), (1, .int x1), (3, .int x3), (4, .int x4)] → W p l e ({ frames := 5, cells := 0, slots := 0, locals := 117 } : Room) s m args below meth c H locs 0 0 Q (F0 m 100 ls []) := by
    intro k43 hk43 x1 x3 x4 moved turned state H locs ls hf hX hl
    unfold fX5_when_L100 at hf
    refine lv_aload_n (pc := 100) hx hb dX5_when_100 rfl (lv_at hl 0 rfl) ?_
    refine lv_sipush (pc := 101) (v := 160) hx hb dX5_when_101 (by decide) ?_
    refine lv_iconst (pc := 104) (v := 0) hx hb dX5_when_104 (by decide) ?_
    obtain ⟨u18, u19, u20, g21, hf⟩ := cl3_adv hf
    refine x_callVv (pc := 105) (rest := []) (w2 := [(h0, .inr (5, [.ref h_state, .ref h_readPage, .ref h_tape, .int taped, .int fault, .int broken, .int brokenAt, .int spot, .int here, .int token, .int value, .ref h_ends, .ref h_letters, .int u18, .int u19, .int worst, .ref h_seen, .int seenMany, .ref h_lastBy, .ref h_isKept, .ref h_lanes, .ref h_lengths, .ref h_cells, .int torn])), (h_state, .inl (cI, 240, .inl u20))]) C hX (kX5_stepOn ad l D cI cB cZ cG cS h0 h_state h_readPage h_tape h_ends h_letters h_seen h_lastBy h_isKept h_lanes h_lengths h_cells taped fault broken brokenAt spot here token value moved turned worst seenMany torn state u18 u19 u20 (160 : Int32) (0 : Int32) g21) (cwV 2 C.1.2.2.2.2 gX5_when_X5_stepOn rfl rfl rfl (by decide +kernel) ⟨Nat.le_of_ble_eq_true rfl, Nat.le_of_ble_eq_true rfl⟩) [0, 1] [] [0, 1] rfl rfl rfl rfl (by decide) rfl rfl 0 rfl rfl rfl hl.1 rfl rfl (Nat.le_of_ble_eq_true rfl) dX5_when_105 (fun H locs hX => ?_)
    obtain ⟨v22, ev22⟩ : ∃ y : Int32, y = (x4 + (1 : Int32)) := ⟨_, rfl⟩
    replace hf := bnd_use ev22 hf
    refine lv_iinc (pc := 108) (v := v22) (lv' := [(4, .int v22), (0, .ref h0), (1, .int x1), (3, .int x3)]) hx hb dX5_when_108 hl (k := 3) rfl (by rw [ev22]; rfl) (by decide) rfl (fun ls hl => ?_)
    refine lv_goto (pc := 111) (tgt := 43) hx hb dX5_when_111 (by decide) ?_
    exact hk43 x1 x3 v22 u18 u19 u20 _ _ _ hf hX (lv_sub hl [1, 2, 3, 0] rfl)
  have L87 : ∀ (k43 : Int32 → Int32 → Int32 → Int32 → Int32 → (Nat → Int32) → Option (Int32 × Int32 × Int32 × (Nat → Int32))) (hk43 : ∀ (x1 : Int32) (x3 : Int32) (x4 : Int32) (moved : Int32) (turned : Int32) (state : (Nat → Int32)) (H : Heap) (locs : List Loc) (ls : Array Slot), k43 x1 x3 x4 moved turned state = some (r0, o_moved', o_turned', o_state') → xSt A s D [(h0, .inr (5, [.ref h_state, .ref h_readPage, .ref h_tape, .int taped, .int fault, .int broken, .int brokenAt, .int spot, .int here, .int token, .int value, .ref h_ends, .ref h_letters, .int moved, .int turned, .int worst, .ref h_seen, .int seenMany, .ref h_lastBy, .ref h_isKept, .ref h_lanes, .ref h_lengths, .ref h_cells, .int torn])), (h_state, .inl (cI, 240, .inl state))] H locs → lv_has ls 6 [(0, .ref h0), (1, .int x1), (3, .int x3), (4, .int x4)] → W p l e ({ frames := 5, cells := 0, slots := 0, locals := 117 } : Room) s m args below meth c H locs 0 0 Q (F0 m 43 ls [])), ∀ (x1 : Int32) (x3 : Int32) (x4 : Int32) (x5 : Int32) (moved : Int32) (turned : Int32) (state : (Nat → Int32)) (H : Heap) (locs : List Loc) (ls : Array Slot), fX5_when_L87  k43 x1 x3 x4 x5 moved turned state = some (r0, o_moved', o_turned', o_state') → xSt A s D [(h0, .inr (5, [.ref h_state, .ref h_readPage, .ref h_tape, .int taped, .int fault, .int broken, .int brokenAt, .int spot, .int here, .int token, .int value, .ref h_ends, .ref h_letters, .int moved, .int turned, .int worst, .ref h_seen, .int seenMany, .ref h_lastBy, .ref h_isKept, .ref h_lanes, .ref h_lengths, .ref h_cells, .int torn])), (h_state, .inl (cI, 240, .inl state))] H locs → lv_has ls 6 [(0, .ref h0), (1, .int x1), (3, .int x3), (4, .int x4), (5, .int x5)] → W p l e ({ frames := 5, cells := 0, slots := 0, locals := 117 } : Room) s m args below meth c H locs 0 0 Q (F0 m 87 ls []) := by
    intro k43 hk43 x1 x3 x4 x5 moved turned state H locs ls hf hX hl
    unfold fX5_when_L87 at hf
    refine lv_iload_n (pc := 87) hx hb dX5_when_87 rfl (lv_at hl 2 rfl) ?_
    refine lv_if_ge (pc := 88) (tgt := 100) hx hb dX5_when_88 (by decide) (fun c17 => ?_) (fun c17 => ?_)
    · replace hf := ite_t c17 hf
      exact L100 (k43) hk43 x1 x3 x4 moved turned state _ _ _ hf hX (lv_sub hl [0, 1, 2, 3] rfl)
    · replace hf := ite_f c17 hf
      refine lv_iload (pc := 91) hx hb dX5_when_91 (lv_at hl 4 rfl) ?_
      refine lv_iload_n (pc := 93) hx hb dX5_when_93 rfl (lv_at hl 2 rfl) ?_
      refine lv_icmp_gt (pc := 94) (tgt := 100) hx hb dX5_when_94 (by decide) (fun c23 => ?_) (fun c23 => ?_)
      · replace hf := ite_t c23 hf
        exact L100 (k43) hk43 x1 x3 x4 moved turned state _ _ _ hf hX (lv_sub hl [0, 1, 2, 3] rfl)
      · replace hf := ite_f c23 hf
        refine lv_iload (pc := 97) hx hb dX5_when_97 (lv_at hl 3 rfl) ?_
        obtain ⟨rfl, rfl, rfl, rfl⟩ := re4 hf
        exact hret _ _ _ _ _ rfl rfl hX dX5_when_99
  have L43 : ∀ (n : Nat), ∀ (x1 : Int32) (x3 : Int32) (x4 : Int32) (moved : Int32) (turned : Int32) (state : (Nat → Int32)) (H : Heap) (locs : List Loc) (ls : Array Slot), fX5_when_L43  n x1 x3 x4 moved turned state = some (r0, o_moved', o_turned', o_state') → xSt A s D [(h0, .inr (5, [.ref h_state, .ref h_readPage, .ref h_tape, .int taped, .int fault, .int broken, .int brokenAt, .int spot, .int here, .int token, .int value, .ref h_ends, .ref h_letters, .int moved, .int turned, .int worst, .ref h_seen, .int seenMany, .ref h_lastBy, .ref h_isKept, .ref h_lanes, .ref h_lengths, .ref h_cells, .int torn])), (h_state, .inl (cI, 240, .inl state))] H locs → lv_has ls 6 [(0, .ref h0), (1, .int x1), (3, .int x3), (4, .int x4)] → W p l e ({ frames := 5, cells := 0, slots := 0, locals := 117 } : Room) s m args below meth c H locs 0 0 Q (F0 m 43 ls []) := by
    intro n
    induction n with
    | zero =>
      intro x1 x3 x4 moved turned state H locs ls hf
      rw [fX5_when_L43] at hf
      cases hf
    | succ n ih =>
      intro x1 x3 x4 moved turned state H locs ls hf hX hl
      rw [fX5_when_L43] at hf
      refine lv_iload (pc := 43) hx hb dX5_when_43 (lv_at hl 3 rfl) ?_
      refine lv_sipush (pc := 45) (v := 200) hx hb dX5_when_45 (by decide) ?_
      refine lv_icmp_gt (pc := 48) (tgt := 114) hx hb dX5_when_48 (by decide) (fun c11 => ?_) (fun c11 => ?_)
      · replace hf := ite_t c11 hf
        refine lv_bipush (pc := 114) (v := -4) hx hb dX5_when_114 (by decide) ?_
        obtain ⟨rfl, rfl, rfl, rfl⟩ := re4 hf
        exact hret _ _ _ _ _ rfl rfl hX dX5_when_116
      · replace hf := ite_f c11 hf
        refine lv_aload_n (pc := 51) hx hb dX5_when_51 rfl (lv_at hl 0 rfl) ?_
        refine x_getf (pc := 52) (Cn := RX5) (T := TX5) (N := 24) C hX 0 rfl rfl miX5_when_X5 0 (by decide) mmX5_when_2 rfl dX5_when_52 ?_
        refine lv_sipush (pc := 55) (v := 168) hx hb dX5_when_55 (by decide) ?_
        refine lv_iload_n (pc := 58) hx hb dX5_when_58 rfl (lv_at hl 1 rfl) ?_
        refine lv_iadd (pc := 59) hx hb dX5_when_59 ?_
        replace hf := chk_adv hf
        have i12 := hf.1
        replace hf := hf.2
        refine x_iald (pc := 60) C hX 1 0 rfl rfl i12 dX5_when_60 ?_
        refine lv_aload_n (pc := 61) hx hb dX5_when_61 rfl (lv_at hl 0 rfl) ?_
        refine x_getf (pc := 62) (Cn := RX5) (T := TX5) (N := 24) C hX 0 rfl rfl miX5_when_X5 0 (by decide) mmX5_when_2 rfl dX5_when_62 ?_
        refine lv_bipush (pc := 65) (v := 8) hx hb dX5_when_65 (by decide) ?_
        refine lv_iload_n (pc := 67) hx hb dX5_when_67 rfl (lv_at hl 1 rfl) ?_
        refine lv_iadd (pc := 68) hx hb dX5_when_68 ?_
        replace hf := chk_adv hf
        have i13 := hf.1
        replace hf := hf.2
        refine x_iald (pc := 69) C hX 1 0 rfl rfl i13 dX5_when_69 ?_
        refine lv_isub (pc := 70) hx hb dX5_when_70 ?_
        refine lv_topi (fun v14 ev14 => ?_)
        replace hf := bnd_use ev14 hf
        refine lv_istore (pc := 71) (lv' := [(5, .int v14), (0, .ref h0), (1, .int x1), (3, .int x3), (4, .int x4)]) hx hb dX5_when_71 hl (by decide) rfl (fun ls hl => ?_)
        refine lv_iload_n (pc := 73) hx hb dX5_when_73 rfl (lv_at hl 3 rfl) ?_
        refine lv_if_eq (pc := 74) (tgt := 97) hx hb dX5_when_74 (by decide) (fun c15 => ?_) (fun c15 => ?_)
        · replace hf := ite_t c15 hf
          refine lv_iload (pc := 97) hx hb dX5_when_97 (lv_at hl 4 rfl) ?_
          obtain ⟨rfl, rfl, rfl, rfl⟩ := re4 hf
          exact hret _ _ _ _ _ rfl rfl hX dX5_when_99
        · replace hf := ite_f c15 hf
          refine lv_iload_n (pc := 77) hx hb dX5_when_77 rfl (lv_at hl 3 rfl) ?_
          refine lv_if_le (pc := 78) (tgt := 87) hx hb dX5_when_78 (by decide) (fun c16 => ?_) (fun c16 => ?_)
          · replace hf := ite_t c16 hf
            exact L87 (fX5_when_L43  n) ih x1 x3 x4 v14 moved turned state _ _ _ hf hX (lv_sub hl [1, 2, 3, 4, 0] rfl)
          · replace hf := ite_f c16 hf
            refine lv_iload (pc := 81) hx hb dX5_when_81 (lv_at hl 0 rfl) ?_
            refine lv_iload_n (pc := 83) hx hb dX5_when_83 rfl (lv_at hl 3 rfl) ?_
            refine lv_icmp_ge (pc := 84) (tgt := 97) hx hb dX5_when_84 (by decide) (fun c24 => ?_) (fun c24 => ?_)
            · replace hf := ite_t c24 hf
              refine lv_iload (pc := 97) hx hb dX5_when_97 (lv_at hl 4 rfl) ?_
              obtain ⟨rfl, rfl, rfl, rfl⟩ := re4 hf
              exact hret _ _ _ _ _ rfl rfl hX dX5_when_99
            · replace hf := ite_f c24 hf
              exact L87 (fX5_when_L43  n) ih x1 x3 x4 v14 moved turned state _ _ _ hf hX (lv_sub hl [1, 2, 3, 4, 0] rfl)
  unfold fX5_when at hf
  refine lv_aload_n (pc := 0) hx hb dX5_when_0 rfl (lv_at hl 0 rfl) ?_
  refine lv_iload_n (pc := 1) hx hb dX5_when_1 rfl (lv_at hl 1 rfl) ?_
  obtain ⟨r1, g2, hf⟩ := cl1_adv hf
  refine x_callVi (pc := 2) (rest := []) (w2 := [(h0, .inr (5, [.ref h_state, .ref h_readPage, .ref h_tape, .int taped, .int fault, .int broken, .int brokenAt, .int spot, .int here, .int token, .int value, .ref h_ends, .ref h_letters, .int moved, .int turned, .int worst, .ref h_seen, .int seenMany, .ref h_lastBy, .ref h_isKept, .ref h_lanes, .ref h_lengths, .ref h_cells, .int torn])), (h_state, .inl (cI, 240, .inl state))]) C hX (kX5_isArm ad l D cI cB cZ cG cS h0 h_state h_readPage h_tape h_ends h_letters h_seen h_lastBy h_isKept h_lanes h_lengths h_cells taped fault broken brokenAt spot here token value moved turned worst seenMany torn state r1 p1 g2) (cwV 1 C.1.2.2.2.2 gX5_when_X5_isArm rfl rfl rfl (by decide +kernel) ⟨Nat.le_of_ble_eq_true rfl, Nat.le_of_ble_eq_true rfl⟩) [0, 1] [] [0, 1] rfl rfl rfl rfl (by decide) rfl rfl 0 rfl rfl rfl hl.1 rfl rfl (Nat.le_of_ble_eq_true rfl) dX5_when_2 (fun H locs hX => ?_)
  refine lv_if_eq (pc := 5) (tgt := 15) hx hb dX5_when_5 (by decide) (fun c3 => ?_) (fun c3 => ?_)
  · replace hf := ite_t c3 hf
    refine lv_iconst (pc := 15) (v := -1) hx hb dX5_when_15 (by decide) ?_
    obtain ⟨rfl, rfl, rfl, rfl⟩ := re4 hf
    exact hret _ _ _ _ _ rfl rfl hX dX5_when_16
  · replace hf := ite_f c3 hf
    refine lv_iload_n (pc := 8) hx hb dX5_when_8 rfl (lv_at hl 2 rfl) ?_
    obtain ⟨r4, g5, hf⟩ := cl1_adv hf
    refine x_callSi (pc := 9) (rest := []) C hX (kX5_isPlace ad l D cI cB cZ cG cS r4 p2 g5) (va_cwS 1 C.1.2.2.2.2 gX5_when_X5_isPlace rfl rfl rfl (by decide +kernel) ⟨Nat.le_of_ble_eq_true rfl, Nat.le_of_ble_eq_true rfl⟩) hl.1 rfl rfl (Nat.le_of_ble_eq_true rfl) dX5_when_9 (fun H locs hX => ?_)
    refine lv_if_ne (pc := 12) (tgt := 17) hx hb dX5_when_12 (by decide) (fun c6 => ?_) (fun c6 => ?_)
    · replace hf := ite_f c6 hf
      refine lv_iload_n (pc := 17) hx hb dX5_when_17 rfl (lv_at hl 2 rfl) ?_
      refine lv_ldc (pc := 18) hx hb C.1.2.2.2.1 (C.1.2.2.2.2 _ mmX5_when_1) dX5_when_18 ?_
      refine lv_isub (pc := 20) hx hb dX5_when_20 ?_
      refine lv_aload_n (pc := 21) hx hb dX5_when_21 rfl (lv_at hl 0 rfl) ?_
      refine x_getf (pc := 22) (Cn := RX5) (T := TX5) (N := 24) C hX 0 rfl rfl miX5_when_X5 0 (by decide) mmX5_when_2 rfl dX5_when_22 ?_
      refine lv_bipush (pc := 25) (v := 8) hx hb dX5_when_25 (by decide) ?_
      refine lv_iload_n (pc := 27) hx hb dX5_when_27 rfl (lv_at hl 1 rfl) ?_
      refine lv_iadd (pc := 28) hx hb dX5_when_28 ?_
      replace hf := chk_adv hf
      have i7 := hf.1
      replace hf := hf.2
      refine x_iald (pc := 29) C hX 1 0 rfl rfl i7 dX5_when_29 ?_
      refine lv_isub (pc := 30) hx hb dX5_when_30 ?_
      refine lv_topi (fun v8 ev8 => ?_)
      replace hf := bnd_use ev8 hf
      refine lv_istore_n (pc := 31) (lv' := [(3, .int v8), (0, .ref h0), (1, .int p1), (2, .int p2)]) hx hb dX5_when_31 rfl hl (by decide) rfl (fun ls hl => ?_)
      refine lv_aload_n (pc := 32) hx hb dX5_when_32 rfl (lv_at hl 1 rfl) ?_
      refine lv_iconst (pc := 33) (v := 0) hx hb dX5_when_33 (by decide) ?_
      refine lv_sipush (pc := 34) (v := 160) hx hb dX5_when_34 (by decide) ?_
      obtain ⟨u9, g10, hf⟩ := cl1_adv hf
      refine x_callVv (pc := 37) (rest := []) (w2 := [(h0, .inr (5, [.ref h_state, .ref h_readPage, .ref h_tape, .int taped, .int fault, .int broken, .int brokenAt, .int spot, .int here, .int token, .int value, .ref h_ends, .ref h_letters, .int moved, .int turned, .int worst, .ref h_seen, .int seenMany, .ref h_lastBy, .ref h_isKept, .ref h_lanes, .ref h_lengths, .ref h_cells, .int torn])), (h_state, .inl (cI, 240, .inl u9))]) C hX (kX5_copies ad l D cI cB cZ cG cS h0 h_state h_readPage h_tape h_ends h_letters h_seen h_lastBy h_isKept h_lanes h_lengths h_cells taped fault broken brokenAt spot here token value moved turned worst seenMany torn state u9 (0 : Int32) (160 : Int32) g10) (cwV 2 C.1.2.2.2.2 gX5_when_X5_copies rfl rfl rfl (by decide +kernel) ⟨Nat.le_of_ble_eq_true rfl, Nat.le_of_ble_eq_true rfl⟩) [0, 1] [] [0, 1] rfl rfl rfl rfl (by decide) rfl rfl 0 rfl rfl rfl hl.1 rfl rfl (Nat.le_of_ble_eq_true rfl) dX5_when_37 (fun H locs hX => ?_)
      refine lv_iconst (pc := 40) (v := 0) hx hb dX5_when_40 (by decide) ?_
      refine lv_istore (pc := 41) (lv' := [(4, .int (0 : Int32)), (3, .int v8), (0, .ref h0), (1, .int p1), (2, .int p2)]) hx hb dX5_when_41 hl (by decide) rfl (fun ls hl => ?_)
      exact L43  xF p1 v8 (0 : Int32) moved turned u9 _ _ _ hf hX (lv_sub hl [2, 3, 1, 0] rfl)
    · replace hf := ite_t c6 hf
      refine lv_iconst (pc := 15) (v := -1) hx hb dX5_when_15 (by decide) ?_
      obtain ⟨rfl, rfl, rfl, rfl⟩ := re4 hf
      exact hret _ _ _ _ _ rfl rfl hX dX5_when_16
theorem mmX5_again_1 : Cond.fieldLink RX5 7 "SlackArmsModel" "state" "[I" ∈ wsX5_again := List.mem_of_getElem? (i := 1) rfl
theorem miX5_again_X5 : ∀ w ∈ u_ws RX5 TX5 24, w ∈ wsX5_again := fun w h => List.mem_cons_of_mem _ (List.mem_append_right _ h)
set_option maxHeartbeats 4000000 in
set_option maxRecDepth 100000 in
theorem kX5_again (ad : xAd) (l : Launch) (D : va_G) (cI cB cZ cG cS : ClassId) (h0 h_state h_readPage h_tape h_ends h_letters h_seen h_lastBy h_isKept h_lanes h_lengths h_cells : Nat) (taped : Int32) (fault : Int32) (broken : Int32) (brokenAt : Int32) (spot : Int32) (here : Int32) (token : Int32) (value : Int32) (moved : Int32) (turned : Int32) (worst : Int32) (seenMany : Int32) (torn : Int32) (state : (Nat → Int32)) (r0 : Int32) (o_moved' : Int32) (o_turned' : Int32) (o_state' : (Nat → Int32))  (hf : fX5_again  moved turned state = some (r0, o_moved', o_turned', o_state')) : xMi ad l yX5_again wsX5_again ({ frames := 5, cells := 0, slots := 0, locals := 117 } : Room) D (xTY cI cB cZ cG cS) [.ref h0] [(h0, .inr (5, [.ref h_state, .ref h_readPage, .ref h_tape, .int taped, .int fault, .int broken, .int brokenAt, .int spot, .int here, .int token, .int value, .ref h_ends, .ref h_letters, .int moved, .int turned, .int worst, .ref h_seen, .int seenMany, .ref h_lastBy, .ref h_isKept, .ref h_lanes, .ref h_lengths, .ref h_cells, .int torn])), (h_state, .inl (cI, 240, .inl state))] [(h0, .inr (5, [.ref h_state, .ref h_readPage, .ref h_tape, .int taped, .int fault, .int broken, .int brokenAt, .int spot, .int here, .int token, .int value, .ref h_ends, .ref h_letters, .int o_moved', .int o_turned', .int worst, .ref h_seen, .int seenMany, .ref h_lastBy, .ref h_isKept, .ref h_lanes, .ref h_lengths, .ref h_cells, .int torn])), (h_state, .inl (cI, 240, .inl o_state'))] r0 := by
  refine xMi_of (cc := cX5_again) (maxL := 6) (ty := .int) (by decide) rfl (Nat.le_of_ble_eq_true rfl) ?_
  intro p e s m args below meth c A Q ls C hX hl hret
  have hx := C.1.1
  have hb := C.1.2.1
  have hl : lv_has ls 6 [(0, .ref h0)] := hl
  have L166 : ∀ (k18 : Int32 → Int32 → Int32 → Int32 → (Nat → Int32) → Option (Int32 × Int32 × Int32 × (Nat → Int32))) (hk18 : ∀ (x1 : Int32) (x2 : Int32) (moved : Int32) (turned : Int32) (state : (Nat → Int32)) (H : Heap) (locs : List Loc) (ls : Array Slot), k18 x1 x2 moved turned state = some (r0, o_moved', o_turned', o_state') → xSt A s D [(h0, .inr (5, [.ref h_state, .ref h_readPage, .ref h_tape, .int taped, .int fault, .int broken, .int brokenAt, .int spot, .int here, .int token, .int value, .ref h_ends, .ref h_letters, .int moved, .int turned, .int worst, .ref h_seen, .int seenMany, .ref h_lastBy, .ref h_isKept, .ref h_lanes, .ref h_lengths, .ref h_cells, .int torn])), (h_state, .inl (cI, 240, .inl state))] H locs → lv_has ls 6 [(0, .ref h0), (1, .int x1), (2, .int x2)] → W p l e ({ frames := 5, cells := 0, slots := 0, locals := 117 } : Room) s m args below meth c H locs 0 0 Q (F0 m 18 ls [])) (k70 : Int32 → Int32 → Int32 → Int32 → Int32 → Int32 → Int32 → (Nat → Int32) → Option (Int32 × Int32 × Int32 × (Nat → Int32))) (hk70 : ∀ (x1 : Int32) (x2 : Int32) (x3 : Int32) (x4 : Int32) (x5 : Int32) (moved : Int32) (turned : Int32) (state : (Nat → Int32)) (H : Heap) (locs : List Loc) (ls : Array Slot), k70 x1 x2 x3 x4 x5 moved turned state = some (r0, o_moved', o_turned', o_state') → xSt A s D [(h0, .inr (5, [.ref h_state, .ref h_readPage, .ref h_tape, .int taped, .int fault, .int broken, .int brokenAt, .int spot, .int here, .int token, .int value, .ref h_ends, .ref h_letters, .int moved, .int turned, .int worst, .ref h_seen, .int seenMany, .ref h_lastBy, .ref h_isKept, .ref h_lanes, .ref h_lengths, .ref h_cells, .int torn])), (h_state, .inl (cI, 240, .inl state))] H locs → lv_has ls 6 [(0, .ref h0), (1, .int x1), (2, .int x2), (3, .int x3), (4, .int x4), (5, .int x5)] → W p l e ({ frames := 5, cells := 0, slots := 0, locals := 117 } : Room) s m args below meth c H locs 0 0 Q (F0 m 70 ls [])), ∀ (x1 : Int32) (x2 : Int32) (x3 : Int32) (x5 : Int32) (y0 : Int32) (moved : Int32) (turned : Int32) (state : (Nat → Int32)) (H : Heap) (locs : List Loc) (ls : Array Slot), fX5_again_L166  k18 k70 x1 x2 x3 x5 y0 moved turned state = some (r0, o_moved', o_turned', o_state') → xSt A s D [(h0, .inr (5, [.ref h_state, .ref h_readPage, .ref h_tape, .int taped, .int fault, .int broken, .int brokenAt, .int spot, .int here, .int token, .int value, .ref h_ends, .ref h_letters, .int moved, .int turned, .int worst, .ref h_seen, .int seenMany, .ref h_lastBy, .ref h_isKept, .ref h_lanes, .ref h_lengths, .ref h_cells, .int torn])), (h_state, .inl (cI, 240, .inl state))] H locs → lv_has ls 6 [(0, .ref h0), (1, .int x1), (2, .int x2), (3, .int x3), (5, .int x5)] → W p l e ({ frames := 5, cells := 0, slots := 0, locals := 117 } : Room) s m args below meth c H locs 0 0 Q (F0 m 166 ls [.int y0]) := by
    intro k18 hk18 k70 hk70 x1 x2 x3 x5 y0 moved turned state H locs ls hf hX hl
    unfold fX5_again_L166 at hf
    refine lv_istore (pc := 166) (lv' := [(4, .int y0), (0, .ref h0), (1, .int x1), (2, .int x2), (3, .int x3), (5, .int x5)]) hx hb dX5_again_166 hl (by decide) rfl (fun ls hl => ?_)
    obtain ⟨v19, ev19⟩ : ∃ y : Int32, y = (x5 + (1 : Int32)) := ⟨_, rfl⟩
    replace hf := bnd_use ev19 hf
    refine lv_iinc (pc := 168) (v := v19) (lv' := [(5, .int v19), (4, .int y0), (0, .ref h0), (1, .int x1), (2, .int x2), (3, .int x3)]) hx hb dX5_again_168 hl (k := 5) rfl (by rw [ev19]; rfl) (by decide) rfl (fun ls hl => ?_)
    refine lv_goto (pc := 171) (tgt := 70) hx hb dX5_again_171 (by decide) ?_
    exact hk70 x1 x2 x3 y0 v19 moved turned state _ _ _ hf hX (lv_sub hl [2, 3, 4, 5, 1, 0] rfl)
  have L165 : ∀ (k18 : Int32 → Int32 → Int32 → Int32 → (Nat → Int32) → Option (Int32 × Int32 × Int32 × (Nat → Int32))) (hk18 : ∀ (x1 : Int32) (x2 : Int32) (moved : Int32) (turned : Int32) (state : (Nat → Int32)) (H : Heap) (locs : List Loc) (ls : Array Slot), k18 x1 x2 moved turned state = some (r0, o_moved', o_turned', o_state') → xSt A s D [(h0, .inr (5, [.ref h_state, .ref h_readPage, .ref h_tape, .int taped, .int fault, .int broken, .int brokenAt, .int spot, .int here, .int token, .int value, .ref h_ends, .ref h_letters, .int moved, .int turned, .int worst, .ref h_seen, .int seenMany, .ref h_lastBy, .ref h_isKept, .ref h_lanes, .ref h_lengths, .ref h_cells, .int torn])), (h_state, .inl (cI, 240, .inl state))] H locs → lv_has ls 6 [(0, .ref h0), (1, .int x1), (2, .int x2)] → W p l e ({ frames := 5, cells := 0, slots := 0, locals := 117 } : Room) s m args below meth c H locs 0 0 Q (F0 m 18 ls [])) (k70 : Int32 → Int32 → Int32 → Int32 → Int32 → Int32 → Int32 → (Nat → Int32) → Option (Int32 × Int32 × Int32 × (Nat → Int32))) (hk70 : ∀ (x1 : Int32) (x2 : Int32) (x3 : Int32) (x4 : Int32) (x5 : Int32) (moved : Int32) (turned : Int32) (state : (Nat → Int32)) (H : Heap) (locs : List Loc) (ls : Array Slot), k70 x1 x2 x3 x4 x5 moved turned state = some (r0, o_moved', o_turned', o_state') → xSt A s D [(h0, .inr (5, [.ref h_state, .ref h_readPage, .ref h_tape, .int taped, .int fault, .int broken, .int brokenAt, .int spot, .int here, .int token, .int value, .ref h_ends, .ref h_letters, .int moved, .int turned, .int worst, .ref h_seen, .int seenMany, .ref h_lastBy, .ref h_isKept, .ref h_lanes, .ref h_lengths, .ref h_cells, .int torn])), (h_state, .inl (cI, 240, .inl state))] H locs → lv_has ls 6 [(0, .ref h0), (1, .int x1), (2, .int x2), (3, .int x3), (4, .int x4), (5, .int x5)] → W p l e ({ frames := 5, cells := 0, slots := 0, locals := 117 } : Room) s m args below meth c H locs 0 0 Q (F0 m 70 ls [])), ∀ (x1 : Int32) (x2 : Int32) (x3 : Int32) (x5 : Int32) (moved : Int32) (turned : Int32) (state : (Nat → Int32)) (H : Heap) (locs : List Loc) (ls : Array Slot), fX5_again_L165  k18 k70 x1 x2 x3 x5 moved turned state = some (r0, o_moved', o_turned', o_state') → xSt A s D [(h0, .inr (5, [.ref h_state, .ref h_readPage, .ref h_tape, .int taped, .int fault, .int broken, .int brokenAt, .int spot, .int here, .int token, .int value, .ref h_ends, .ref h_letters, .int moved, .int turned, .int worst, .ref h_seen, .int seenMany, .ref h_lastBy, .ref h_isKept, .ref h_lanes, .ref h_lengths, .ref h_cells, .int torn])), (h_state, .inl (cI, 240, .inl state))] H locs → lv_has ls 6 [(0, .ref h0), (1, .int x1), (2, .int x2), (3, .int x3), (5, .int x5)] → W p l e ({ frames := 5, cells := 0, slots := 0, locals := 117 } : Room) s m args below meth c H locs 0 0 Q (F0 m 165 ls []) := by
    intro k18 hk18 k70 hk70 x1 x2 x3 x5 moved turned state H locs ls hf hX hl
    unfold fX5_again_L165 at hf
    refine lv_iconst (pc := 165) (v := 0) hx hb dX5_again_165 (by decide) ?_
    exact L166 (k18) hk18 (k70) hk70 x1 x2 x3 x5 (0 : Int32) moved turned state _ _ _ hf hX (lv_sub hl [0, 1, 2, 3, 4] rfl)
  have L70 : ∀ (k18 : Int32 → Int32 → Int32 → Int32 → (Nat → Int32) → Option (Int32 × Int32 × Int32 × (Nat → Int32))) (hk18 : ∀ (x1 : Int32) (x2 : Int32) (moved : Int32) (turned : Int32) (state : (Nat → Int32)) (H : Heap) (locs : List Loc) (ls : Array Slot), k18 x1 x2 moved turned state = some (r0, o_moved', o_turned', o_state') → xSt A s D [(h0, .inr (5, [.ref h_state, .ref h_readPage, .ref h_tape, .int taped, .int fault, .int broken, .int brokenAt, .int spot, .int here, .int token, .int value, .ref h_ends, .ref h_letters, .int moved, .int turned, .int worst, .ref h_seen, .int seenMany, .ref h_lastBy, .ref h_isKept, .ref h_lanes, .ref h_lengths, .ref h_cells, .int torn])), (h_state, .inl (cI, 240, .inl state))] H locs → lv_has ls 6 [(0, .ref h0), (1, .int x1), (2, .int x2)] → W p l e ({ frames := 5, cells := 0, slots := 0, locals := 117 } : Room) s m args below meth c H locs 0 0 Q (F0 m 18 ls [])) (n : Nat), ∀ (x1 : Int32) (x2 : Int32) (x3 : Int32) (x4 : Int32) (x5 : Int32) (moved : Int32) (turned : Int32) (state : (Nat → Int32)) (H : Heap) (locs : List Loc) (ls : Array Slot), fX5_again_L70  k18 n x1 x2 x3 x4 x5 moved turned state = some (r0, o_moved', o_turned', o_state') → xSt A s D [(h0, .inr (5, [.ref h_state, .ref h_readPage, .ref h_tape, .int taped, .int fault, .int broken, .int brokenAt, .int spot, .int here, .int token, .int value, .ref h_ends, .ref h_letters, .int moved, .int turned, .int worst, .ref h_seen, .int seenMany, .ref h_lastBy, .ref h_isKept, .ref h_lanes, .ref h_lengths, .ref h_cells, .int torn])), (h_state, .inl (cI, 240, .inl state))] H locs → lv_has ls 6 [(0, .ref h0), (1, .int x1), (2, .int x2), (3, .int x3), (4, .int x4), (5, .int x5)] → W p l e ({ frames := 5, cells := 0, slots := 0, locals := 117 } : Room) s m args below meth c H locs 0 0 Q (F0 m 70 ls []) := by
    intro k18 hk18
    intro n
    induction n with
    | zero =>
      intro x1 x2 x3 x4 x5 moved turned state H locs ls hf
      rw [fX5_again_L70] at hf
      cases hf
    | succ n ih =>
      intro x1 x2 x3 x4 x5 moved turned state H locs ls hf hX hl
      rw [fX5_again_L70] at hf
      refine lv_iload (pc := 70) hx hb dX5_again_70 (lv_at hl 5 rfl) ?_
      refine lv_aload_n (pc := 72) hx hb dX5_again_72 rfl (lv_at hl 0 rfl) ?_
      refine x_getf (pc := 73) (Cn := RX5) (T := TX5) (N := 24) C hX 0 rfl rfl miX5_again_X5 0 (by decide) mmX5_again_1 rfl dX5_again_73 ?_
      refine lv_bipush (pc := 76) (v := 20) hx hb dX5_again_76 (by decide) ?_
      replace hf := chk_adv hf
      have i14 := hf.1
      replace hf := hf.2
      refine x_iald (pc := 78) C hX 1 0 rfl rfl i14 dX5_again_78 ?_
      refine lv_icmp_ge (pc := 79) (tgt := 174) hx hb dX5_again_79 (by decide) (fun c15 => ?_) (fun c15 => ?_)
      · replace hf := ite_t c15 hf
        refine lv_iload (pc := 174) hx hb dX5_again_174 (lv_at hl 4 rfl) ?_
        refine lv_if_eq (pc := 176) (tgt := 181) hx hb dX5_again_176 (by decide) (fun c16 => ?_) (fun c16 => ?_)
        · replace hf := ite_t c16 hf
          obtain ⟨v17, ev17⟩ : ∃ y : Int32, y = (x2 + (1 : Int32)) := ⟨_, rfl⟩
          replace hf := bnd_use ev17 hf
          refine lv_iinc (pc := 181) (v := v17) (lv' := [(2, .int v17), (0, .ref h0), (1, .int x1), (3, .int x3), (4, .int x4), (5, .int x5)]) hx hb dX5_again_181 hl (k := 2) rfl (by rw [ev17]; rfl) (by decide) rfl (fun ls hl => ?_)
          refine lv_goto (pc := 184) (tgt := 18) hx hb dX5_again_184 (by decide) ?_
          exact hk18 x1 v17 moved turned state _ _ _ hf hX (lv_sub hl [1, 2, 0] rfl)
        · replace hf := ite_f c16 hf
          refine lv_iload_n (pc := 179) hx hb dX5_again_179 rfl (lv_at hl 2 rfl) ?_
          obtain ⟨rfl, rfl, rfl, rfl⟩ := re4 hf
          exact hret _ _ _ _ _ rfl rfl hX dX5_again_180
      · replace hf := ite_f c15 hf
        refine lv_iload (pc := 82) hx hb dX5_again_82 (lv_at hl 4 rfl) ?_
        refine lv_if_eq (pc := 84) (tgt := 165) hx hb dX5_again_84 (by decide) (fun c18 => ?_) (fun c18 => ?_)
        · replace hf := ite_t c18 hf
          exact L165 (k18) hk18 (fX5_again_L70  k18 n) ih x1 x2 x3 x5 moved turned state _ _ _ hf hX (lv_sub hl [0, 1, 2, 3, 5] rfl)
        · replace hf := ite_f c18 hf
          refine lv_aload_n (pc := 87) hx hb dX5_again_87 rfl (lv_at hl 0 rfl) ?_
          refine x_getf (pc := 88) (Cn := RX5) (T := TX5) (N := 24) C hX 0 rfl rfl miX5_again_X5 0 (by decide) mmX5_again_1 rfl dX5_again_88 ?_
          refine lv_sipush (pc := 91) (v := 168) hx hb dX5_again_91 (by decide) ?_
          refine lv_iload (pc := 94) hx hb dX5_again_94 (lv_at hl 5 rfl) ?_
          refine lv_iadd (pc := 96) hx hb dX5_again_96 ?_
          replace hf := chk_adv hf
          have i20 := hf.1
          replace hf := hf.2
          refine x_iald (pc := 97) C hX 1 0 rfl rfl i20 dX5_again_97 ?_
          refine lv_aload_n (pc := 98) hx hb dX5_again_98 rfl (lv_at hl 0 rfl) ?_
          refine x_getf (pc := 99) (Cn := RX5) (T := TX5) (N := 24) C hX 0 rfl rfl miX5_again_X5 0 (by decide) mmX5_again_1 rfl dX5_again_99 ?_
          refine lv_bipush (pc := 102) (v := 8) hx hb dX5_again_102 (by decide) ?_
          refine lv_iload (pc := 104) hx hb dX5_again_104 (lv_at hl 5 rfl) ?_
          refine lv_iadd (pc := 106) hx hb dX5_again_106 ?_
          replace hf := chk_adv hf
          have i21 := hf.1
          replace hf := hf.2
          refine x_iald (pc := 107) C hX 1 0 rfl rfl i21 dX5_again_107 ?_
          refine lv_isub (pc := 108) hx hb dX5_again_108 ?_
          refine lv_iload_n (pc := 109) hx hb dX5_again_109 rfl (lv_at hl 3 rfl) ?_
          refine lv_icmp_ne (pc := 110) (tgt := 165) hx hb dX5_again_110 (by decide) (fun c22 => ?_) (fun c22 => ?_)
          · replace hf := ite_f c22 hf
            exact L165 (k18) hk18 (fX5_again_L70  k18 n) ih x1 x2 x3 x5 moved turned state _ _ _ hf hX (lv_sub hl [0, 1, 2, 3, 5] rfl)
          · replace hf := ite_t c22 hf
            refine lv_aload_n (pc := 113) hx hb dX5_again_113 rfl (lv_at hl 0 rfl) ?_
            refine x_getf (pc := 114) (Cn := RX5) (T := TX5) (N := 24) C hX 0 rfl rfl miX5_again_X5 0 (by decide) mmX5_again_1 rfl dX5_again_114 ?_
            refine lv_sipush (pc := 117) (v := 176) hx hb dX5_again_117 (by decide) ?_
            refine lv_iload (pc := 120) hx hb dX5_again_120 (lv_at hl 5 rfl) ?_
            refine lv_iadd (pc := 122) hx hb dX5_again_122 ?_
            replace hf := chk_adv hf
            have i23 := hf.1
            replace hf := hf.2
            refine x_iald (pc := 123) C hX 1 0 rfl rfl i23 dX5_again_123 ?_
            refine lv_aload_n (pc := 124) hx hb dX5_again_124 rfl (lv_at hl 0 rfl) ?_
            refine x_getf (pc := 125) (Cn := RX5) (T := TX5) (N := 24) C hX 0 rfl rfl miX5_again_X5 0 (by decide) mmX5_again_1 rfl dX5_again_125 ?_
            refine lv_bipush (pc := 128) (v := 16) hx hb dX5_again_128 (by decide) ?_
            refine lv_iload (pc := 130) hx hb dX5_again_130 (lv_at hl 5 rfl) ?_
            refine lv_iadd (pc := 132) hx hb dX5_again_132 ?_
            replace hf := chk_adv hf
            have i24 := hf.1
            replace hf := hf.2
            refine x_iald (pc := 133) C hX 1 0 rfl rfl i24 dX5_again_133 ?_
            refine lv_icmp_ne (pc := 134) (tgt := 165) hx hb dX5_again_134 (by decide) (fun c25 => ?_) (fun c25 => ?_)
            · replace hf := ite_f c25 hf
              exact L165 (k18) hk18 (fX5_again_L70  k18 n) ih x1 x2 x3 x5 moved turned state _ _ _ hf hX (lv_sub hl [0, 1, 2, 3, 5] rfl)
            · replace hf := ite_t c25 hf
              refine lv_aload_n (pc := 137) hx hb dX5_again_137 rfl (lv_at hl 0 rfl) ?_
              refine x_getf (pc := 138) (Cn := RX5) (T := TX5) (N := 24) C hX 0 rfl rfl miX5_again_X5 0 (by decide) mmX5_again_1 rfl dX5_again_138 ?_
              refine lv_sipush (pc := 141) (v := 172) hx hb dX5_again_141 (by decide) ?_
              refine lv_iload (pc := 144) hx hb dX5_again_144 (lv_at hl 5 rfl) ?_
              refine lv_iadd (pc := 146) hx hb dX5_again_146 ?_
              replace hf := chk_adv hf
              have i26 := hf.1
              replace hf := hf.2
              refine x_iald (pc := 147) C hX 1 0 rfl rfl i26 dX5_again_147 ?_
              refine lv_aload_n (pc := 148) hx hb dX5_again_148 rfl (lv_at hl 0 rfl) ?_
              refine x_getf (pc := 149) (Cn := RX5) (T := TX5) (N := 24) C hX 0 rfl rfl miX5_again_X5 0 (by decide) mmX5_again_1 rfl dX5_again_149 ?_
              refine lv_bipush (pc := 152) (v := 12) hx hb dX5_again_152 (by decide) ?_
              refine lv_iload (pc := 154) hx hb dX5_again_154 (lv_at hl 5 rfl) ?_
              refine lv_iadd (pc := 156) hx hb dX5_again_156 ?_
              replace hf := chk_adv hf
              have i27 := hf.1
              replace hf := hf.2
              refine x_iald (pc := 157) C hX 1 0 rfl rfl i27 dX5_again_157 ?_
              refine lv_icmp_ne (pc := 158) (tgt := 165) hx hb dX5_again_158 (by decide) (fun c28 => ?_) (fun c28 => ?_)
              · replace hf := ite_f c28 hf
                exact L165 (k18) hk18 (fX5_again_L70  k18 n) ih x1 x2 x3 x5 moved turned state _ _ _ hf hX (lv_sub hl [0, 1, 2, 3, 5] rfl)
              · replace hf := ite_t c28 hf
                refine lv_iconst (pc := 161) (v := 1) hx hb dX5_again_161 (by decide) ?_
                refine lv_goto (pc := 162) (tgt := 166) hx hb dX5_again_162 (by decide) ?_
                exact L166 (k18) hk18 (fX5_again_L70  k18 n) ih x1 x2 x3 x5 (1 : Int32) moved turned state _ _ _ hf hX (lv_sub hl [0, 1, 2, 3, 5] rfl)
  have L65 : ∀ (k18 : Int32 → Int32 → Int32 → Int32 → (Nat → Int32) → Option (Int32 × Int32 × Int32 × (Nat → Int32))) (hk18 : ∀ (x1 : Int32) (x2 : Int32) (moved : Int32) (turned : Int32) (state : (Nat → Int32)) (H : Heap) (locs : List Loc) (ls : Array Slot), k18 x1 x2 moved turned state = some (r0, o_moved', o_turned', o_state') → xSt A s D [(h0, .inr (5, [.ref h_state, .ref h_readPage, .ref h_tape, .int taped, .int fault, .int broken, .int brokenAt, .int spot, .int here, .int token, .int value, .ref h_ends, .ref h_letters, .int moved, .int turned, .int worst, .ref h_seen, .int seenMany, .ref h_lastBy, .ref h_isKept, .ref h_lanes, .ref h_lengths, .ref h_cells, .int torn])), (h_state, .inl (cI, 240, .inl state))] H locs → lv_has ls 6 [(0, .ref h0), (1, .int x1), (2, .int x2)] → W p l e ({ frames := 5, cells := 0, slots := 0, locals := 117 } : Room) s m args below meth c H locs 0 0 Q (F0 m 18 ls [])), ∀ (x1 : Int32) (x2 : Int32) (x3 : Int32) (y0 : Int32) (moved : Int32) (turned : Int32) (state : (Nat → Int32)) (H : Heap) (locs : List Loc) (ls : Array Slot), fX5_again_L65  k18 x1 x2 x3 y0 moved turned state = some (r0, o_moved', o_turned', o_state') → xSt A s D [(h0, .inr (5, [.ref h_state, .ref h_readPage, .ref h_tape, .int taped, .int fault, .int broken, .int brokenAt, .int spot, .int here, .int token, .int value, .ref h_ends, .ref h_letters, .int moved, .int turned, .int worst, .ref h_seen, .int seenMany, .ref h_lastBy, .ref h_isKept, .ref h_lanes, .ref h_lengths, .ref h_cells, .int torn])), (h_state, .inl (cI, 240, .inl state))] H locs → lv_has ls 6 [(0, .ref h0), (1, .int x1), (2, .int x2), (3, .int x3)] → W p l e ({ frames := 5, cells := 0, slots := 0, locals := 117 } : Room) s m args below meth c H locs 0 0 Q (F0 m 65 ls [.int y0]) := by
    intro k18 hk18 x1 x2 x3 y0 moved turned state H locs ls hf hX hl
    unfold fX5_again_L65 at hf
    refine lv_istore (pc := 65) (lv' := [(4, .int y0), (0, .ref h0), (1, .int x1), (2, .int x2), (3, .int x3)]) hx hb dX5_again_65 hl (by decide) rfl (fun ls hl => ?_)
    refine lv_iconst (pc := 67) (v := 0) hx hb dX5_again_67 (by decide) ?_
    refine lv_istore (pc := 68) (lv' := [(5, .int (0 : Int32)), (4, .int y0), (0, .ref h0), (1, .int x1), (2, .int x2), (3, .int x3)]) hx hb dX5_again_68 hl (by decide) rfl (fun ls hl => ?_)
    exact L70 (k18) hk18 xF x1 x2 x3 y0 (0 : Int32) moved turned state _ _ _ hf hX (lv_sub hl [2, 3, 4, 5, 1, 0] rfl)
  have L60 : ∀ (k18 : Int32 → Int32 → Int32 → Int32 → (Nat → Int32) → Option (Int32 × Int32 × Int32 × (Nat → Int32))) (hk18 : ∀ (x1 : Int32) (x2 : Int32) (moved : Int32) (turned : Int32) (state : (Nat → Int32)) (H : Heap) (locs : List Loc) (ls : Array Slot), k18 x1 x2 moved turned state = some (r0, o_moved', o_turned', o_state') → xSt A s D [(h0, .inr (5, [.ref h_state, .ref h_readPage, .ref h_tape, .int taped, .int fault, .int broken, .int brokenAt, .int spot, .int here, .int token, .int value, .ref h_ends, .ref h_letters, .int moved, .int turned, .int worst, .ref h_seen, .int seenMany, .ref h_lastBy, .ref h_isKept, .ref h_lanes, .ref h_lengths, .ref h_cells, .int torn])), (h_state, .inl (cI, 240, .inl state))] H locs → lv_has ls 6 [(0, .ref h0), (1, .int x1), (2, .int x2)] → W p l e ({ frames := 5, cells := 0, slots := 0, locals := 117 } : Room) s m args below meth c H locs 0 0 Q (F0 m 18 ls [])), ∀ (x1 : Int32) (x2 : Int32) (x3 : Int32) (moved : Int32) (turned : Int32) (state : (Nat → Int32)) (H : Heap) (locs : List Loc) (ls : Array Slot), fX5_again_L60  k18 x1 x2 x3 moved turned state = some (r0, o_moved', o_turned', o_state') → xSt A s D [(h0, .inr (5, [.ref h_state, .ref h_readPage, .ref h_tape, .int taped, .int fault, .int broken, .int brokenAt, .int spot, .int here, .int token, .int value, .ref h_ends, .ref h_letters, .int moved, .int turned, .int worst, .ref h_seen, .int seenMany, .ref h_lastBy, .ref h_isKept, .ref h_lanes, .ref h_lengths, .ref h_cells, .int torn])), (h_state, .inl (cI, 240, .inl state))] H locs → lv_has ls 6 [(0, .ref h0), (1, .int x1), (2, .int x2), (3, .int x3)] → W p l e ({ frames := 5, cells := 0, slots := 0, locals := 117 } : Room) s m args below meth c H locs 0 0 Q (F0 m 60 ls []) := by
    intro k18 hk18 x1 x2 x3 moved turned state H locs ls hf hX hl
    unfold fX5_again_L60 at hf
    refine lv_iconst (pc := 60) (v := 1) hx hb dX5_again_60 (by decide) ?_
    refine lv_goto (pc := 61) (tgt := 65) hx hb dX5_again_61 (by decide) ?_
    exact L65 (k18) hk18 x1 x2 x3 (1 : Int32) moved turned state _ _ _ hf hX (lv_sub hl [0, 1, 2, 3] rfl)
  have L18 : ∀ (n : Nat), ∀ (x1 : Int32) (x2 : Int32) (moved : Int32) (turned : Int32) (state : (Nat → Int32)) (H : Heap) (locs : List Loc) (ls : Array Slot), fX5_again_L18  n x1 x2 moved turned state = some (r0, o_moved', o_turned', o_state') → xSt A s D [(h0, .inr (5, [.ref h_state, .ref h_readPage, .ref h_tape, .int taped, .int fault, .int broken, .int brokenAt, .int spot, .int here, .int token, .int value, .ref h_ends, .ref h_letters, .int moved, .int turned, .int worst, .ref h_seen, .int seenMany, .ref h_lastBy, .ref h_isKept, .ref h_lanes, .ref h_lengths, .ref h_cells, .int torn])), (h_state, .inl (cI, 240, .inl state))] H locs → lv_has ls 6 [(0, .ref h0), (1, .int x1), (2, .int x2)] → W p l e ({ frames := 5, cells := 0, slots := 0, locals := 117 } : Room) s m args below meth c H locs 0 0 Q (F0 m 18 ls []) := by
    intro n
    induction n with
    | zero =>
      intro x1 x2 moved turned state H locs ls hf
      rw [fX5_again_L18] at hf
      cases hf
    | succ n ih =>
      intro x1 x2 moved turned state H locs ls hf hX hl
      rw [fX5_again_L18] at hf
      refine lv_iload_n (pc := 18) hx hb dX5_again_18 rfl (lv_at hl 2 rfl) ?_
      refine lv_sipush (pc := 19) (v := 200) hx hb dX5_again_19 (by decide) ?_
      refine lv_icmp_gt (pc := 22) (tgt := 187) hx hb dX5_again_22 (by decide) (fun c5 => ?_) (fun c5 => ?_)
      · replace hf := ite_t c5 hf
        refine lv_bipush (pc := 187) (v := -4) hx hb dX5_again_187 (by decide) ?_
        obtain ⟨rfl, rfl, rfl, rfl⟩ := re4 hf
        exact hret _ _ _ _ _ rfl rfl hX dX5_again_189
      · replace hf := ite_f c5 hf
        refine lv_aload_n (pc := 25) hx hb dX5_again_25 rfl (lv_at hl 0 rfl) ?_
        refine lv_sipush (pc := 26) (v := 160) hx hb dX5_again_26 (by decide) ?_
        refine lv_iconst (pc := 29) (v := 0) hx hb dX5_again_29 (by decide) ?_
        obtain ⟨u6, u7, u8, g9, hf⟩ := cl3_adv hf
        refine x_callVv (pc := 30) (rest := []) (w2 := [(h0, .inr (5, [.ref h_state, .ref h_readPage, .ref h_tape, .int taped, .int fault, .int broken, .int brokenAt, .int spot, .int here, .int token, .int value, .ref h_ends, .ref h_letters, .int u6, .int u7, .int worst, .ref h_seen, .int seenMany, .ref h_lastBy, .ref h_isKept, .ref h_lanes, .ref h_lengths, .ref h_cells, .int torn])), (h_state, .inl (cI, 240, .inl u8))]) C hX (kX5_stepOn ad l D cI cB cZ cG cS h0 h_state h_readPage h_tape h_ends h_letters h_seen h_lastBy h_isKept h_lanes h_lengths h_cells taped fault broken brokenAt spot here token value moved turned worst seenMany torn state u6 u7 u8 (160 : Int32) (0 : Int32) g9) (cwV 2 C.1.2.2.2.2 gX5_again_X5_stepOn rfl rfl rfl (by decide +kernel) ⟨Nat.le_of_ble_eq_true rfl, Nat.le_of_ble_eq_true rfl⟩) [0, 1] [] [0, 1] rfl rfl rfl rfl (by decide) rfl rfl 0 rfl rfl rfl hl.1 rfl rfl (Nat.le_of_ble_eq_true rfl) dX5_again_30 (fun H locs hX => ?_)
        refine lv_aload_n (pc := 33) hx hb dX5_again_33 rfl (lv_at hl 0 rfl) ?_
        refine x_getf (pc := 34) (Cn := RX5) (T := TX5) (N := 24) C hX 0 rfl rfl miX5_again_X5 0 (by decide) mmX5_again_1 rfl dX5_again_34 ?_
        refine lv_sipush (pc := 37) (v := 198) hx hb dX5_again_37 (by decide) ?_
        replace hf := chk_adv hf
        have i10 := hf.1
        replace hf := hf.2
        refine x_iald (pc := 40) C hX 1 0 rfl rfl i10 dX5_again_40 ?_
        refine lv_aload_n (pc := 41) hx hb dX5_again_41 rfl (lv_at hl 0 rfl) ?_
        refine x_getf (pc := 42) (Cn := RX5) (T := TX5) (N := 24) C hX 0 rfl rfl miX5_again_X5 0 (by decide) mmX5_again_1 rfl dX5_again_42 ?_
        refine lv_bipush (pc := 45) (v := 38) hx hb dX5_again_45 (by decide) ?_
        replace hf := chk_adv hf
        have i11 := hf.1
        replace hf := hf.2
        refine x_iald (pc := 47) C hX 1 0 rfl rfl i11 dX5_again_47 ?_
        refine lv_isub (pc := 48) hx hb dX5_again_48 ?_
        refine lv_topi (fun v12 ev12 => ?_)
        replace hf := bnd_use ev12 hf
        refine lv_istore_n (pc := 49) (lv' := [(3, .int v12), (0, .ref h0), (1, .int x1), (2, .int x2)]) hx hb dX5_again_49 rfl hl (by decide) rfl (fun ls hl => ?_)
        refine lv_iload_n (pc := 50) hx hb dX5_again_50 rfl (lv_at hl 2 rfl) ?_
        refine lv_if_eq (pc := 51) (tgt := 60) hx hb dX5_again_51 (by decide) (fun c13 => ?_) (fun c13 => ?_)
        · replace hf := ite_t c13 hf
          exact L60 (fX5_again_L18  n) ih x1 x2 v12 u6 u7 u8 _ _ _ hf hX (lv_sub hl [1, 2, 3, 0] rfl)
        · replace hf := ite_f c13 hf
          refine lv_iload_n (pc := 54) hx hb dX5_again_54 rfl (lv_at hl 3 rfl) ?_
          refine lv_iload_n (pc := 55) hx hb dX5_again_55 rfl (lv_at hl 2 rfl) ?_
          replace hf := chk_adv hf
          have i29 := hf.1
          replace hf := hf.2
          refine lv_irem (pc := 56) hx hb dX5_again_56 i29 ?_
          refine lv_if_ne (pc := 57) (tgt := 64) hx hb dX5_again_57 (by decide) (fun c30 => ?_) (fun c30 => ?_)
          · replace hf := ite_f c30 hf
            refine lv_iconst (pc := 64) (v := 0) hx hb dX5_again_64 (by decide) ?_
            exact L65 (fX5_again_L18  n) ih x1 x2 v12 (0 : Int32) u6 u7 u8 _ _ _ hf hX (lv_sub hl [1, 2, 3, 0] rfl)
          · replace hf := ite_t c30 hf
            exact L60 (fX5_again_L18  n) ih x1 x2 v12 u6 u7 u8 _ _ _ hf hX (lv_sub hl [1, 2, 3, 0] rfl)
  unfold fX5_again at hf
  refine lv_aload_n (pc := 0) hx hb dX5_again_0 rfl (lv_at hl 0 rfl) ?_
  refine x_getf (pc := 1) (Cn := RX5) (T := TX5) (N := 24) C hX 0 rfl rfl miX5_again_X5 0 (by decide) mmX5_again_1 rfl dX5_again_1 ?_
  refine lv_bipush (pc := 4) (v := 37) hx hb dX5_again_4 (by decide) ?_
  replace hf := chk_adv hf
  have i1 := hf.1
  replace hf := hf.2
  refine x_iald (pc := 6) C hX 1 0 rfl rfl i1 dX5_again_6 ?_
  refine lv_topi (fun v2 ev2 => ?_)
  replace hf := bnd_use ev2 hf
  refine lv_istore_n (pc := 7) (lv' := [(1, .int v2), (0, .ref h0)]) hx hb dX5_again_7 rfl hl (by decide) rfl (fun ls hl => ?_)
  refine lv_aload_n (pc := 8) hx hb dX5_again_8 rfl (lv_at hl 1 rfl) ?_
  refine lv_iconst (pc := 9) (v := 0) hx hb dX5_again_9 (by decide) ?_
  refine lv_sipush (pc := 10) (v := 160) hx hb dX5_again_10 (by decide) ?_
  obtain ⟨u3, g4, hf⟩ := cl1_adv hf
  refine x_callVv (pc := 13) (rest := []) (w2 := [(h0, .inr (5, [.ref h_state, .ref h_readPage, .ref h_tape, .int taped, .int fault, .int broken, .int brokenAt, .int spot, .int here, .int token, .int value, .ref h_ends, .ref h_letters, .int moved, .int turned, .int worst, .ref h_seen, .int seenMany, .ref h_lastBy, .ref h_isKept, .ref h_lanes, .ref h_lengths, .ref h_cells, .int torn])), (h_state, .inl (cI, 240, .inl u3))]) C hX (kX5_copies ad l D cI cB cZ cG cS h0 h_state h_readPage h_tape h_ends h_letters h_seen h_lastBy h_isKept h_lanes h_lengths h_cells taped fault broken brokenAt spot here token value moved turned worst seenMany torn state u3 (0 : Int32) (160 : Int32) g4) (cwV 2 C.1.2.2.2.2 gX5_again_X5_copies rfl rfl rfl (by decide +kernel) ⟨Nat.le_of_ble_eq_true rfl, Nat.le_of_ble_eq_true rfl⟩) [0, 1] [] [0, 1] rfl rfl rfl rfl (by decide) rfl rfl 0 rfl rfl rfl hl.1 rfl rfl (Nat.le_of_ble_eq_true rfl) dX5_again_13 (fun H locs hX => ?_)
  refine lv_iconst (pc := 16) (v := 1) hx hb dX5_again_16 (by decide) ?_
  refine lv_istore_n (pc := 17) (lv' := [(2, .int (1 : Int32)), (1, .int v2), (0, .ref h0)]) hx hb dX5_again_17 rfl hl (by decide) rfl (fun ls hl => ?_)
  exact L18  xF v2 (1 : Int32) moved turned u3 _ _ _ hf hX (lv_sub hl [2, 1, 0] rfl)
