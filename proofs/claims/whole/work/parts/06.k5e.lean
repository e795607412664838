theorem mmX5_see_1 : Cond.constantLong RX5 218 (40) ∈ wsX5_see := List.mem_of_getElem? (i := 1) rfl
theorem mmX5_see_2 : Cond.fieldLink RX5 110 "SlackArmsModel" "seenMany" "I" ∈ wsX5_see := List.mem_of_getElem? (i := 2) rfl
theorem miX5_see_X5 : ∀ w ∈ u_ws RX5 TX5 24, w ∈ wsX5_see := fun w h => List.mem_cons_of_mem _ (List.mem_append_right _ h)
theorem mmX5_see_3 : Cond.fieldLink RX5 25 "SlackArmsModel" "seen" "[I" ∈ wsX5_see := List.mem_of_getElem? (i := 3) rfl
theorem mmX5_see_4 : Cond.constant RX5 144 (200000) ∈ wsX5_see := List.mem_of_getElem? (i := 4) rfl
set_option maxHeartbeats 4000000 in
set_option maxRecDepth 100000 in
theorem kX5_see (ad : xAd) (l : Launch) (D : va_G) (cI cB cZ cG cS : ClassId) (h0 h_state h_readPage h_tape h_ends h_letters h_seen h_lastBy h_isKept h_lanes h_lengths h_cells : Nat) (taped : Int32) (fault : Int32) (broken : Int32) (brokenAt : Int32) (spot : Int32) (here : Int32) (token : Int32) (value : Int32) (moved : Int32) (turned : Int32) (worst : Int32) (seenMany : Int32) (torn : Int32) (state : (Nat → Int32)) (seen : (Nat → Int32)) (r0 : Int32) (o_seenMany' : Int32) (o_seen' : (Nat → Int32)) (p1 : Int32) (p2 : Int32) (p3 : Int32) (hf : fX5_see p1 p2 p3 seenMany state seen = some (r0, o_seenMany', o_seen')) : xMi ad l yX5_see wsX5_see ({ frames := 2, cells := 0, slots := 0, locals := 46 } : Room) D (xTY cI cB cZ cG cS) [.ref h0, .int p1, .int p2, .int p3] [(h0, .inr (5, [.ref h_state, .ref h_readPage, .ref h_tape, .int taped, .int fault, .int broken, .int brokenAt, .int spot, .int here, .int token, .int value, .ref h_ends, .ref h_letters, .int moved, .int turned, .int worst, .ref h_seen, .int seenMany, .ref h_lastBy, .ref h_isKept, .ref h_lanes, .ref h_lengths, .ref h_cells, .int torn])), (h_state, .inl (cI, 240, .inl state)), (h_seen, .inl (cI, 18, .inl seen))] [(h0, .inr (5, [.ref h_state, .ref h_readPage, .ref h_tape, .int taped, .int fault, .int broken, .int brokenAt, .int spot, .int here, .int token, .int value, .ref h_ends, .ref h_letters, .int moved, .int turned, .int worst, .ref h_seen, .int o_seenMany', .ref h_lastBy, .ref h_isKept, .ref h_lanes, .ref h_lengths, .ref h_cells, .int torn])), (h_state, .inl (cI, 240, .inl state)), (h_seen, .inl (cI, 18, .inl o_seen'))] r0 := by
  refine xMi_of (cc := cX5_see) (maxL := 4) (ty := .int) (by decide) rfl (Nat.le_of_ble_eq_true rfl) ?_
  intro p e s m args below meth c A Q ls C hX hl hret
  have hx := C.1.1
  have hb := C.1.2.1
  have hl : lv_has ls 4 [(0, .ref h0), (1, .int p1), (2, .int p2), (3, .int p3)] := hl
  unfold fX5_see at hf
  refine lv_iload_n (pc := 0) hx hb dX5_see_0 rfl (lv_at hl 1 rfl) ?_
  refine lv_i2l (pc := 1) (v := ((p1).toInt64)) hx hb dX5_see_1 rfl ?_
  refine lv_lconst (pc := 2) (v := 0) hx hb dX5_see_2 (by decide) ?_
  refine lv_ldc2 (pc := 3) hx hb C.1.2.2.2.1 (C.1.2.2.2.2 _ mmX5_see_1) dX5_see_3 ?_
  obtain ⟨r1, g2, hf⟩ := cl1_adv hf
  refine x_callSi (pc := 6) (rest := []) C hX (kX5_in ad l D cI cB cZ cG cS r1 ((p1).toInt64) (0 : Int64) (40 : Int64) g2) (va_cwS 3 C.1.2.2.2.2 gX5_see_X5_in rfl rfl rfl (by decide +kernel) ⟨Nat.le_of_ble_eq_true rfl, Nat.le_of_ble_eq_true rfl⟩) hl.1 rfl rfl (Nat.le_of_ble_eq_true rfl) dX5_see_6 (fun H locs hX => ?_)
  refine lv_if_eq (pc := 9) (tgt := 27) hx hb dX5_see_9 (by decide) (fun c3 => ?_) (fun c3 => ?_)
  · replace hf := ite_t c3 hf
    refine lv_iconst (pc := 27) (v := -1) hx hb dX5_see_27 (by decide) ?_
    obtain ⟨rfl, rfl, rfl⟩ := re3 hf
    exact hret _ _ _ _ _ rfl rfl hX dX5_see_28
  · replace hf := ite_f c3 hf
    refine lv_aload_n (pc := 12) hx hb dX5_see_12 rfl (lv_at hl 0 rfl) ?_
    refine lv_iload_n (pc := 13) hx hb dX5_see_13 rfl (lv_at hl 2 rfl) ?_
    obtain ⟨r4, g5, hf⟩ := cl1_adv hf
    refine x_callVi (pc := 14) (rest := []) (w2 := [(h0, .inr (5, [.ref h_state, .ref h_readPage, .ref h_tape, .int taped, .int fault, .int broken, .int brokenAt, .int spot, .int here, .int token, .int value, .ref h_ends, .ref h_letters, .int moved, .int turned, .int worst, .ref h_seen, .int seenMany, .ref h_lastBy, .ref h_isKept, .ref h_lanes, .ref h_lengths, .ref h_cells, .int torn])), (h_state, .inl (cI, 240, .inl state)), (h_seen, .inl (cI, 18, .inl seen))]) C hX (kX5_isArm ad l D cI cB cZ cG cS h0 h_state h_readPage h_tape h_ends h_letters h_seen h_lastBy h_isKept h_lanes h_lengths h_cells taped fault broken brokenAt spot here token value moved turned worst seenMany torn state r4 p2 g5) (cwV 1 C.1.2.2.2.2 gX5_see_X5_isArm rfl rfl rfl (by decide +kernel) ⟨Nat.le_of_ble_eq_true rfl, Nat.le_of_ble_eq_true rfl⟩) [0, 1] [2] [1, 2, 0] rfl rfl rfl rfl (by decide) rfl rfl 0 rfl rfl rfl hl.1 rfl rfl (Nat.le_of_ble_eq_true rfl) dX5_see_14 (fun H locs hX => ?_)
    refine lv_if_eq (pc := 17) (tgt := 27) hx hb dX5_see_17 (by decide) (fun c6 => ?_) (fun c6 => ?_)
    · replace hf := ite_t c6 hf
      refine lv_iconst (pc := 27) (v := -1) hx hb dX5_see_27 (by decide) ?_
      obtain ⟨rfl, rfl, rfl⟩ := re3 hf
      exact hret _ _ _ _ _ rfl rfl hX dX5_see_28
    · replace hf := ite_f c6 hf
      refine lv_iload_n (pc := 20) hx hb dX5_see_20 rfl (lv_at hl 3 rfl) ?_
      obtain ⟨r7, g8, hf⟩ := cl1_adv hf
      refine x_callSi (pc := 21) (rest := []) C hX (kX5_isPlace ad l D cI cB cZ cG cS r7 p3 g8) (va_cwS 1 C.1.2.2.2.2 gX5_see_X5_isPlace rfl rfl rfl (by decide +kernel) ⟨Nat.le_of_ble_eq_true rfl, Nat.le_of_ble_eq_true rfl⟩) hl.1 rfl rfl (Nat.le_of_ble_eq_true rfl) dX5_see_21 (fun H locs hX => ?_)
      refine lv_if_ne (pc := 24) (tgt := 29) hx hb dX5_see_24 (by decide) (fun c9 => ?_) (fun c9 => ?_)
      · replace hf := ite_f c9 hf
        refine lv_aload_n (pc := 29) hx hb dX5_see_29 rfl (lv_at hl 0 rfl) ?_
        refine x_getf (pc := 30) (Cn := RX5) (T := TX5) (N := 24) C hX 0 rfl rfl miX5_see_X5 17 (by decide) mmX5_see_2 rfl dX5_see_30 ?_
        refine lv_bipush (pc := 33) (v := 6) hx hb dX5_see_33 (by decide) ?_
        refine lv_icmp_ne (pc := 35) (tgt := 41) hx hb dX5_see_35 (by decide) (fun c10 => ?_) (fun c10 => ?_)
        · replace hf := ite_f c10 hf
          refine lv_aload_n (pc := 41) hx hb dX5_see_41 rfl (lv_at hl 0 rfl) ?_
          refine x_getf (pc := 42) (Cn := RX5) (T := TX5) (N := 24) C hX 0 rfl rfl miX5_see_X5 16 (by decide) mmX5_see_3 rfl dX5_see_42 ?_
          refine lv_iconst (pc := 45) (v := 3) hx hb dX5_see_45 (by decide) ?_
          refine lv_aload_n (pc := 46) hx hb dX5_see_46 rfl (lv_at hl 0 rfl) ?_
          refine x_getf (pc := 47) (Cn := RX5) (T := TX5) (N := 24) C hX 0 rfl rfl miX5_see_X5 17 (by decide) mmX5_see_2 rfl dX5_see_47 ?_
          refine lv_imul (pc := 50) hx hb dX5_see_50 ?_
          refine lv_iload_n (pc := 51) hx hb dX5_see_51 rfl (lv_at hl 1 rfl) ?_
          replace hf := chk_adv hf
          have i11 := hf.1
          replace hf := hf.2
          obtain ⟨f12, ef12⟩ : ∃ y : Nat → Int32, y = (upd seen (((3 : Int32) * seenMany)).toNatClampNeg p1) := ⟨_, rfl⟩
          replace hf := bnd_use ef12 hf
          refine x_iast (pc := 52) C hX 2 0 rfl rfl i11 [(h0, .inr (5, [.ref h_state, .ref h_readPage, .ref h_tape, .int taped, .int fault, .int broken, .int brokenAt, .int spot, .int here, .int token, .int value, .ref h_ends, .ref h_letters, .int moved, .int turned, .int worst, .ref h_seen, .int seenMany, .ref h_lastBy, .ref h_isKept, .ref h_lanes, .ref h_lengths, .ref h_cells, .int torn])), (h_state, .inl (cI, 240, .inl state)), (h_seen, .inl (cI, 18, .inl f12))] (by subst ef12; rfl) dX5_see_52 (fun H locs hX => ?_)
          refine lv_aload_n (pc := 53) hx hb dX5_see_53 rfl (lv_at hl 0 rfl) ?_
          refine x_getf (pc := 54) (Cn := RX5) (T := TX5) (N := 24) C hX 0 rfl rfl miX5_see_X5 16 (by decide) mmX5_see_3 rfl dX5_see_54 ?_
          refine lv_iconst (pc := 57) (v := 3) hx hb dX5_see_57 (by decide) ?_
          refine lv_aload_n (pc := 58) hx hb dX5_see_58 rfl (lv_at hl 0 rfl) ?_
          refine x_getf (pc := 59) (Cn := RX5) (T := TX5) (N := 24) C hX 0 rfl rfl miX5_see_X5 17 (by decide) mmX5_see_2 rfl dX5_see_59 ?_
          refine lv_imul (pc := 62) hx hb dX5_see_62 ?_
          refine lv_iconst (pc := 63) (v := 1) hx hb dX5_see_63 (by decide) ?_
          refine lv_iadd (pc := 64) hx hb dX5_see_64 ?_
          refine lv_iload_n (pc := 65) hx hb dX5_see_65 rfl (lv_at hl 2 rfl) ?_
          replace hf := chk_adv hf
          have i13 := hf.1
          replace hf := hf.2
          obtain ⟨f14, ef14⟩ : ∃ y : Nat → Int32, y = (upd f12 ((((3 : Int32) * seenMany) + (1 : Int32))).toNatClampNeg p2) := ⟨_, rfl⟩
          replace hf := bnd_use ef14 hf
          refine x_iast (pc := 66) C hX 2 0 rfl rfl i13 [(h0, .inr (5, [.ref h_state, .ref h_readPage, .ref h_tape, .int taped, .int fault, .int broken, .int brokenAt, .int spot, .int here, .int token, .int value, .ref h_ends, .ref h_letters, .int moved, .int turned, .int worst, .ref h_seen, .int seenMany, .ref h_lastBy, .ref h_isKept, .ref h_lanes, .ref h_lengths, .ref h_cells, .int torn])), (h_state, .inl (cI, 240, .inl state)), (h_seen, .inl (cI, 18, .inl f14))] (by subst ef14; rfl) dX5_see_66 (fun H locs hX => ?_)
          refine lv_aload_n (pc := 67) hx hb dX5_see_67 rfl (lv_at hl 0 rfl) ?_
          refine x_getf (pc := 68) (Cn := RX5) (T := TX5) (N := 24) C hX 0 rfl rfl miX5_see_X5 16 (by decide) mmX5_see_3 rfl dX5_see_68 ?_
          refine lv_iconst (pc := 71) (v := 3) hx hb dX5_see_71 (by decide) ?_
          refine lv_aload_n (pc := 72) hx hb dX5_see_72 rfl (lv_at hl 0 rfl) ?_
          refine x_getf (pc := 73) (Cn := RX5) (T := TX5) (N := 24) C hX 0 rfl rfl miX5_see_X5 17 (by decide) mmX5_see_2 rfl dX5_see_73 ?_
          refine lv_imul (pc := 76) hx hb dX5_see_76 ?_
          refine lv_iconst (pc := 77) (v := 2) hx hb dX5_see_77 (by decide) ?_
          refine lv_iadd (pc := 78) hx hb dX5_see_78 ?_
          refine lv_iload_n (pc := 79) hx hb dX5_see_79 rfl (lv_at hl 3 rfl) ?_
          refine lv_ldc (pc := 80) hx hb C.1.2.2.2.1 (C.1.2.2.2.2 _ mmX5_see_4) dX5_see_80 ?_
          refine lv_isub (pc := 82) hx hb dX5_see_82 ?_
          refine lv_topi (fun v15 ev15 => ?_)
          replace hf := bnd_use ev15 hf
          replace hf := chk_adv hf
          have i16 := hf.1
          replace hf := hf.2
          obtain ⟨f17, ef17⟩ : ∃ y : Nat → Int32, y = (upd f14 ((((3 : Int32) * seenMany) + (2 : Int32))).toNatClampNeg v15) := ⟨_, rfl⟩
          replace hf := bnd_use ef17 hf
          refine x_iast (pc := 83) C hX 2 0 rfl rfl i16 [(h0, .inr (5, [.ref h_state, .ref h_readPage, .ref h_tape, .int taped, .int fault, .int broken, .int brokenAt, .int spot, .int here, .int token, .int value, .ref h_ends, .ref h_letters, .int moved, .int turned, .int worst, .ref h_seen, .int seenMany, .ref h_lastBy, .ref h_isKept, .ref h_lanes, .ref h_lengths, .ref h_cells, .int torn])), (h_state, .inl (cI, 240, .inl state)), (h_seen, .inl (cI, 18, .inl f17))] (by subst ef17; rfl) dX5_see_83 (fun H locs hX => ?_)
          refine lv_aload_n (pc := 84) hx hb dX5_see_84 rfl (lv_at hl 0 rfl) ?_
          refine lv_dup (pc := 85) hx hb dX5_see_85 rfl ?_
          refine x_getf (pc := 86) (Cn := RX5) (T := TX5) (N := 24) C hX 0 rfl rfl miX5_see_X5 17 (by decide) mmX5_see_2 rfl dX5_see_86 ?_
          refine lv_iconst (pc := 89) (v := 1) hx hb dX5_see_89 (by decide) ?_
          refine lv_iadd (pc := 90) hx hb dX5_see_90 ?_
          refine lv_topi (fun v18 ev18 => ?_)
          replace hf := bnd_use ev18 hf
          refine x_putf (pc := 91) (Cn := RX5) (T := TX5) (N := 24) C hX tyX5 tyX5_ok nmX5 0 rfl rfl miX5_see_X5 17 (by decide) mmX5_see_2 rfl rfl (Nat.le_of_ble_eq_true rfl) [(h0, .inr (5, [.ref h_state, .ref h_readPage, .ref h_tape, .int taped, .int fault, .int broken, .int brokenAt, .int spot, .int here, .int token, .int value, .ref h_ends, .ref h_letters, .int moved, .int turned, .int worst, .ref h_seen, .int v18, .ref h_lastBy, .ref h_isKept, .ref h_lanes, .ref h_lengths, .ref h_cells, .int torn])), (h_state, .inl (cI, 240, .inl state)), (h_seen, .inl (cI, 18, .inl f17))] rfl dX5_see_91 (fun H locs hX => ?_)
          refine lv_aload_n (pc := 94) hx hb dX5_see_94 rfl (lv_at hl 0 rfl) ?_
          refine x_getf (pc := 95) (Cn := RX5) (T := TX5) (N := 24) C hX 0 rfl rfl miX5_see_X5 17 (by decide) mmX5_see_2 rfl dX5_see_95 ?_
          obtain ⟨rfl, rfl, rfl⟩ := re3 hf
          exact hret _ _ _ _ _ rfl rfl hX dX5_see_98
        · replace hf := ite_t c10 hf
          refine lv_bipush (pc := 38) (v := -3) hx hb dX5_see_38 (by decide) ?_
          obtain ⟨rfl, rfl, rfl⟩ := re3 hf
          exact hret _ _ _ _ _ rfl rfl hX dX5_see_40
      · replace hf := ite_t c9 hf
        refine lv_iconst (pc := 27) (v := -1) hx hb dX5_see_27 (by decide) ?_
        obtain ⟨rfl, rfl, rfl⟩ := re3 hf
        exact hret _ _ _ _ _ rfl rfl hX dX5_see_28
theorem mmX5_forget_1 : Cond.fieldLink RX5 110 "SlackArmsModel" "seenMany" "I" ∈ wsX5_forget := List.mem_of_getElem? (i := 1) rfl
theorem miX5_forget_X5 : ∀ w ∈ u_ws RX5 TX5 24, w ∈ wsX5_forget := fun w h => List.mem_cons_of_mem _ (List.mem_append_right _ h)
set_option maxHeartbeats 4000000 in
set_option maxRecDepth 100000 in
theorem kX5_forget (ad : xAd) (l : Launch) (D : va_G) (cI cB cZ cG cS : ClassId) (h0 h_state h_readPage h_tape h_ends h_letters h_seen h_lastBy h_isKept h_lanes h_lengths h_cells : Nat) (taped : Int32) (fault : Int32) (broken : Int32) (brokenAt : Int32) (spot : Int32) (here : Int32) (token : Int32) (value : Int32) (moved : Int32) (turned : Int32) (worst : Int32) (seenMany : Int32) (torn : Int32) (r0 : Int32) (o_seenMany' : Int32) (p1 : Int32) (hf : fX5_forget p1 seenMany = some (r0, o_seenMany')) : xMi ad l yX5_forget wsX5_forget ({ frames := 1, cells := 0, slots := 0, locals := 25 } : Room) D (xTY cI cB cZ cG cS) [.ref h0, .int p1] [(h0, .inr (5, [.ref h_state, .ref h_readPage, .ref h_tape, .int taped, .int fault, .int broken, .int brokenAt, .int spot, .int here, .int token, .int value, .ref h_ends, .ref h_letters, .int moved, .int turned, .int worst, .ref h_seen, .int seenMany, .ref h_lastBy, .ref h_isKept, .ref h_lanes, .ref h_lengths, .ref h_cells, .int torn]))] [(h0, .inr (5, [.ref h_state, .ref h_readPage, .ref h_tape, .int taped, .int fault, .int broken, .int brokenAt, .int spot, .int here, .int token, .int value, .ref h_ends, .ref h_letters, .int moved, .int turned, .int worst, .ref h_seen, .int o_seenMany', .ref h_lastBy, .ref h_isKept, .ref h_lanes, .ref h_lengths, .ref h_cells, .int torn]))] r0 := by
  refine xMi_of (cc := cX5_forget) (maxL := 3) (ty := .int) (by decide) rfl (Nat.le_of_ble_eq_true rfl) ?_
  intro p e s m args below meth c A Q ls C hX hl hret
  have hx := C.1.1
  have hb := C.1.2.1
  have hl : lv_has ls 3 [(0, .ref h0), (1, .int p1)] := hl
  unfold fX5_forget at hf
  refine lv_iload_n (pc := 0) hx hb dX5_forget_0 rfl (lv_at hl 1 rfl) ?_
  refine lv_i2l (pc := 1) (v := ((p1).toInt64)) hx hb dX5_forget_1 rfl ?_
  refine lv_lconst (pc := 2) (v := 0) hx hb dX5_forget_2 (by decide) ?_
  refine lv_aload_n (pc := 3) hx hb dX5_forget_3 rfl (lv_at hl 0 rfl) ?_
  refine x_getf (pc := 4) (Cn := RX5) (T := TX5) (N := 24) C hX 0 rfl rfl miX5_forget_X5 17 (by decide) mmX5_forget_1 rfl dX5_forget_4 ?_
  refine lv_i2l (pc := 7) (v := ((seenMany).toInt64)) hx hb dX5_forget_7 rfl ?_
  obtain ⟨r1, g2, hf⟩ := cl1_adv hf
  refine x_callSi (pc := 8) (rest := []) C hX (kX5_in ad l D cI cB cZ cG cS r1 ((p1).toInt64) (0 : Int64) ((seenMany).toInt64) g2) (va_cwS 3 C.1.2.2.2.2 gX5_forget_X5_in rfl rfl rfl (by decide +kernel) ⟨Nat.le_of_ble_eq_true rfl, Nat.le_of_ble_eq_true rfl⟩) hl.1 rfl rfl (Nat.le_of_ble_eq_true rfl) dX5_forget_8 (fun H locs hX => ?_)
  refine lv_if_ne (pc := 11) (tgt := 16) hx hb dX5_forget_11 (by decide) (fun c3 => ?_) (fun c3 => ?_)
  · replace hf := ite_f c3 hf
    refine lv_aload_n (pc := 16) hx hb dX5_forget_16 rfl (lv_at hl 0 rfl) ?_
    refine x_getf (pc := 17) (Cn := RX5) (T := TX5) (N := 24) C hX 0 rfl rfl miX5_forget_X5 17 (by decide) mmX5_forget_1 rfl dX5_forget_17 ?_
    refine lv_istore_n (pc := 20) (lv' := [(2, .int seenMany), (0, .ref h0), (1, .int p1)]) hx hb dX5_forget_20 rfl hl (by decide) rfl (fun ls hl => ?_)
    refine lv_aload_n (pc := 21) hx hb dX5_forget_21 rfl (lv_at hl 1 rfl) ?_
    refine lv_iload_n (pc := 22) hx hb dX5_forget_22 rfl (lv_at hl 2 rfl) ?_
    refine x_putf (pc := 23) (Cn := RX5) (T := TX5) (N := 24) C hX tyX5 tyX5_ok nmX5 0 rfl rfl miX5_forget_X5 17 (by decide) mmX5_forget_1 rfl rfl (Nat.le_of_ble_eq_true rfl) [(h0, .inr (5, [.ref h_state, .ref h_readPage, .ref h_tape, .int taped, .int fault, .int broken, .int brokenAt, .int spot, .int here, .int token, .int value, .ref h_ends, .ref h_letters, .int moved, .int turned, .int worst, .ref h_seen, .int p1, .ref h_lastBy, .ref h_isKept, .ref h_lanes, .ref h_lengths, .ref h_cells, .int torn]))] rfl dX5_forget_23 (fun H locs hX => ?_)
    refine lv_iload_n (pc := 26) hx hb dX5_forget_26 rfl (lv_at hl 0 rfl) ?_
    obtain ⟨rfl, rfl⟩ := re2 hf
    exact hret _ _ _ _ _ rfl rfl hX dX5_forget_27
  · replace hf := ite_t c3 hf
    refine lv_iconst (pc := 14) (v := -1) hx hb dX5_forget_14 (by decide) ?_
    obtain ⟨rfl, rfl⟩ := re2 hf
    exact hret _ _ _ _ _ rfl rfl hX dX5_forget_15
theorem mmX5_isAsSeen_1 : Cond.fieldLink RX5 28 "SlackArmsModel" "lastBy" "[I" ∈ wsX5_isAsSeen := List.mem_of_getElem? (i := 1) rfl
theorem miX5_isAsSeen_X5 : ∀ w ∈ u_ws RX5 TX5 24, w ∈ wsX5_isAsSeen := fun w h => List.mem_cons_of_mem _ (List.mem_append_right _ h)
theorem mmX5_isAsSeen_2 : Cond.fieldLink RX5 7 "SlackArmsModel" "state" "[I" ∈ wsX5_isAsSeen := List.mem_of_getElem? (i := 2) rfl
theorem mmX5_isAsSeen_3 : Cond.fieldLink RX5 110 "SlackArmsModel" "seenMany" "I" ∈ wsX5_isAsSeen := List.mem_of_getElem? (i := 3) rfl
theorem mmX5_isAsSeen_4 : Cond.fieldLink RX5 25 "SlackArmsModel" "seen" "[I" ∈ wsX5_isAsSeen := List.mem_of_getElem? (i := 4) rfl
set_option maxHeartbeats 4000000 in
set_option maxRecDepth 100000 in
theorem kX5_isAsSeen (ad : xAd) (l : Launch) (D : va_G) (cI cB cZ cG cS : ClassId) (h0 h_state h_readPage h_tape h_ends h_letters h_seen h_lastBy h_isKept h_lanes h_lengths h_cells : Nat) (taped : Int32) (fault : Int32) (broken : Int32) (brokenAt : Int32) (spot : Int32) (here : Int32) (token : Int32) (value : Int32) (moved : Int32) (turned : Int32) (worst : Int32) (seenMany : Int32) (torn : Int32) (state : (Nat → Int32)) (seen : (Nat → Int32)) (lastBy : (Nat → Int32)) (r0 : Int32) (o_moved' : Int32) (o_turned' : Int32) (o_state' : (Nat → Int32)) (o_lastBy' : (Nat → Int32)) (p1 : Int32) (p2 : Int32) (hf : fX5_isAsSeen p1 p2 moved turned seenMany state seen lastBy = some (r0, o_moved', o_turned', o_state', o_lastBy')) : xMi ad l yX5_isAsSeen wsX5_isAsSeen ({ frames := 5, cells := 0, slots := 0, locals := 117 } : Room) D (xTY cI cB cZ cG cS) [.ref h0, .int p1, .int p2] [(h0, .inr (5, [.ref h_state, .ref h_readPage, .ref h_tape, .int taped, .int fault, .int broken, .int brokenAt, .int spot, .int here, .int token, .int value, .ref h_ends, .ref h_letters, .int moved, .int turned, .int worst, .ref h_seen, .int seenMany, .ref h_lastBy, .ref h_isKept, .ref h_lanes, .ref h_lengths, .ref h_cells, .int torn])), (h_state, .inl (cI, 240, .inl state)), (h_seen, .inl (cI, 18, .inl seen)), (h_lastBy, .inl (cI, 410, .inl lastBy))] [(h0, .inr (5, [.ref h_state, .ref h_readPage, .ref h_tape, .int taped, .int fault, .int broken, .int brokenAt, .int spot, .int here, .int token, .int value, .ref h_ends, .ref h_letters, .int o_moved', .int o_turned', .int worst, .ref h_seen, .int seenMany, .ref h_lastBy, .ref h_isKept, .ref h_lanes, .ref h_lengths, .ref h_cells, .int torn])), (h_state, .inl (cI, 240, .inl o_state')), (h_seen, .inl (cI, 18, .inl seen)), (h_lastBy, .inl (cI, 410, .inl o_lastBy'))] r0 := by
  refine xMi_of (cc := cX5_isAsSeen) (maxL := 8) (ty := .boolean) (by decide) rfl (Nat.le_of_ble_eq_true rfl) ?_
  intro p e s m args below meth c A Q ls C hX hl hret
  have hx := C.1.1
  have hb := C.1.2.1
  have hl : lv_has ls 8 [(0, .ref h0), (1, .int p1), (2, .int p2)] := hl
  have L147 : ∀ (k13 : Int32 → Int32 → Int32 → Int32 → Int32 → (Nat → Int32) → (Nat → Int32) → Option (Int32 × Int32 × Int32 × (Nat → Int32) × (Nat → Int32))) (hk13 : ∀ (x2 : Int32) (x3 : Int32) (x4 : Int32) (moved : Int32) (turned : Int32) (state : (Nat → Int32)) (lastBy : (Nat → Int32)) (H : Heap) (locs : List Loc) (ls : Array Slot), k13 x2 x3 x4 moved turned state lastBy = some (r0, o_moved', o_turned', o_state', o_lastBy') → xSt A s D [(h0, .inr (5, [.ref h_state, .ref h_readPage, .ref h_tape, .int taped, .int fault, .int broken, .int brokenAt, .int spot, .int here, .int token, .int value, .ref h_ends, .ref h_letters, .int moved, .int turned, .int worst, .ref h_seen, .int seenMany, .ref h_lastBy, .ref h_isKept, .ref h_lanes, .ref h_lengths, .ref h_cells, .int torn])), (h_state, .inl (cI, 240, .inl state)), (h_seen, .inl (cI, 18, .inl seen)), (h_lastBy, .inl (cI, 410, .inl lastBy))] H locs → lv_has ls 8 [(0, .ref h0), (2, .int x2), (3, .int x3), (4, .int x4)] → W p l e ({ frames := 5, cells := 0, slots := 0, locals := 117 } : Room) s m args below meth c H locs 0 0 Q (F0 m 13 ls [])) (k53 : Int32 → Int32 → Int32 → Int32 → Int32 → Int32 → (Nat → Int32) → (Nat → Int32) → Option (Int32 × Int32 × Int32 × (Nat → Int32) × (Nat → Int32))) (hk53 : ∀ (x2 : Int32) (x3 : Int32) (x4 : Int32) (x5 : Int32) (moved : Int32) (turned : Int32) (state : (Nat → Int32)) (lastBy : (Nat → Int32)) (H : Heap) (locs : List Loc) (ls : Array Slot), k53 x2 x3 x4 x5 moved turned state lastBy = some (r0, o_moved', o_turned', o_state', o_lastBy') → xSt A s D [(h0, .inr (5, [.ref h_state, .ref h_readPage, .ref h_tape, .int taped, .int fault, .int broken, .int brokenAt, .int spot, .int here, .int token, .int value, .ref h_ends, .ref h_letters, .int moved, .int turned, .int worst, .ref h_seen, .int seenMany, .ref h_lastBy, .ref h_isKept, .ref h_lanes, .ref h_lengths, .ref h_cells, .int torn])), (h_state, .inl (cI, 240, .inl state)), (h_seen, .inl (cI, 18, .inl seen)), (h_lastBy, .inl (cI, 410, .inl lastBy))] H locs → lv_has ls 8 [(0, .ref h0), (2, .int x2), (3, .int x3), (4, .int x4), (5, .int x5)] → W p l e ({ frames := 5, cells := 0, slots := 0, locals := 117 } : Room) s m args below meth c H locs 0 0 Q (F0 m 53 ls [])), ∀ (x2 : Int32) (x4 : Int32) (x5 : Int32) (y0 : Int32) (moved : Int32) (turned : Int32) (state : (Nat → Int32)) (lastBy : (Nat → Int32)) (H : Heap) (locs : List Loc) (ls : Array Slot), fX5_isAsSeen_L147 seenMany seen k13 k53 x2 x4 x5 y0 moved turned state lastBy = some (r0, o_moved', o_turned', o_state', o_lastBy') → xSt A s D [(h0, .inr (5, [.ref h_state, .ref h_readPage, .ref h_tape, .int taped, .int fault, .int broken, .int brokenAt, .int spot, .int here, .int token, .int value, .ref h_ends, .ref h_letters, .int moved, .int turned, .int worst, .ref h_seen, .int seenMany, .ref h_lastBy, .ref h_isKept, .ref h_lanes, .ref h_lengths, .ref h_cells, .int torn])), (h_state, .inl (cI, 240, .inl state)), (h_seen, .inl (cI, 18, .inl seen)), (h_lastBy, .inl (cI, 410, .inl lastBy))] H locs → lv_has ls 8 [(0, .ref h0), (2, .int x2), (4, .int x4), (5, .int x5)] → W p l e ({ frames := 5, cells := 0, slots := 0, locals := 117 } : Room) s m args below meth c H locs 0 0 Q (F0 m 147 ls [.int y0]) := by
    intro k13 hk13 k53 hk53 x2 x4 x5 y0 moved turned state lastBy H locs ls hf hX hl
    unfold fX5_isAsSeen_L147 at hf
    refine lv_istore_n (pc := 147) (lv' := [(3, .int y0), (0, .ref h0), (2, .int x2), (4, .int x4), (5, .int x5)]) hx hb dX5_isAsSeen_147 rfl hl (by decide) rfl (fun ls hl => ?_)
    obtain ⟨v21, ev21⟩ : ∃ y : Int32, y = (x5 + (1 : Int32)) := ⟨_, rfl⟩
    replace hf := bnd_use ev21 hf
    refine lv_iinc (pc := 148) (v := v21) (lv' := [(5, .int v21), (3, .int y0), (0, .ref h0), (2, .int x2), (4, .int x4)]) hx hb dX5_isAsSeen_148 hl (k := 4) rfl (by rw [ev21]; rfl) (by decide) rfl (fun ls hl => ?_)
    refine lv_goto (pc := 151) (tgt := 53) hx hb dX5_isAsSeen_151 (by decide) ?_
    exact hk53 x2 y0 x4 v21 moved turned state lastBy _ _ _ hf hX (lv_sub hl [2, 3, 1, 4, 0] rfl)
  have L146 : ∀ (k13 : Int32 → Int32 → Int32 → Int32 → Int32 → (Nat → Int32) → (Nat → Int32) → Option (Int32 × Int32 × Int32 × (Nat → Int32) × (Nat → Int32))) (hk13 : ∀ (x2 : Int32) (x3 : Int32) (x4 : Int32) (moved : Int32) (turned : Int32) (state : (Nat → Int32)) (lastBy : (Nat → Int32)) (H : Heap) (locs : List Loc) (ls : Array Slot), k13 x2 x3 x4 moved turned state lastBy = some (r0, o_moved', o_turned', o_state', o_lastBy') → xSt A s D [(h0, .inr (5, [.ref h_state, .ref h_readPage, .ref h_tape, .int taped, .int fault, .int broken, .int brokenAt, .int spot, .int here, .int token, .int value, .ref h_ends, .ref h_letters, .int moved, .int turned, .int worst, .ref h_seen, .int seenMany, .ref h_lastBy, .ref h_isKept, .ref h_lanes, .ref h_lengths, .ref h_cells, .int torn])), (h_state, .inl (cI, 240, .inl state)), (h_seen, .inl (cI, 18, .inl seen)), (h_lastBy, .inl (cI, 410, .inl lastBy))] H locs → lv_has ls 8 [(0, .ref h0), (2, .int x2), (3, .int x3), (4, .int x4)] → W p l e ({ frames := 5, cells := 0, slots := 0, locals := 117 } : Room) s m args below meth c H locs 0 0 Q (F0 m 13 ls [])) (k53 : Int32 → Int32 → Int32 → Int32 → Int32 → Int32 → (Nat → Int32) → (Nat → Int32) → Option (Int32 × Int32 × Int32 × (Nat → Int32) × (Nat → Int32))) (hk53 : ∀ (x2 : Int32) (x3 : Int32) (x4 : Int32) (x5 : Int32) (moved : Int32) (turned : Int32) (state : (Nat → Int32)) (lastBy : (Nat → Int32)) (H : Heap) (locs : List Loc) (ls : Array Slot), k53 x2 x3 x4 x5 moved turned state lastBy = some (r0, o_moved', o_turned', o_state', o_lastBy') → xSt A s D [(h0, .inr (5, [.ref h_state, .ref h_readPage, .ref h_tape, .int taped, .int fault, .int broken, .int brokenAt, .int spot, .int here, .int token, .int value, .ref h_ends, .ref h_letters, .int moved, .int turned, .int worst, .ref h_seen, .int seenMany, .ref h_lastBy, .ref h_isKept, .ref h_lanes, .ref h_lengths, .ref h_cells, .int torn])), (h_state, .inl (cI, 240, .inl state)), (h_seen, .inl (cI, 18, .inl seen)), (h_lastBy, .inl (cI, 410, .inl lastBy))] H locs → lv_has ls 8 [(0, .ref h0), (2, .int x2), (3, .int x3), (4, .int x4), (5, .int x5)] → W p l e ({ frames := 5, cells := 0, slots := 0, locals := 117 } : Room) s m args below meth c H locs 0 0 Q (F0 m 53 ls [])), ∀ (x2 : Int32) (x4 : Int32) (x5 : Int32) (moved : Int32) (turned : Int32) (state : (Nat → Int32)) (lastBy : (Nat → Int32)) (H : Heap) (locs : List Loc) (ls : Array Slot), fX5_isAsSeen_L146 seenMany seen k13 k53 x2 x4 x5 moved turned state lastBy = some (r0, o_moved', o_turned', o_state', o_lastBy') → xSt A s D [(h0, .inr (5, [.ref h_state, .ref h_readPage, .ref h_tape, .int taped, .int fault, .int broken, .int brokenAt, .int spot, .int here, .int token, .int value, .ref h_ends, .ref h_letters, .int moved, .int turned, .int worst, .ref h_seen, .int seenMany, .ref h_lastBy, .ref h_isKept, .ref h_lanes, .ref h_lengths, .ref h_cells, .int torn])), (h_state, .inl (cI, 240, .inl state)), (h_seen, .inl (cI, 18, .inl seen)), (h_lastBy, .inl (cI, 410, .inl lastBy))] H locs → lv_has ls 8 [(0, .ref h0), (2, .int x2), (4, .int x4), (5, .int x5)] → W p l e ({ frames := 5, cells := 0, slots := 0, locals := 117 } : Room) s m args below meth c H locs 0 0 Q (F0 m 146 ls []) := by
    intro k13 hk13 k53 hk53 x2 x4 x5 moved turned state lastBy H locs ls hf hX hl
    unfold fX5_isAsSeen_L146 at hf
    refine lv_iconst (pc := 146) (v := 0) hx hb dX5_isAsSeen_146 (by decide) ?_
    exact L147 (k13) hk13 (k53) hk53 x2 x4 x5 (0 : Int32) moved turned state lastBy _ _ _ hf hX (lv_sub hl [0, 1, 2, 3] rfl)
  have L142 : ∀ (k13 : Int32 → Int32 → Int32 → Int32 → Int32 → (Nat → Int32) → (Nat → Int32) → Option (Int32 × Int32 × Int32 × (Nat → Int32) × (Nat → Int32))) (hk13 : ∀ (x2 : Int32) (x3 : Int32) (x4 : Int32) (moved : Int32) (turned : Int32) (state : (Nat → Int32)) (lastBy : (Nat → Int32)) (H : Heap) (locs : List Loc) (ls : Array Slot), k13 x2 x3 x4 moved turned state lastBy = some (r0, o_moved', o_turned', o_state', o_lastBy') → xSt A s D [(h0, .inr (5, [.ref h_state, .ref h_readPage, .ref h_tape, .int taped, .int fault, .int broken, .int brokenAt, .int spot, .int here, .int token, .int value, .ref h_ends, .ref h_letters, .int moved, .int turned, .int worst, .ref h_seen, .int seenMany, .ref h_lastBy, .ref h_isKept, .ref h_lanes, .ref h_lengths, .ref h_cells, .int torn])), (h_state, .inl (cI, 240, .inl state)), (h_seen, .inl (cI, 18, .inl seen)), (h_lastBy, .inl (cI, 410, .inl lastBy))] H locs → lv_has ls 8 [(0, .ref h0), (2, .int x2), (3, .int x3), (4, .int x4)] → W p l e ({ frames := 5, cells := 0, slots := 0, locals := 117 } : Room) s m args below meth c H locs 0 0 Q (F0 m 13 ls [])) (k53 : Int32 → Int32 → Int32 → Int32 → Int32 → Int32 → (Nat → Int32) → (Nat → Int32) → Option (Int32 × Int32 × Int32 × (Nat → Int32) × (Nat → Int32))) (hk53 : ∀ (x2 : Int32) (x3 : Int32) (x4 : Int32) (x5 : Int32) (moved : Int32) (turned : Int32) (state : (Nat → Int32)) (lastBy : (Nat → Int32)) (H : Heap) (locs : List Loc) (ls : Array Slot), k53 x2 x3 x4 x5 moved turned state lastBy = some (r0, o_moved', o_turned', o_state', o_lastBy') → xSt A s D [(h0, .inr (5, [.ref h_state, .ref h_readPage, .ref h_tape, .int taped, .int fault, .int broken, .int brokenAt, .int spot, .int here, .int token, .int value, .ref h_ends, .ref h_letters, .int moved, .int turned, .int worst, .ref h_seen, .int seenMany, .ref h_lastBy, .ref h_isKept, .ref h_lanes, .ref h_lengths, .ref h_cells, .int torn])), (h_state, .inl (cI, 240, .inl state)), (h_seen, .inl (cI, 18, .inl seen)), (h_lastBy, .inl (cI, 410, .inl lastBy))] H locs → lv_has ls 8 [(0, .ref h0), (2, .int x2), (3, .int x3), (4, .int x4), (5, .int x5)] → W p l e ({ frames := 5, cells := 0, slots := 0, locals := 117 } : Room) s m args below meth c H locs 0 0 Q (F0 m 53 ls [])), ∀ (x2 : Int32) (x4 : Int32) (x5 : Int32) (moved : Int32) (turned : Int32) (state : (Nat → Int32)) (lastBy : (Nat → Int32)) (H : Heap) (locs : List Loc) (ls : Array Slot), fX5_isAsSeen_L142 seenMany seen k13 k53 x2 x4 x5 moved turned state lastBy = some (r0, o_moved', o_turned', o_state', o_lastBy') → xSt A s D [(h0, .inr (5, [.ref h_state, .ref h_readPage, .ref h_tape, .int taped, .int fault, .int broken, .int brokenAt, .int spot, .int here, .int token, .int value, .ref h_ends, .ref h_letters, .int moved, .int turned, .int worst, .ref h_seen, .int seenMany, .ref h_lastBy, .ref h_isKept, .ref h_lanes, .ref h_lengths, .ref h_cells, .int torn])), (h_state, .inl (cI, 240, .inl state)), (h_seen, .inl (cI, 18, .inl seen)), (h_lastBy, .inl (cI, 410, .inl lastBy))] H locs → lv_has ls 8 [(0, .ref h0), (2, .int x2), (4, .int x4), (5, .int x5)] → W p l e ({ frames := 5, cells := 0, slots := 0, locals := 117 } : Room) s m args below meth c H locs 0 0 Q (F0 m 142 ls []) := by
    intro k13 hk13 k53 hk53 x2 x4 x5 moved turned state lastBy H locs ls hf hX hl
    unfold fX5_isAsSeen_L142 at hf
    refine lv_iconst (pc := 142) (v := 1) hx hb dX5_isAsSeen_142 (by decide) ?_
    refine lv_goto (pc := 143) (tgt := 147) hx hb dX5_isAsSeen_143 (by decide) ?_
    exact L147 (k13) hk13 (k53) hk53 x2 x4 x5 (1 : Int32) moved turned state lastBy _ _ _ hf hX (lv_sub hl [0, 1, 2, 3] rfl)
  have L117 : ∀ (k13 : Int32 → Int32 → Int32 → Int32 → Int32 → (Nat → Int32) → (Nat → Int32) → Option (Int32 × Int32 × Int32 × (Nat → Int32) × (Nat → Int32))) (hk13 : ∀ (x2 : Int32) (x3 : Int32) (x4 : Int32) (moved : Int32) (turned : Int32) (state : (Nat → Int32)) (lastBy : (Nat → Int32)) (H : Heap) (locs : List Loc) (ls : Array Slot), k13 x2 x3 x4 moved turned state lastBy = some (r0, o_moved', o_turned', o_state', o_lastBy') → xSt A s D [(h0, .inr (5, [.ref h_state, .ref h_readPage, .ref h_tape, .int taped, .int fault, .int broken, .int brokenAt, .int spot, .int here, .int token, .int value, .ref h_ends, .ref h_letters, .int moved, .int turned, .int worst, .ref h_seen, .int seenMany, .ref h_lastBy, .ref h_isKept, .ref h_lanes, .ref h_lengths, .ref h_cells, .int torn])), (h_state, .inl (cI, 240, .inl state)), (h_seen, .inl (cI, 18, .inl seen)), (h_lastBy, .inl (cI, 410, .inl lastBy))] H locs → lv_has ls 8 [(0, .ref h0), (2, .int x2), (3, .int x3), (4, .int x4)] → W p l e ({ frames := 5, cells := 0, slots := 0, locals := 117 } : Room) s m args below meth c H locs 0 0 Q (F0 m 13 ls [])) (k53 : Int32 → Int32 → Int32 → Int32 → Int32 → Int32 → (Nat → Int32) → (Nat → Int32) → Option (Int32 × Int32 × Int32 × (Nat → Int32) × (Nat → Int32))) (hk53 : ∀ (x2 : Int32) (x3 : Int32) (x4 : Int32) (x5 : Int32) (moved : Int32) (turned : Int32) (state : (Nat → Int32)) (lastBy : (Nat → Int32)) (H : Heap) (locs : List Loc) (ls : Array Slot), k53 x2 x3 x4 x5 moved turned state lastBy = some (r0, o_moved', o_turned', o_state', o_lastBy') → xSt A s D [(h0, .inr (5, [.ref h_state, .ref h_readPage, .ref h_tape, .int taped, .int fault, .int broken, .int brokenAt, .int spot, .int here, .int token, .int value, .ref h_ends, .ref h_letters, .int moved, .int turned, .int worst, .ref h_seen, .int seenMany, .ref h_lastBy, .ref h_isKept, .ref h_lanes, .ref h_lengths, .ref h_cells, .int torn])), (h_state, .inl (cI, 240, .inl state)), (h_seen, .inl (cI, 18, .inl seen)), (h_lastBy, .inl (cI, 410, .inl lastBy))] H locs → lv_has ls 8 [(0, .ref h0), (2, .int x2), (3, .int x3), (4, .int x4), (5, .int x5)] → W p l e ({ frames := 5, cells := 0, slots := 0, locals := 117 } : Room) s m args below meth c H locs 0 0 Q (F0 m 53 ls [])), ∀ (x2 : Int32) (x3 : Int32) (x4 : Int32) (x5 : Int32) (y0 : Int32) (moved : Int32) (turned : Int32) (state : (Nat → Int32)) (lastBy : (Nat → Int32)) (H : Heap) (locs : List Loc) (ls : Array Slot), fX5_isAsSeen_L117 seenMany seen k13 k53 x2 x3 x4 x5 y0 moved turned state lastBy = some (r0, o_moved', o_turned', o_state', o_lastBy') → xSt A s D [(h0, .inr (5, [.ref h_state, .ref h_readPage, .ref h_tape, .int taped, .int fault, .int broken, .int brokenAt, .int spot, .int here, .int token, .int value, .ref h_ends, .ref h_letters, .int moved, .int turned, .int worst, .ref h_seen, .int seenMany, .ref h_lastBy, .ref h_isKept, .ref h_lanes, .ref h_lengths, .ref h_cells, .int torn])), (h_state, .inl (cI, 240, .inl state)), (h_seen, .inl (cI, 18, .inl seen)), (h_lastBy, .inl (cI, 410, .inl lastBy))] H locs → lv_has ls 8 [(0, .ref h0), (2, .int x2), (3, .int x3), (4, .int x4), (5, .int x5)] → W p l e ({ frames := 5, cells := 0, slots := 0, locals := 117 } : Room) s m args below meth c H locs 0 0 Q (F0 m 117 ls [.int y0]) := by
    intro k13 hk13 k53 hk53 x2 x3 x4 x5 y0 moved turned state lastBy H locs ls hf hX hl
    unfold fX5_isAsSeen_L117 at hf
    refine lv_istore (pc := 117) (lv' := [(7, .int y0), (0, .ref h0), (2, .int x2), (3, .int x3), (4, .int x4), (5, .int x5)]) hx hb dX5_isAsSeen_117 hl (by decide) rfl (fun ls hl => ?_)
    refine lv_iload_n (pc := 119) hx hb dX5_isAsSeen_119 rfl (lv_at hl 3 rfl) ?_
    refine lv_if_eq (pc := 120) (tgt := 146) hx hb dX5_isAsSeen_120 (by decide) (fun c20 => ?_) (fun c20 => ?_)
    · replace hf := ite_t c20 hf
      exact L146 (k13) hk13 (k53) hk53 x2 x4 x5 moved turned state lastBy _ _ _ hf hX (lv_sub hl [1, 2, 4, 5] rfl)
    · replace hf := ite_f c20 hf
      refine lv_aload_n (pc := 123) hx hb dX5_isAsSeen_123 rfl (lv_at hl 1 rfl) ?_
      refine x_getf (pc := 124) (Cn := RX5) (T := TX5) (N := 24) C hX 0 rfl rfl miX5_isAsSeen_X5 16 (by decide) mmX5_isAsSeen_4 rfl dX5_isAsSeen_124 ?_
      refine lv_iconst (pc := 127) (v := 3) hx hb dX5_isAsSeen_127 (by decide) ?_
      refine lv_iload (pc := 128) hx hb dX5_isAsSeen_128 (lv_at hl 5 rfl) ?_
      refine lv_imul (pc := 130) hx hb dX5_isAsSeen_130 ?_
      replace hf := chk_adv hf
      have i22 := hf.1
      replace hf := hf.2
      refine x_iald (pc := 131) C hX 2 0 rfl rfl i22 dX5_isAsSeen_131 ?_
      refine lv_iload (pc := 132) hx hb dX5_isAsSeen_132 (lv_at hl 4 rfl) ?_
      refine lv_icmp_ne (pc := 134) (tgt := 142) hx hb dX5_isAsSeen_134 (by decide) (fun c23 => ?_) (fun c23 => ?_)
      · replace hf := ite_f c23 hf
        exact L142 (k13) hk13 (k53) hk53 x2 x4 x5 moved turned state lastBy _ _ _ hf hX (lv_sub hl [1, 2, 4, 5] rfl)
      · replace hf := ite_t c23 hf
        refine lv_iload (pc := 137) hx hb dX5_isAsSeen_137 (lv_at hl 0 rfl) ?_
        refine lv_if_eq (pc := 139) (tgt := 146) hx hb dX5_isAsSeen_139 (by decide) (fun c24 => ?_) (fun c24 => ?_)
        · replace hf := ite_t c24 hf
          exact L146 (k13) hk13 (k53) hk53 x2 x4 x5 moved turned state lastBy _ _ _ hf hX (lv_sub hl [1, 2, 4, 5] rfl)
        · replace hf := ite_f c24 hf
          exact L142 (k13) hk13 (k53) hk53 x2 x4 x5 moved turned state lastBy _ _ _ hf hX (lv_sub hl [1, 2, 4, 5] rfl)
  have L116 : ∀ (k13 : Int32 → Int32 → Int32 → Int32 → Int32 → (Nat → Int32) → (Nat → Int32) → Option (Int32 × Int32 × Int32 × (Nat → Int32) × (Nat → Int32))) (hk13 : ∀ (x2 : Int32) (x3 : Int32) (x4 : Int32) (moved : Int32) (turned : Int32) (state : (Nat → Int32)) (lastBy : (Nat → Int32)) (H : Heap) (locs : List Loc) (ls : Array Slot), k13 x2 x3 x4 moved turned state lastBy = some (r0, o_moved', o_turned', o_state', o_lastBy') → xSt A s D [(h0, .inr (5, [.ref h_state, .ref h_readPage, .ref h_tape, .int taped, .int fault, .int broken, .int brokenAt, .int spot, .int here, .int token, .int value, .ref h_ends, .ref h_letters, .int moved, .int turned, .int worst, .ref h_seen, .int seenMany, .ref h_lastBy, .ref h_isKept, .ref h_lanes, .ref h_lengths, .ref h_cells, .int torn])), (h_state, .inl (cI, 240, .inl state)), (h_seen, .inl (cI, 18, .inl seen)), (h_lastBy, .inl (cI, 410, .inl lastBy))] H locs → lv_has ls 8 [(0, .ref h0), (2, .int x2), (3, .int x3), (4, .int x4)] → W p l e ({ frames := 5, cells := 0, slots := 0, locals := 117 } : Room) s m args below meth c H locs 0 0 Q (F0 m 13 ls [])) (k53 : Int32 → Int32 → Int32 → Int32 → Int32 → Int32 → (Nat → Int32) → (Nat → Int32) → Option (Int32 × Int32 × Int32 × (Nat → Int32) × (Nat → Int32))) (hk53 : ∀ (x2 : Int32) (x3 : Int32) (x4 : Int32) (x5 : Int32) (moved : Int32) (turned : Int32) (state : (Nat → Int32)) (lastBy : (Nat → Int32)) (H : Heap) (locs : List Loc) (ls : Array Slot), k53 x2 x3 x4 x5 moved turned state lastBy = some (r0, o_moved', o_turned', o_state', o_lastBy') → xSt A s D [(h0, .inr (5, [.ref h_state, .ref h_readPage, .ref h_tape, .int taped, .int fault, .int broken, .int brokenAt, .int spot, .int here, .int token, .int value, .ref h_ends, .ref h_letters, .int moved, .int turned, .int worst, .ref h_seen, .int seenMany, .ref h_lastBy, .ref h_isKept, .ref h_lanes, .ref h_lengths, .ref h_cells, .int torn])), (h_state, .inl (cI, 240, .inl state)), (h_seen, .inl (cI, 18, .inl seen)), (h_lastBy, .inl (cI, 410, .inl lastBy))] H locs → lv_has ls 8 [(0, .ref h0), (2, .int x2), (3, .int x3), (4, .int x4), (5, .int x5)] → W p l e ({ frames := 5, cells := 0, slots := 0, locals := 117 } : Room) s m args below meth c H locs 0 0 Q (F0 m 53 ls [])), ∀ (x2 : Int32) (x3 : Int32) (x4 : Int32) (x5 : Int32) (moved : Int32) (turned : Int32) (state : (Nat → Int32)) (lastBy : (Nat → Int32)) (H : Heap) (locs : List Loc) (ls : Array Slot), fX5_isAsSeen_L116 seenMany seen k13 k53 x2 x3 x4 x5 moved turned state lastBy = some (r0, o_moved', o_turned', o_state', o_lastBy') → xSt A s D [(h0, .inr (5, [.ref h_state, .ref h_readPage, .ref h_tape, .int taped, .int fault, .int broken, .int brokenAt, .int spot, .int here, .int token, .int value, .ref h_ends, .ref h_letters, .int moved, .int turned, .int worst, .ref h_seen, .int seenMany, .ref h_lastBy, .ref h_isKept, .ref h_lanes, .ref h_lengths, .ref h_cells, .int torn])), (h_state, .inl (cI, 240, .inl state)), (h_seen, .inl (cI, 18, .inl seen)), (h_lastBy, .inl (cI, 410, .inl lastBy))] H locs → lv_has ls 8 [(0, .ref h0), (2, .int x2), (3, .int x3), (4, .int x4), (5, .int x5)] → W p l e ({ frames := 5, cells := 0, slots := 0, locals := 117 } : Room) s m args below meth c H locs 0 0 Q (F0 m 116 ls []) := by
    intro k13 hk13 k53 hk53 x2 x3 x4 x5 moved turned state lastBy H locs ls hf hX hl
    unfold fX5_isAsSeen_L116 at hf
    refine lv_iconst (pc := 116) (v := 0) hx hb dX5_isAsSeen_116 (by decide) ?_
    exact L117 (k13) hk13 (k53) hk53 x2 x3 x4 x5 (0 : Int32) moved turned state lastBy _ _ _ hf hX (lv_sub hl [0, 1, 2, 3, 4] rfl)
  have L53 : ∀ (k13 : Int32 → Int32 → Int32 → Int32 → Int32 → (Nat → Int32) → (Nat → Int32) → Option (Int32 × Int32 × Int32 × (Nat → Int32) × (Nat → Int32))) (hk13 : ∀ (x2 : Int32) (x3 : Int32) (x4 : Int32) (moved : Int32) (turned : Int32) (state : (Nat → Int32)) (lastBy : (Nat → Int32)) (H : Heap) (locs : List Loc) (ls : Array Slot), k13 x2 x3 x4 moved turned state lastBy = some (r0, o_moved', o_turned', o_state', o_lastBy') → xSt A s D [(h0, .inr (5, [.ref h_state, .ref h_readPage, .ref h_tape, .int taped, .int fault, .int broken, .int brokenAt, .int spot, .int here, .int token, .int value, .ref h_ends, .ref h_letters, .int moved, .int turned, .int worst, .ref h_seen, .int seenMany, .ref h_lastBy, .ref h_isKept, .ref h_lanes, .ref h_lengths, .ref h_cells, .int torn])), (h_state, .inl (cI, 240, .inl state)), (h_seen, .inl (cI, 18, .inl seen)), (h_lastBy, .inl (cI, 410, .inl lastBy))] H locs → lv_has ls 8 [(0, .ref h0), (2, .int x2), (3, .int x3), (4, .int x4)] → W p l e ({ frames := 5, cells := 0, slots := 0, locals := 117 } : Room) s m args below meth c H locs 0 0 Q (F0 m 13 ls [])) (n : Nat), ∀ (x2 : Int32) (x3 : Int32) (x4 : Int32) (x5 : Int32) (moved : Int32) (turned : Int32) (state : (Nat → Int32)) (lastBy : (Nat → Int32)) (H : Heap) (locs : List Loc) (ls : Array Slot), fX5_isAsSeen_L53 seenMany seen k13 n x2 x3 x4 x5 moved turned state lastBy = some (r0, o_moved', o_turned', o_state', o_lastBy') → xSt A s D [(h0, .inr (5, [.ref h_state, .ref h_readPage, .ref h_tape, .int taped, .int fault, .int broken, .int brokenAt, .int spot, .int here, .int token, .int value, .ref h_ends, .ref h_letters, .int moved, .int turned, .int worst, .ref h_seen, .int seenMany, .ref h_lastBy, .ref h_isKept, .ref h_lanes, .ref h_lengths, .ref h_cells, .int torn])), (h_state, .inl (cI, 240, .inl state)), (h_seen, .inl (cI, 18, .inl seen)), (h_lastBy, .inl (cI, 410, .inl lastBy))] H locs → lv_has ls 8 [(0, .ref h0), (2, .int x2), (3, .int x3), (4, .int x4), (5, .int x5)] → W p l e ({ frames := 5, cells := 0, slots := 0, locals := 117 } : Room) s m args below meth c H locs 0 0 Q (F0 m 53 ls []) := by
    intro k13 hk13
    intro n
    induction n with
    | zero =>
      intro x2 x3 x4 x5 moved turned state lastBy H locs ls hf
      rw [fX5_isAsSeen_L53] at hf
      cases hf
    | succ n ih =>
      intro x2 x3 x4 x5 moved turned state lastBy H locs ls hf hX hl
      rw [fX5_isAsSeen_L53] at hf
      refine lv_iload (pc := 53) hx hb dX5_isAsSeen_53 (lv_at hl 4 rfl) ?_
      refine lv_aload_n (pc := 55) hx hb dX5_isAsSeen_55 rfl (lv_at hl 0 rfl) ?_
      refine x_getf (pc := 56) (Cn := RX5) (T := TX5) (N := 24) C hX 0 rfl rfl miX5_isAsSeen_X5 17 (by decide) mmX5_isAsSeen_3 rfl dX5_isAsSeen_56 ?_
      refine lv_icmp_ge (pc := 59) (tgt := 154) hx hb dX5_isAsSeen_59 (by decide) (fun c10 => ?_) (fun c10 => ?_)
      · replace hf := ite_t c10 hf
        refine lv_aload_n (pc := 154) hx hb dX5_isAsSeen_154 rfl (lv_at hl 0 rfl) ?_
        refine lv_sipush (pc := 155) (v := 160) hx hb dX5_isAsSeen_155 (by decide) ?_
        refine lv_iconst (pc := 158) (v := 0) hx hb dX5_isAsSeen_158 (by decide) ?_
        obtain ⟨u11, u12, u13, g14, hf⟩ := cl3_adv hf
        refine x_callVv (pc := 159) (rest := []) (w2 := [(h0, .inr (5, [.ref h_state, .ref h_readPage, .ref h_tape, .int taped, .int fault, .int broken, .int brokenAt, .int spot, .int here, .int token, .int value, .ref h_ends, .ref h_letters, .int u11, .int u12, .int worst, .ref h_seen, .int seenMany, .ref h_lastBy, .ref h_isKept, .ref h_lanes, .ref h_lengths, .ref h_cells, .int torn])), (h_state, .inl (cI, 240, .inl u13)), (h_seen, .inl (cI, 18, .inl seen)), (h_lastBy, .inl (cI, 410, .inl lastBy))]) C hX (kX5_stepOn ad l D cI cB cZ cG cS h0 h_state h_readPage h_tape h_ends h_letters h_seen h_lastBy h_isKept h_lanes h_lengths h_cells taped fault broken brokenAt spot here token value moved turned worst seenMany torn state u11 u12 u13 (160 : Int32) (0 : Int32) g14) (cwV 2 C.1.2.2.2.2 gX5_isAsSeen_X5_stepOn rfl rfl rfl (by decide +kernel) ⟨Nat.le_of_ble_eq_true rfl, Nat.le_of_ble_eq_true rfl⟩) [0, 1] [2, 3] [2, 3, 0, 1] rfl rfl rfl rfl (by decide) rfl rfl 0 rfl rfl rfl hl.1 rfl rfl (Nat.le_of_ble_eq_true rfl) dX5_isAsSeen_159 (fun H locs hX => ?_)
        obtain ⟨v15, ev15⟩ : ∃ y : Int32, y = (x4 + (1 : Int32)) := ⟨_, rfl⟩
        replace hf := bnd_use ev15 hf
        refine lv_iinc (pc := 162) (v := v15) (lv' := [(4, .int v15), (0, .ref h0), (2, .int x2), (3, .int x3), (5, .int x5)]) hx hb dX5_isAsSeen_162 hl (k := 3) rfl (by rw [ev15]; rfl) (by decide) rfl (fun ls hl => ?_)
        refine lv_goto (pc := 165) (tgt := 13) hx hb dX5_isAsSeen_165 (by decide) ?_
        exact hk13 x2 x3 v15 u11 u12 u13 lastBy _ _ _ hf hX (lv_sub hl [1, 2, 3, 0] rfl)
      · replace hf := ite_f c10 hf
        refine lv_aload_n (pc := 62) hx hb dX5_isAsSeen_62 rfl (lv_at hl 0 rfl) ?_
        refine x_getf (pc := 63) (Cn := RX5) (T := TX5) (N := 24) C hX 0 rfl rfl miX5_isAsSeen_X5 16 (by decide) mmX5_isAsSeen_4 rfl dX5_isAsSeen_63 ?_
        refine lv_iconst (pc := 66) (v := 3) hx hb dX5_isAsSeen_66 (by decide) ?_
        refine lv_iload (pc := 67) hx hb dX5_isAsSeen_67 (lv_at hl 4 rfl) ?_
        refine lv_imul (pc := 69) hx hb dX5_isAsSeen_69 ?_
        refine lv_iconst (pc := 70) (v := 1) hx hb dX5_isAsSeen_70 (by decide) ?_
        refine lv_iadd (pc := 71) hx hb dX5_isAsSeen_71 ?_
        replace hf := chk_adv hf
        have i16 := hf.1
        replace hf := hf.2
        refine x_iald (pc := 72) C hX 2 0 rfl rfl i16 dX5_isAsSeen_72 ?_
        refine lv_topi (fun v17 ev17 => ?_)
        replace hf := bnd_use ev17 hf
        refine lv_istore (pc := 73) (lv' := [(6, .int v17), (0, .ref h0), (2, .int x2), (3, .int x3), (4, .int x4), (5, .int x5)]) hx hb dX5_isAsSeen_73 hl (by decide) rfl (fun ls hl => ?_)
        refine lv_iload (pc := 75) hx hb dX5_isAsSeen_75 (lv_at hl 0 rfl) ?_
        refine lv_aload_n (pc := 77) hx hb dX5_isAsSeen_77 rfl (lv_at hl 1 rfl) ?_
        refine x_getf (pc := 78) (Cn := RX5) (T := TX5) (N := 24) C hX 0 rfl rfl miX5_isAsSeen_X5 0 (by decide) mmX5_isAsSeen_2 rfl dX5_isAsSeen_78 ?_
        refine lv_bipush (pc := 81) (v := 20) hx hb dX5_isAsSeen_81 (by decide) ?_
        replace hf := chk_adv hf
        have i18 := hf.1
        replace hf := hf.2
        refine x_iald (pc := 83) C hX 1 0 rfl rfl i18 dX5_isAsSeen_83 ?_
        refine lv_icmp_ge (pc := 84) (tgt := 116) hx hb dX5_isAsSeen_84 (by decide) (fun c19 => ?_) (fun c19 => ?_)
        · replace hf := ite_t c19 hf
          exact L116 (k13) hk13 (fX5_isAsSeen_L53 seenMany seen k13 n) ih x2 x3 x4 x5 moved turned state lastBy _ _ _ hf hX (lv_sub hl [1, 2, 3, 4, 5] rfl)
        · replace hf := ite_f c19 hf
          refine lv_aload_n (pc := 87) hx hb dX5_isAsSeen_87 rfl (lv_at hl 1 rfl) ?_
          refine x_getf (pc := 88) (Cn := RX5) (T := TX5) (N := 24) C hX 0 rfl rfl miX5_isAsSeen_X5 0 (by decide) mmX5_isAsSeen_2 rfl dX5_isAsSeen_88 ?_
          refine lv_sipush (pc := 91) (v := 168) hx hb dX5_isAsSeen_91 (by decide) ?_
          refine lv_iload (pc := 94) hx hb dX5_isAsSeen_94 (lv_at hl 0 rfl) ?_
          refine lv_iadd (pc := 96) hx hb dX5_isAsSeen_96 ?_
          replace hf := chk_adv hf
          have i25 := hf.1
          replace hf := hf.2
          refine x_iald (pc := 97) C hX 1 0 rfl rfl i25 dX5_isAsSeen_97 ?_
          refine lv_aload_n (pc := 98) hx hb dX5_isAsSeen_98 rfl (lv_at hl 1 rfl) ?_
          refine x_getf (pc := 99) (Cn := RX5) (T := TX5) (N := 24) C hX 0 rfl rfl miX5_isAsSeen_X5 16 (by decide) mmX5_isAsSeen_4 rfl dX5_isAsSeen_99 ?_
          refine lv_iconst (pc := 102) (v := 3) hx hb dX5_isAsSeen_102 (by decide) ?_
          refine lv_iload (pc := 103) hx hb dX5_isAsSeen_103 (lv_at hl 5 rfl) ?_
          refine lv_imul (pc := 105) hx hb dX5_isAsSeen_105 ?_
          refine lv_iconst (pc := 106) (v := 2) hx hb dX5_isAsSeen_106 (by decide) ?_
          refine lv_iadd (pc := 107) hx hb dX5_isAsSeen_107 ?_
          replace hf := chk_adv hf
          have i26 := hf.1
          replace hf := hf.2
          refine x_iald (pc := 108) C hX 2 0 rfl rfl i26 dX5_isAsSeen_108 ?_
          refine lv_icmp_ne (pc := 109) (tgt := 116) hx hb dX5_isAsSeen_109 (by decide) (fun c27 => ?_) (fun c27 => ?_)
          · replace hf := ite_f c27 hf
            exact L116 (k13) hk13 (fX5_isAsSeen_L53 seenMany seen k13 n) ih x2 x3 x4 x5 moved turned state lastBy _ _ _ hf hX (lv_sub hl [1, 2, 3, 4, 5] rfl)
          · replace hf := ite_t c27 hf
            refine lv_iconst (pc := 112) (v := 1) hx hb dX5_isAsSeen_112 (by decide) ?_
            refine lv_goto (pc := 113) (tgt := 117) hx hb dX5_isAsSeen_113 (by decide) ?_
            exact L117 (k13) hk13 (fX5_isAsSeen_L53 seenMany seen k13 n) ih x2 x3 x4 x5 (1 : Int32) moved turned state lastBy _ _ _ hf hX (lv_sub hl [1, 2, 3, 4, 5] rfl)
  have L13 : ∀ (n : Nat), ∀ (x2 : Int32) (x3 : Int32) (x4 : Int32) (moved : Int32) (turned : Int32) (state : (Nat → Int32)) (lastBy : (Nat → Int32)) (H : Heap) (locs : List Loc) (ls : Array Slot), fX5_isAsSeen_L13 seenMany seen n x2 x3 x4 moved turned state lastBy = some (r0, o_moved', o_turned', o_state', o_lastBy') → xSt A s D [(h0, .inr (5, [.ref h_state, .ref h_readPage, .ref h_tape, .int taped, .int fault, .int broken, .int brokenAt, .int spot, .int here, .int token, .int value, .ref h_ends, .ref h_letters, .int moved, .int turned, .int worst, .ref h_seen, .int seenMany, .ref h_lastBy, .ref h_isKept, .ref h_lanes, .ref h_lengths, .ref h_cells, .int torn])), (h_state, .inl (cI, 240, .inl state)), (h_seen, .inl (cI, 18, .inl seen)), (h_lastBy, .inl (cI, 410, .inl lastBy))] H locs → lv_has ls 8 [(0, .ref h0), (2, .int x2), (3, .int x3), (4, .int x4)] → W p l e ({ frames := 5, cells := 0, slots := 0, locals := 117 } : Room) s m args below meth c H locs 0 0 Q (F0 m 13 ls []) := by
    intro n
    induction n with
    | zero =>
      intro x2 x3 x4 moved turned state lastBy H locs ls hf
      rw [fX5_isAsSeen_L13] at hf
      cases hf
    | succ n ih =>
      intro x2 x3 x4 moved turned state lastBy H locs ls hf hX hl
      rw [fX5_isAsSeen_L13] at hf
      refine lv_iload (pc := 13) hx hb dX5_isAsSeen_13 (lv_at hl 3 rfl) ?_
      refine lv_bipush (pc := 15) (v := 40) hx hb dX5_isAsSeen_15 (by decide) ?_
      refine lv_icmp_gt (pc := 17) (tgt := 168) hx hb dX5_isAsSeen_17 (by decide) (fun c3 => ?_) (fun c3 => ?_)
      · replace hf := ite_t c3 hf
        refine lv_iload_n (pc := 168) hx hb dX5_isAsSeen_168 rfl (lv_at hl 2 rfl) ?_
        replace hf := chk_adv hf
        have i4 := hf.1
        replace hf := hf.2
        obtain ⟨rfl, rfl, rfl, rfl, rfl⟩ := re5 hf
        exact hret _ _ _ _ _ rfl (xbz_nar i4) hX dX5_isAsSeen_169
      · replace hf := ite_f c3 hf
        refine lv_aload_n (pc := 20) hx hb dX5_isAsSeen_20 rfl (lv_at hl 0 rfl) ?_
        refine x_getf (pc := 21) (Cn := RX5) (T := TX5) (N := 24) C hX 0 rfl rfl miX5_isAsSeen_X5 18 (by decide) mmX5_isAsSeen_1 rfl dX5_isAsSeen_21 ?_
        refine lv_bipush (pc := 24) (v := 41) hx hb dX5_isAsSeen_24 (by decide) ?_
        refine lv_iload_n (pc := 26) hx hb dX5_isAsSeen_26 rfl (lv_at hl 1 rfl) ?_
        refine lv_imul (pc := 27) hx hb dX5_isAsSeen_27 ?_
        refine lv_iload (pc := 28) hx hb dX5_isAsSeen_28 (lv_at hl 3 rfl) ?_
        refine lv_iadd (pc := 30) hx hb dX5_isAsSeen_30 ?_
        refine lv_aload_n (pc := 31) hx hb dX5_isAsSeen_31 rfl (lv_at hl 0 rfl) ?_
        refine x_getf (pc := 32) (Cn := RX5) (T := TX5) (N := 24) C hX 0 rfl rfl miX5_isAsSeen_X5 0 (by decide) mmX5_isAsSeen_2 rfl dX5_isAsSeen_32 ?_
        refine lv_sipush (pc := 35) (v := 168) hx hb dX5_isAsSeen_35 (by decide) ?_
        refine lv_aload_n (pc := 38) hx hb dX5_isAsSeen_38 rfl (lv_at hl 0 rfl) ?_
        refine x_getf (pc := 39) (Cn := RX5) (T := TX5) (N := 24) C hX 0 rfl rfl miX5_isAsSeen_X5 0 (by decide) mmX5_isAsSeen_2 rfl dX5_isAsSeen_39 ?_
        refine lv_bipush (pc := 42) (v := 20) hx hb dX5_isAsSeen_42 (by decide) ?_
        replace hf := chk_adv hf
        have i5 := hf.1
        replace hf := hf.2
        refine x_iald (pc := 44) C hX 1 0 rfl rfl i5 dX5_isAsSeen_44 ?_
        refine lv_iadd (pc := 45) hx hb dX5_isAsSeen_45 ?_
        refine lv_iconst (pc := 46) (v := 1) hx hb dX5_isAsSeen_46 (by decide) ?_
        refine lv_isub (pc := 47) hx hb dX5_isAsSeen_47 ?_
        replace hf := chk_adv hf
        have i6 := hf.1
        replace hf := hf.2
        refine x_iald (pc := 48) C hX 1 0 rfl rfl i6 dX5_isAsSeen_48 ?_
        refine lv_topi (fun v7 ev7 => ?_)
        replace hf := bnd_use ev7 hf
        replace hf := chk_adv hf
        have i8 := hf.1
        replace hf := hf.2
        obtain ⟨f9, ef9⟩ : ∃ y : Nat → Int32, y = (upd lastBy ((((41 : Int32) * x2) + x4)).toNatClampNeg v7) := ⟨_, rfl⟩
        replace hf := bnd_use ef9 hf
        refine x_iast (pc := 49) C hX 3 0 rfl rfl i8 [(h0, .inr (5, [.ref h_state, .ref h_readPage, .ref h_tape, .int taped, .int fault, .int broken, .int brokenAt, .int spot, .int here, .int token, .int value, .ref h_ends, .ref h_letters, .int moved, .int turned, .int worst, .ref h_seen, .int seenMany, .ref h_lastBy, .ref h_isKept, .ref h_lanes, .ref h_lengths, .ref h_cells, .int torn])), (h_state, .inl (cI, 240, .inl state)), (h_seen, .inl (cI, 18, .inl seen)), (h_lastBy, .inl (cI, 410, .inl f9))] (by subst ef9; rfl) dX5_isAsSeen_49 (fun H locs hX => ?_)
        refine lv_iconst (pc := 50) (v := 0) hx hb dX5_isAsSeen_50 (by decide) ?_
        refine lv_istore (pc := 51) (lv' := [(5, .int (0 : Int32)), (0, .ref h0), (2, .int x2), (3, .int x3), (4, .int x4)]) hx hb dX5_isAsSeen_51 hl (by decide) rfl (fun ls hl => ?_)
        exact L53 (fX5_isAsSeen_L13 seenMany seen n) ih xF x2 x3 x4 (0 : Int32) moved turned state f9 _ _ _ hf hX (lv_sub hl [1, 2, 3, 4, 0] rfl)
  unfold fX5_isAsSeen at hf
  refine lv_aload_n (pc := 0) hx hb dX5_isAsSeen_0 rfl (lv_at hl 0 rfl) ?_
  refine lv_iload_n (pc := 1) hx hb dX5_isAsSeen_1 rfl (lv_at hl 1 rfl) ?_
  refine lv_sipush (pc := 2) (v := 160) hx hb dX5_isAsSeen_2 (by decide) ?_
  obtain ⟨u1, g2, hf⟩ := cl1_adv hf
  refine x_callVv (pc := 5) (rest := []) (w2 := [(h0, .inr (5, [.ref h_state, .ref h_readPage, .ref h_tape, .int taped, .int fault, .int broken, .int brokenAt, .int spot, .int here, .int token, .int value, .ref h_ends, .ref h_letters, .int moved, .int turned, .int worst, .ref h_seen, .int seenMany, .ref h_lastBy, .ref h_isKept, .ref h_lanes, .ref h_lengths, .ref h_cells, .int torn])), (h_state, .inl (cI, 240, .inl u1)), (h_seen, .inl (cI, 18, .inl seen)), (h_lastBy, .inl (cI, 410, .inl lastBy))]) C hX (kX5_copies ad l D cI cB cZ cG cS h0 h_state h_readPage h_tape h_ends h_letters h_seen h_lastBy h_isKept h_lanes h_lengths h_cells taped fault broken brokenAt spot here token value moved turned worst seenMany torn state u1 p1 (160 : Int32) g2) (cwV 2 C.1.2.2.2.2 gX5_isAsSeen_X5_copies rfl rfl rfl (by decide +kernel) ⟨Nat.le_of_ble_eq_true rfl, Nat.le_of_ble_eq_true rfl⟩) [0, 1] [2, 3] [2, 3, 0, 1] rfl rfl rfl rfl (by decide) rfl rfl 0 rfl rfl rfl hl.1 rfl rfl (Nat.le_of_ble_eq_true rfl) dX5_isAsSeen_5 (fun H locs hX => ?_)
  refine lv_iconst (pc := 8) (v := 1) hx hb dX5_isAsSeen_8 (by decide) ?_
  refine lv_istore_n (pc := 9) (lv' := [(3, .int (1 : Int32)), (0, .ref h0), (1, .int p1), (2, .int p2)]) hx hb dX5_isAsSeen_9 rfl hl (by decide) rfl (fun ls hl => ?_)
  refine lv_iconst (pc := 10) (v := 0) hx hb dX5_isAsSeen_10 (by decide) ?_
  refine lv_istore (pc := 11) (lv' := [(4, .int (0 : Int32)), (3, .int (1 : Int32)), (0, .ref h0), (1, .int p1), (2, .int p2)]) hx hb dX5_isAsSeen_11 hl (by decide) rfl (fun ls hl => ?_)
  exact L13  xF p2 (1 : Int32) (0 : Int32) moved turned u1 lastBy _ _ _ hf hX (lv_sub hl [2, 4, 1, 0] rfl)
theorem mmX5_numbersAt_1 : Cond.fieldLink RX5 7 "SlackArmsModel" "state" "[I" ∈ wsX5_numbersAt := List.mem_of_getElem? (i := 1) rfl
theorem miX5_numbersAt_X5 : ∀ w ∈ u_ws RX5 TX5 24, w ∈ wsX5_numbersAt := fun w h => List.mem_cons_of_mem _ (List.mem_append_right _ h)
set_option maxHeartbeats 4000000 in
set_option maxRecDepth 100000 in
theorem kX5_numbersAt (ad : xAd) (l : Launch) (D : va_G) (cI cB cZ cG cS : ClassId) (h0 h_state h_readPage h_tape h_ends h_letters h_seen h_lastBy h_isKept h_lanes h_lengths h_cells : Nat) (taped : Int32) (fault : Int32) (broken : Int32) (brokenAt : Int32) (spot : Int32) (here : Int32) (token : Int32) (value : Int32) (moved : Int32) (turned : Int32) (worst : Int32) (seenMany : Int32) (torn : Int32) (state : (Nat → Int32)) (seen : (Nat → Int32)) (lastBy : (Nat → Int32)) (r0 : Int32) (o_moved' : Int32) (o_turned' : Int32) (o_state' : (Nat → Int32)) (o_lastBy' : (Nat → Int32)) (p1 : Int32) (p2 : Int32) (hf : fX5_numbersAt p1 p2 moved turned seenMany state seen lastBy = some (r0, o_moved', o_turned', o_state', o_lastBy')) : xMi ad l yX5_numbersAt wsX5_numbersAt ({ frames := 6, cells := 0, slots := 0, locals := 144 } : Room) D (xTY cI cB cZ cG cS) [.ref h0, .int p1, .int p2] [(h0, .inr (5, [.ref h_state, .ref h_readPage, .ref h_tape, .int taped, .int fault, .int broken, .int brokenAt, .int spot, .int here, .int token, .int value, .ref h_ends, .ref h_letters, .int moved, .int turned, .int worst, .ref h_seen, .int seenMany, .ref h_lastBy, .ref h_isKept, .ref h_lanes, .ref h_lengths, .ref h_cells, .int torn])), (h_state, .inl (cI, 240, .inl state)), (h_seen, .inl (cI, 18, .inl seen)), (h_lastBy, .inl (cI, 410, .inl lastBy))] [(h0, .inr (5, [.ref h_state, .ref h_readPage, .ref h_tape, .int taped, .int fault, .int broken, .int brokenAt, .int spot, .int here, .int token, .int value, .ref h_ends, .ref h_letters, .int o_moved', .int o_turned', .int worst, .ref h_seen, .int seenMany, .ref h_lastBy, .ref h_isKept, .ref h_lanes, .ref h_lengths, .ref h_cells, .int torn])), (h_state, .inl (cI, 240, .inl o_state')), (h_seen, .inl (cI, 18, .inl seen)), (h_lastBy, .inl (cI, 410, .inl o_lastBy'))] r0 := by
  refine xMi_of (cc := cX5_numbersAt) (maxL := 5) (ty := .int) (by decide) rfl (Nat.le_of_ble_eq_true rfl) ?_
  intro p e s m args below meth c A Q ls C hX hl hret
  have hx := C.1.1
  have hb := C.1.2.1
  have hl : lv_has ls 5 [(0, .ref h0), (1, .int p1), (2, .int p2)] := hl
  have L52 : ∀ (k13 : Int32 → Int32 → Int32 → Int32 → Int32 → Int32 → (Nat → Int32) → (Nat → Int32) → Option (Int32 × Int32 × Int32 × (Nat → Int32) × (Nat → Int32))) (hk13 : ∀ (x1 : Int32) (x2 : Int32) (x3 : Int32) (x4 : Int32) (moved : Int32) (turned : Int32) (state : (Nat → Int32)) (lastBy : (Nat → Int32)) (H : Heap) (locs : List Loc) (ls : Array Slot), k13 x1 x2 x3 x4 moved turned state lastBy = some (r0, o_moved', o_turned', o_state', o_lastBy') → xSt A s D [(h0, .inr (5, [.ref h_state, .ref h_readPage, .ref h_tape, .int taped, .int fault, .int broken, .int brokenAt, .int spot, .int here, .int token, .int value, .ref h_ends, .ref h_letters, .int moved, .int turned, .int worst, .ref h_seen, .int seenMany, .ref h_lastBy, .ref h_isKept, .ref h_lanes, .ref h_lengths, .ref h_cells, .int torn])), (h_state, .inl (cI, 240, .inl state)), (h_seen, .inl (cI, 18, .inl seen)), (h_lastBy, .inl (cI, 410, .inl lastBy))] H locs → lv_has ls 5 [(0, .ref h0), (1, .int x1), (2, .int x2), (3, .int x3), (4, .int x4)] → W p l e ({ frames := 6, cells := 0, slots := 0, locals := 144 } : Room) s m args below meth c H locs 0 0 Q (F0 m 13 ls [])), ∀ (x1 : Int32) (x2 : Int32) (x4 : Int32) (y0 : Int32) (y1 : Int32) (moved : Int32) (turned : Int32) (state : (Nat → Int32)) (lastBy : (Nat → Int32)) (H : Heap) (locs : List Loc) (ls : Array Slot), fX5_numbersAt_L52 seenMany seen k13 x1 x2 x4 y0 y1 moved turned state lastBy = some (r0, o_moved', o_turned', o_state', o_lastBy') → xSt A s D [(h0, .inr (5, [.ref h_state, .ref h_readPage, .ref h_tape, .int taped, .int fault, .int broken, .int brokenAt, .int spot, .int here, .int token, .int value, .ref h_ends, .ref h_letters, .int moved, .int turned, .int worst, .ref h_seen, .int seenMany, .ref h_lastBy, .ref h_isKept, .ref h_lanes, .ref h_lengths, .ref h_cells, .int torn])), (h_state, .inl (cI, 240, .inl state)), (h_seen, .inl (cI, 18, .inl seen)), (h_lastBy, .inl (cI, 410, .inl lastBy))] H locs → lv_has ls 5 [(0, .ref h0), (1, .int x1), (2, .int x2), (4, .int x4)] → W p l e ({ frames := 6, cells := 0, slots := 0, locals := 144 } : Room) s m args below meth c H locs 0 0 Q (F0 m 52 ls [.int y1, .int y0]) := by
    intro k13 hk13 x1 x2 x4 y0 y1 moved turned state lastBy H locs ls hf hX hl
    unfold fX5_numbersAt_L52 at hf
    refine lv_ior (pc := 52) hx hb dX5_numbersAt_52 ?_
    refine lv_topi (fun v13 ev13 => ?_)
    replace hf := bnd_use ev13 hf
    refine lv_istore_n (pc := 53) (lv' := [(3, .int v13), (0, .ref h0), (1, .int x1), (2, .int x2), (4, .int x4)]) hx hb dX5_numbersAt_53 rfl hl (by decide) rfl (fun ls hl => ?_)
    obtain ⟨v14, ev14⟩ : ∃ y : Int32, y = (x4 + (1 : Int32)) := ⟨_, rfl⟩
    replace hf := bnd_use ev14 hf
    refine lv_iinc (pc := 54) (v := v14) (lv' := [(4, .int v14), (3, .int v13), (0, .ref h0), (1, .int x1), (2, .int x2)]) hx hb dX5_numbersAt_54 hl (k := 4) rfl (by rw [ev14]; rfl) (by decide) rfl (fun ls hl => ?_)
    refine lv_goto (pc := 57) (tgt := 13) hx hb dX5_numbersAt_57 (by decide) ?_
    exact hk13 x1 x2 v13 v14 moved turned state lastBy _ _ _ hf hX (lv_sub hl [2, 3, 4, 1, 0] rfl)
  have L13 : ∀ (n : Nat), ∀ (x1 : Int32) (x2 : Int32) (x3 : Int32) (x4 : Int32) (moved : Int32) (turned : Int32) (state : (Nat → Int32)) (lastBy : (Nat → Int32)) (H : Heap) (locs : List Loc) (ls : Array Slot), fX5_numbersAt_L13 seenMany seen n x1 x2 x3 x4 moved turned state lastBy = some (r0, o_moved', o_turned', o_state', o_lastBy') → xSt A s D [(h0, .inr (5, [.ref h_state, .ref h_readPage, .ref h_tape, .int taped, .int fault, .int broken, .int brokenAt, .int spot, .int here, .int token, .int value, .ref h_ends, .ref h_letters, .int moved, .int turned, .int worst, .ref h_seen, .int seenMany, .ref h_lastBy, .ref h_isKept, .ref h_lanes, .ref h_lengths, .ref h_cells, .int torn])), (h_state, .inl (cI, 240, .inl state)), (h_seen, .inl (cI, 18, .inl seen)), (h_lastBy, .inl (cI, 410, .inl lastBy))] H locs → lv_has ls 5 [(0, .ref h0), (1, .int x1), (2, .int x2), (3, .int x3), (4, .int x4)] → W p l e ({ frames := 6, cells := 0, slots := 0, locals := 144 } : Room) s m args below meth c H locs 0 0 Q (F0 m 13 ls []) := by
    intro n
    induction n with
    | zero =>
      intro x1 x2 x3 x4 moved turned state lastBy H locs ls hf
      rw [fX5_numbersAt_L13] at hf
      cases hf
    | succ n ih =>
      intro x1 x2 x3 x4 moved turned state lastBy H locs ls hf hX hl
      rw [fX5_numbersAt_L13] at hf
      refine lv_iload (pc := 13) hx hb dX5_numbersAt_13 (lv_at hl 4 rfl) ?_
      refine lv_iload_n (pc := 15) hx hb dX5_numbersAt_15 rfl (lv_at hl 2 rfl) ?_
      refine lv_icmp_ge (pc := 16) (tgt := 60) hx hb dX5_numbersAt_16 (by decide) (fun c3 => ?_) (fun c3 => ?_)
      · replace hf := ite_t c3 hf
        refine lv_iload_n (pc := 60) hx hb dX5_numbersAt_60 rfl (lv_at hl 3 rfl) ?_
        obtain ⟨rfl, rfl, rfl, rfl, rfl⟩ := re5 hf
        exact hret _ _ _ _ _ rfl rfl hX dX5_numbersAt_61
      · replace hf := ite_f c3 hf
        refine lv_aload_n (pc := 19) hx hb dX5_numbersAt_19 rfl (lv_at hl 0 rfl) ?_
        refine x_getf (pc := 20) (Cn := RX5) (T := TX5) (N := 24) C hX 0 rfl rfl miX5_numbersAt_X5 0 (by decide) mmX5_numbersAt_1 rfl dX5_numbersAt_20 ?_
        refine lv_sipush (pc := 23) (v := 200) hx hb dX5_numbersAt_23 (by decide) ?_
        refine lv_iload_n (pc := 26) hx hb dX5_numbersAt_26 rfl (lv_at hl 1 rfl) ?_
        refine lv_iadd (pc := 27) hx hb dX5_numbersAt_27 ?_
        refine lv_iload (pc := 28) hx hb dX5_numbersAt_28 (lv_at hl 4 rfl) ?_
        replace hf := chk_adv hf
        have i4 := hf.1
        replace hf := hf.2
        obtain ⟨f5, ef5⟩ : ∃ y : Nat → Int32, y = (upd state (((200 : Int32) + x1)).toNatClampNeg x4) := ⟨_, rfl⟩
        replace hf := bnd_use ef5 hf
        refine x_iast (pc := 30) C hX 1 0 rfl rfl i4 [(h0, .inr (5, [.ref h_state, .ref h_readPage, .ref h_tape, .int taped, .int fault, .int broken, .int brokenAt, .int spot, .int here, .int token, .int value, .ref h_ends, .ref h_letters, .int moved, .int turned, .int worst, .ref h_seen, .int seenMany, .ref h_lastBy, .ref h_isKept, .ref h_lanes, .ref h_lengths, .ref h_cells, .int torn])), (h_state, .inl (cI, 240, .inl f5)), (h_seen, .inl (cI, 18, .inl seen)), (h_lastBy, .inl (cI, 410, .inl lastBy))] (by subst ef5; rfl) dX5_numbersAt_30 (fun H locs hX => ?_)
        refine lv_iload_n (pc := 31) hx hb dX5_numbersAt_31 rfl (lv_at hl 3 rfl) ?_
        refine lv_aload_n (pc := 32) hx hb dX5_numbersAt_32 rfl (lv_at hl 0 rfl) ?_
        refine lv_sipush (pc := 33) (v := 200) hx hb dX5_numbersAt_33 (by decide) ?_
        refine lv_iload (pc := 36) hx hb dX5_numbersAt_36 (lv_at hl 4 rfl) ?_
        obtain ⟨r6, u7, u8, u9, u10, g11, hf⟩ := cl5_adv hf
        refine x_callVi (pc := 38) (rest := [.int x3]) (w2 := [(h0, .inr (5, [.ref h_state, .ref h_readPage, .ref h_tape, .int taped, .int fault, .int broken, .int brokenAt, .int spot, .int here, .int token, .int value, .ref h_ends, .ref h_letters, .int u7, .int u8, .int worst, .ref h_seen, .int seenMany, .ref h_lastBy, .ref h_isKept, .ref h_lanes, .ref h_lengths, .ref h_cells, .int torn])), (h_state, .inl (cI, 240, .inl u9)), (h_seen, .inl (cI, 18, .inl seen)), (h_lastBy, .inl (cI, 410, .inl u10))]) C hX (kX5_isAsSeen ad l D cI cB cZ cG cS h0 h_state h_readPage h_tape h_ends h_letters h_seen h_lastBy h_isKept h_lanes h_lengths h_cells taped fault broken brokenAt spot here token value moved turned worst seenMany torn f5 seen lastBy r6 u7 u8 u9 u10 (200 : Int32) x4 g11) (cwV 2 C.1.2.2.2.2 gX5_numbersAt_X5_isAsSeen rfl rfl rfl (by decide +kernel) ⟨Nat.le_of_ble_eq_true rfl, Nat.le_of_ble_eq_true rfl⟩) [0, 1, 2, 3] [] [0, 1, 2, 3] rfl rfl rfl rfl (by decide) rfl rfl 0 rfl rfl rfl hl.1 rfl rfl (Nat.le_of_ble_eq_true rfl) dX5_numbersAt_38 (fun H locs hX => ?_)
        refine lv_if_eq (pc := 41) (tgt := 51) hx hb dX5_numbersAt_41 (by decide) (fun c12 => ?_) (fun c12 => ?_)
        · replace hf := ite_t c12 hf
          refine lv_iconst (pc := 51) (v := 0) hx hb dX5_numbersAt_51 (by decide) ?_
          exact L52 (fX5_numbersAt_L13 seenMany seen n) ih x1 x2 x4 x3 (0 : Int32) u7 u8 u9 u10 _ _ _ hf hX (lv_sub hl [0, 1, 2, 4] rfl)
        · replace hf := ite_f c12 hf
          refine lv_iconst (pc := 44) (v := 1) hx hb dX5_numbersAt_44 (by decide) ?_
          refine lv_iload (pc := 45) hx hb dX5_numbersAt_45 (lv_at hl 4 rfl) ?_
          refine lv_ishl (pc := 47) hx hb dX5_numbersAt_47 ?_
          refine lv_goto (pc := 48) (tgt := 52) hx hb dX5_numbersAt_48 (by decide) ?_
          exact L52 (fX5_numbersAt_L13 seenMany seen n) ih x1 x2 x4 x3 ((1 : Int32) <<< (x4 &&& 31)) u7 u8 u9 u10 _ _ _ hf hX (lv_sub hl [0, 1, 2, 4] rfl)
  unfold fX5_numbersAt at hf
  refine lv_iconst (pc := 0) (v := 0) hx hb dX5_numbersAt_0 (by decide) ?_
  refine lv_istore_n (pc := 1) (lv' := [(3, .int (0 : Int32)), (0, .ref h0), (1, .int p1), (2, .int p2)]) hx hb dX5_numbersAt_1 rfl hl (by decide) rfl (fun ls hl => ?_)
  refine lv_aload_n (pc := 2) hx hb dX5_numbersAt_2 rfl (lv_at hl 1 rfl) ?_
  refine lv_iconst (pc := 3) (v := 0) hx hb dX5_numbersAt_3 (by decide) ?_
  refine lv_sipush (pc := 4) (v := 200) hx hb dX5_numbersAt_4 (by decide) ?_
  obtain ⟨u1, g2, hf⟩ := cl1_adv hf
  refine x_callVv (pc := 7) (rest := []) (w2 := [(h0, .inr (5, [.ref h_state, .ref h_readPage, .ref h_tape, .int taped, .int fault, .int broken, .int brokenAt, .int spot, .int here, .int token, .int value, .ref h_ends, .ref h_letters, .int moved, .int turned, .int worst, .ref h_seen, .int seenMany, .ref h_lastBy, .ref h_isKept, .ref h_lanes, .ref h_lengths, .ref h_cells, .int torn])), (h_state, .inl (cI, 240, .inl u1)), (h_seen, .inl (cI, 18, .inl seen)), (h_lastBy, .inl (cI, 410, .inl lastBy))]) C hX (kX5_copies ad l D cI cB cZ cG cS h0 h_state h_readPage h_tape h_ends h_letters h_seen h_lastBy h_isKept h_lanes h_lengths h_cells taped fault broken brokenAt spot here token value moved turned worst seenMany torn state u1 (0 : Int32) (200 : Int32) g2) (cwV 2 C.1.2.2.2.2 gX5_numbersAt_X5_copies rfl rfl rfl (by decide +kernel) ⟨Nat.le_of_ble_eq_true rfl, Nat.le_of_ble_eq_true rfl⟩) [0, 1] [2, 3] [2, 3, 0, 1] rfl rfl rfl rfl (by decide) rfl rfl 0 rfl rfl rfl hl.1 rfl rfl (Nat.le_of_ble_eq_true rfl) dX5_numbersAt_7 (fun H locs hX => ?_)
  refine lv_iconst (pc := 10) (v := 0) hx hb dX5_numbersAt_10 (by decide) ?_
  refine lv_istore (pc := 11) (lv' := [(4, .int (0 : Int32)), (3, .int (0 : Int32)), (0, .ref h0), (1, .int p1), (2, .int p2)]) hx hb dX5_numbersAt_11 hl (by decide) rfl (fun ls hl => ?_)
  exact L13  xF p1 p2 (0 : Int32) (0 : Int32) moved turned u1 lastBy _ _ _ hf hX (lv_sub hl [2, 3, 4, 1, 0] rfl)
set_option maxHeartbeats 4000000 in
set_option maxRecDepth 100000 in
theorem kX5_kinds (ad : xAd) (l : Launch) (D : va_G) (cI cB cZ cG cS : ClassId) (h0 h_state h_readPage h_tape h_ends h_letters h_seen h_lastBy h_isKept h_lanes h_lengths h_cells : Nat) (taped : Int32) (fault : Int32) (broken : Int32) (brokenAt : Int32) (spot : Int32) (here : Int32) (token : Int32) (value : Int32) (moved : Int32) (turned : Int32) (worst : Int32) (seenMany : Int32) (torn : Int32) (state : (Nat → Int32)) (seen : (Nat → Int32)) (lastBy : (Nat → Int32)) (r0 : Int32) (o_moved' : Int32) (o_turned' : Int32) (o_state' : (Nat → Int32)) (o_lastBy' : (Nat → Int32)) (p1 : Int32) (hf : fX5_kinds p1 moved turned seenMany state seen lastBy = some (r0, o_moved', o_turned', o_state', o_lastBy')) : xMi ad l yX5_kinds wsX5_kinds ({ frames := 7, cells := 0, slots := 0, locals := 168 } : Room) D (xTY cI cB cZ cG cS) [.ref h0, .int p1] [(h0, .inr (5, [.ref h_state, .ref h_readPage, .ref h_tape, .int taped, .int fault, .int broken, .int brokenAt, .int spot, .int here, .int token, .int value, .ref h_ends, .ref h_letters, .int moved, .int turned, .int worst, .ref h_seen, .int seenMany, .ref h_lastBy, .ref h_isKept, .ref h_lanes, .ref h_lengths, .ref h_cells, .int torn])), (h_state, .inl (cI, 240, .inl state)), (h_seen, .inl (cI, 18, .inl seen)), (h_lastBy, .inl (cI, 410, .inl lastBy))] [(h0, .inr (5, [.ref h_state, .ref h_readPage, .ref h_tape, .int taped, .int fault, .int broken, .int brokenAt, .int spot, .int here, .int token, .int value, .ref h_ends, .ref h_letters, .int o_moved', .int o_turned', .int worst, .ref h_seen, .int seenMany, .ref h_lastBy, .ref h_isKept, .ref h_lanes, .ref h_lengths, .ref h_cells, .int torn])), (h_state, .inl (cI, 240, .inl o_state')), (h_seen, .inl (cI, 18, .inl seen)), (h_lastBy, .inl (cI, 410, .inl o_lastBy'))] r0 := by
  refine xMi_of (cc := cX5_kinds) (maxL := 2) (ty := .int) (by decide) rfl (Nat.le_of_ble_eq_true rfl) ?_
  intro p e s m args below meth c A Q ls C hX hl hret
  have hx := C.1.1
  have hb := C.1.2.1
  have hl : lv_has ls 2 [(0, .ref h0), (1, .int p1)] := hl
  unfold fX5_kinds at hf
  refine lv_aload_n (pc := 0) hx hb dX5_kinds_0 rfl (lv_at hl 0 rfl) ?_
  refine lv_iload_n (pc := 1) hx hb dX5_kinds_1 rfl (lv_at hl 1 rfl) ?_
  obtain ⟨r1, g2, hf⟩ := cl1_adv hf
  refine x_callVi (pc := 2) (rest := []) (w2 := [(h0, .inr (5, [.ref h_state, .ref h_readPage, .ref h_tape, .int taped, .int fault, .int broken, .int brokenAt, .int spot, .int here, .int token, .int value, .ref h_ends, .ref h_letters, .int moved, .int turned, .int worst, .ref h_seen, .int seenMany, .ref h_lastBy, .ref h_isKept, .ref h_lanes, .ref h_lengths, .ref h_cells, .int torn])), (h_state, .inl (cI, 240, .inl state)), (h_seen, .inl (cI, 18, .inl seen)), (h_lastBy, .inl (cI, 410, .inl lastBy))]) C hX (kX5_isArm ad l D cI cB cZ cG cS h0 h_state h_readPage h_tape h_ends h_letters h_seen h_lastBy h_isKept h_lanes h_lengths h_cells taped fault broken brokenAt spot here token value moved turned worst seenMany torn state r1 p1 g2) (cwV 1 C.1.2.2.2.2 gX5_kinds_X5_isArm rfl rfl rfl (by decide +kernel) ⟨Nat.le_of_ble_eq_true rfl, Nat.le_of_ble_eq_true rfl⟩) [0, 1] [2, 3] [2, 3, 0, 1] rfl rfl rfl rfl (by decide) rfl rfl 0 rfl rfl rfl hl.1 rfl rfl (Nat.le_of_ble_eq_true rfl) dX5_kinds_2 (fun H locs hX => ?_)
  refine lv_if_eq (pc := 5) (tgt := 17) hx hb dX5_kinds_5 (by decide) (fun c3 => ?_) (fun c3 => ?_)
  · replace hf := ite_t c3 hf
    refine lv_iconst (pc := 17) (v := -1) hx hb dX5_kinds_17 (by decide) ?_
    obtain ⟨rfl, rfl, rfl, rfl, rfl⟩ := re5 hf
    exact hret _ _ _ _ _ rfl rfl hX dX5_kinds_18
  · replace hf := ite_f c3 hf
    refine lv_aload_n (pc := 8) hx hb dX5_kinds_8 rfl (lv_at hl 0 rfl) ?_
    refine lv_iload_n (pc := 9) hx hb dX5_kinds_9 rfl (lv_at hl 1 rfl) ?_
    refine lv_iconst (pc := 10) (v := 4) hx hb dX5_kinds_10 (by decide) ?_
    obtain ⟨r4, u5, u6, u7, u8, g9, hf⟩ := cl5_adv hf
    refine x_callVi (pc := 11) (rest := []) (w2 := [(h0, .inr (5, [.ref h_state, .ref h_readPage, .ref h_tape, .int taped, .int fault, .int broken, .int brokenAt, .int spot, .int here, .int token, .int value, .ref h_ends, .ref h_letters, .int u5, .int u6, .int worst, .ref h_seen, .int seenMany, .ref h_lastBy, .ref h_isKept, .ref h_lanes, .ref h_lengths, .ref h_cells, .int torn])), (h_state, .inl (cI, 240, .inl u7)), (h_seen, .inl (cI, 18, .inl seen)), (h_lastBy, .inl (cI, 410, .inl u8))]) C hX (kX5_numbersAt ad l D cI cB cZ cG cS h0 h_state h_readPage h_tape h_ends h_letters h_seen h_lastBy h_isKept h_lanes h_lengths h_cells taped fault broken brokenAt spot here token value moved turned worst seenMany torn state seen lastBy r4 u5 u6 u7 u8 p1 (4 : Int32) g9) (cwV 2 C.1.2.2.2.2 gX5_kinds_X5_numbersAt rfl rfl rfl (by decide +kernel) ⟨Nat.le_of_ble_eq_true rfl, Nat.le_of_ble_eq_true rfl⟩) [0, 1, 2, 3] [] [0, 1, 2, 3] rfl rfl rfl rfl (by decide) rfl rfl 0 rfl rfl rfl hl.1 rfl rfl (Nat.le_of_ble_eq_true rfl) dX5_kinds_11 (fun H locs hX => ?_)
    refine lv_goto (pc := 14) (tgt := 18) hx hb dX5_kinds_14 (by decide) ?_
    obtain ⟨rfl, rfl, rfl, rfl, rfl⟩ := re5 hf
    exact hret _ _ _ _ _ rfl rfl hX dX5_kinds_18
set_option maxHeartbeats 4000000 in
set_option maxRecDepth 100000 in
theorem kX5_slacks (ad : xAd) (l : Launch) (D : va_G) (cI cB cZ cG cS : ClassId) (h0 h_state h_readPage h_tape h_ends h_letters h_seen h_lastBy h_isKept h_lanes h_lengths h_cells : Nat) (taped : Int32) (fault : Int32) (broken : Int32) (brokenAt : Int32) (spot : Int32) (here : Int32) (token : Int32) (value : Int32) (moved : Int32) (turned : Int32) (worst : Int32) (seenMany : Int32) (torn : Int32) (state : (Nat → Int32)) (seen : (Nat → Int32)) (lastBy : (Nat → Int32)) (r0 : Int32) (o_moved' : Int32) (o_turned' : Int32) (o_state' : (Nat → Int32)) (o_lastBy' : (Nat → Int32)) (p1 : Int32) (hf : fX5_slacks p1 moved turned seenMany state seen lastBy = some (r0, o_moved', o_turned', o_state', o_lastBy')) : xMi ad l yX5_slacks wsX5_slacks ({ frames := 7, cells := 0, slots := 0, locals := 168 } : Room) D (xTY cI cB cZ cG cS) [.ref h0, .int p1] [(h0, .inr (5, [.ref h_state, .ref h_readPage, .ref h_tape, .int taped, .int fault, .int broken, .int brokenAt, .int spot, .int here, .int token, .int value, .ref h_ends, .ref h_letters, .int moved, .int turned, .int worst, .ref h_seen, .int seenMany, .ref h_lastBy, .ref h_isKept, .ref h_lanes, .ref h_lengths, .ref h_cells, .int torn])), (h_state, .inl (cI, 240, .inl state)), (h_seen, .inl (cI, 18, .inl seen)), (h_lastBy, .inl (cI, 410, .inl lastBy))] [(h0, .inr (5, [.ref h_state, .ref h_readPage, .ref h_tape, .int taped, .int fault, .int broken, .int brokenAt, .int spot, .int here, .int token, .int value, .ref h_ends, .ref h_letters, .int o_moved', .int o_turned', .int worst, .ref h_seen, .int seenMany, .ref h_lastBy, .ref h_isKept, .ref h_lanes, .ref h_lengths, .ref h_cells, .int torn])), (h_state, .inl (cI, 240, .inl o_state')), (h_seen, .inl (cI, 18, .inl seen)), (h_lastBy, .inl (cI, 410, .inl o_lastBy'))] r0 := by
  refine xMi_of (cc := cX5_slacks) (maxL := 2) (ty := .int) (by decide) rfl (Nat.le_of_ble_eq_true rfl) ?_
  intro p e s m args below meth c A Q ls C hX hl hret
  have hx := C.1.1
  have hb := C.1.2.1
  have hl : lv_has ls 2 [(0, .ref h0), (1, .int p1)] := hl
  unfold fX5_slacks at hf
  refine lv_aload_n (pc := 0) hx hb dX5_slacks_0 rfl (lv_at hl 0 rfl) ?_
  refine lv_iload_n (pc := 1) hx hb dX5_slacks_1 rfl (lv_at hl 1 rfl) ?_
  obtain ⟨r1, g2, hf⟩ := cl1_adv hf
  refine x_callVi (pc := 2) (rest := []) (w2 := [(h0, .inr (5, [.ref h_state, .ref h_readPage, .ref h_tape, .int taped, .int fault, .int broken, .int brokenAt, .int spot, .int here, .int token, .int value, .ref h_ends, .ref h_letters, .int moved, .int turned, .int worst, .ref h_seen, .int seenMany, .ref h_lastBy, .ref h_isKept, .ref h_lanes, .ref h_lengths, .ref h_cells, .int torn])), (h_state, .inl (cI, 240, .inl state)), (h_seen, .inl (cI, 18, .inl seen)), (h_lastBy, .inl (cI, 410, .inl lastBy))]) C hX (kX5_isArm ad l D cI cB cZ cG cS h0 h_state h_readPage h_tape h_ends h_letters h_seen h_lastBy h_isKept h_lanes h_lengths h_cells taped fault broken brokenAt spot here token value moved turned worst seenMany torn state r1 p1 g2) (cwV 1 C.1.2.2.2.2 gX5_slacks_X5_isArm rfl rfl rfl (by decide +kernel) ⟨Nat.le_of_ble_eq_true rfl, Nat.le_of_ble_eq_true rfl⟩) [0, 1] [2, 3] [2, 3, 0, 1] rfl rfl rfl rfl (by decide) rfl rfl 0 rfl rfl rfl hl.1 rfl rfl (Nat.le_of_ble_eq_true rfl) dX5_slacks_2 (fun H locs hX => ?_)
  refine lv_if_eq (pc := 5) (tgt := 20) hx hb dX5_slacks_5 (by decide) (fun c3 => ?_) (fun c3 => ?_)
  · replace hf := ite_t c3 hf
    refine lv_iconst (pc := 20) (v := -1) hx hb dX5_slacks_20 (by decide) ?_
    obtain ⟨rfl, rfl, rfl, rfl, rfl⟩ := re5 hf
    exact hret _ _ _ _ _ rfl rfl hX dX5_slacks_21
  · replace hf := ite_f c3 hf
    refine lv_aload_n (pc := 8) hx hb dX5_slacks_8 rfl (lv_at hl 0 rfl) ?_
    refine lv_iconst (pc := 9) (v := 4) hx hb dX5_slacks_9 (by decide) ?_
    refine lv_iload_n (pc := 10) hx hb dX5_slacks_10 rfl (lv_at hl 1 rfl) ?_
    refine lv_iadd (pc := 11) hx hb dX5_slacks_11 ?_
    refine lv_bipush (pc := 12) (v := 10) hx hb dX5_slacks_12 (by decide) ?_
    obtain ⟨r4, u5, u6, u7, u8, g9, hf⟩ := cl5_adv hf
    refine x_callVi (pc := 14) (rest := []) (w2 := [(h0, .inr (5, [.ref h_state, .ref h_readPage, .ref h_tape, .int taped, .int fault, .int broken, .int brokenAt, .int spot, .int here, .int token, .int value, .ref h_ends, .ref h_letters, .int u5, .int u6, .int worst, .ref h_seen, .int seenMany, .ref h_lastBy, .ref h_isKept, .ref h_lanes, .ref h_lengths, .ref h_cells, .int torn])), (h_state, .inl (cI, 240, .inl u7)), (h_seen, .inl (cI, 18, .inl seen)), (h_lastBy, .inl (cI, 410, .inl u8))]) C hX (kX5_numbersAt ad l D cI cB cZ cG cS h0 h_state h_readPage h_tape h_ends h_letters h_seen h_lastBy h_isKept h_lanes h_lengths h_cells taped fault broken brokenAt spot here token value moved turned worst seenMany torn state seen lastBy r4 u5 u6 u7 u8 ((4 : Int32) + p1) (10 : Int32) g9) (cwV 2 C.1.2.2.2.2 gX5_slacks_X5_numbersAt rfl rfl rfl (by decide +kernel) ⟨Nat.le_of_ble_eq_true rfl, Nat.le_of_ble_eq_true rfl⟩) [0, 1, 2, 3] [] [0, 1, 2, 3] rfl rfl rfl rfl (by decide) rfl rfl 0 rfl rfl rfl hl.1 rfl rfl (Nat.le_of_ble_eq_true rfl) dX5_slacks_14 (fun H locs hX => ?_)
    refine lv_goto (pc := 17) (tgt := 21) hx hb dX5_slacks_17 (by decide) ?_
    obtain ⟨rfl, rfl, rfl, rfl, rfl⟩ := re5 hf
    exact hret _ _ _ _ _ rfl rfl hX dX5_slacks_21
theorem mmX5_worstAt_1 : Cond.fieldLink RX5 28 "SlackArmsModel" "lastBy" "[I" ∈ wsX5_worstAt := List.mem_of_getElem? (i := 1) rfl
theorem miX5_worstAt_X5 : ∀ w ∈ u_ws RX5 TX5 24, w ∈ wsX5_worstAt := fun w h => List.mem_cons_of_mem _ (List.mem_append_right _ h)
set_option maxHeartbeats 4000000 in
set_option maxRecDepth 100000 in
theorem kX5_worstAt (ad : xAd) (l : Launch) (D : va_G) (cI cB cZ cG cS : ClassId) (h0 h_state h_readPage h_tape h_ends h_letters h_seen h_lastBy h_isKept h_lanes h_lengths h_cells : Nat) (taped : Int32) (fault : Int32) (broken : Int32) (brokenAt : Int32) (spot : Int32) (here : Int32) (token : Int32) (value : Int32) (moved : Int32) (turned : Int32) (worst : Int32) (seenMany : Int32) (torn : Int32) (lastBy : (Nat → Int32)) (r0 : Int32) (p1 : Int32) (p2 : Int32) (hf : fX5_worstAt p1 p2 lastBy = some r0) : xMi ad l yX5_worstAt wsX5_worstAt ({ frames := 0, cells := 0, slots := 0, locals := 0 } : Room) D (xTY cI cB cZ cG cS) [.ref h0, .int p1, .int p2] [(h0, .inr (5, [.ref h_state, .ref h_readPage, .ref h_tape, .int taped, .int fault, .int broken, .int brokenAt, .int spot, .int here, .int token, .int value, .ref h_ends, .ref h_letters, .int moved, .int turned, .int worst, .ref h_seen, .int seenMany, .ref h_lastBy, .ref h_isKept, .ref h_lanes, .ref h_lengths, .ref h_cells, .int torn])), (h_lastBy, .inl (cI, 410, .inl lastBy))] [(h0, .inr (5, [.ref h_state, .ref h_readPage, .ref h_tape, .int taped, .int fault, .int broken, .int brokenAt, .int spot, .int here, .int token, .int value, .ref h_ends, .ref h_letters, .int moved, .int turned, .int worst, .ref h_seen, .int seenMany, .ref h_lastBy, .ref h_isKept, .ref h_lanes, .ref h_lengths, .ref h_cells, .int torn])), (h_lastBy, .inl (cI, 410, .inl lastBy))] r0 := by
  refine xMi_of (cc := cX5_worstAt) (maxL := 7) (ty := .int) (by decide) rfl (Nat.le_of_ble_eq_true rfl) ?_
  intro p e s m args below meth c A Q ls C hX hl hret
  have hx := C.1.1
  have hb := C.1.2.1
  have hl : lv_has ls 7 [(0, .ref h0), (1, .int p1), (2, .int p2)] := hl
  have L100 : ∀ (k5 : Int32 → Int32 → Int32 → Int32 → Option (Int32)) (hk5 : ∀ (x1 : Int32) (x2 : Int32) (x3 : Int32) (x4 : Int32) (H : Heap) (locs : List Loc) (ls : Array Slot), k5 x1 x2 x3 x4 = some r0 → xSt A s D [(h0, .inr (5, [.ref h_state, .ref h_readPage, .ref h_tape, .int taped, .int fault, .int broken, .int brokenAt, .int spot, .int here, .int token, .int value, .ref h_ends, .ref h_letters, .int moved, .int turned, .int worst, .ref h_seen, .int seenMany, .ref h_lastBy, .ref h_isKept, .ref h_lanes, .ref h_lengths, .ref h_cells, .int torn])), (h_lastBy, .inl (cI, 410, .inl lastBy))] H locs → lv_has ls 7 [(0, .ref h0), (1, .int x1), (2, .int x2), (3, .int x3), (4, .int x4)] → W p l e ({ frames := 0, cells := 0, slots := 0, locals := 0 } : Room) s m args below meth c H locs 0 0 Q (F0 m 5 ls [])), ∀ (x1 : Int32) (x2 : Int32) (x4 : Int32) (y0 : Int32) (H : Heap) (locs : List Loc) (ls : Array Slot), fX5_worstAt_L100 lastBy k5 x1 x2 x4 y0 = some r0 → xSt A s D [(h0, .inr (5, [.ref h_state, .ref h_readPage, .ref h_tape, .int taped, .int fault, .int broken, .int brokenAt, .int spot, .int here, .int token, .int value, .ref h_ends, .ref h_letters, .int moved, .int turned, .int worst, .ref h_seen, .int seenMany, .ref h_lastBy, .ref h_isKept, .ref h_lanes, .ref h_lengths, .ref h_cells, .int torn])), (h_lastBy, .inl (cI, 410, .inl lastBy))] H locs → lv_has ls 7 [(0, .ref h0), (1, .int x1), (2, .int x2), (4, .int x4)] → W p l e ({ frames := 0, cells := 0, slots := 0, locals := 0 } : Room) s m args below meth c H locs 0 0 Q (F0 m 100 ls [.int y0]) := by
    intro k5 hk5 x1 x2 x4 y0 H locs ls hf hX hl
    unfold fX5_worstAt_L100 at hf
    refine lv_istore_n (pc := 100) (lv' := [(3, .int y0), (0, .ref h0), (1, .int x1), (2, .int x2), (4, .int x4)]) hx hb dX5_worstAt_100 rfl hl (by decide) rfl (fun ls hl => ?_)
    obtain ⟨v4, ev4⟩ : ∃ y : Int32, y = (x4 + (1 : Int32)) := ⟨_, rfl⟩
    replace hf := bnd_use ev4 hf
    refine lv_iinc (pc := 101) (v := v4) (lv' := [(4, .int v4), (3, .int y0), (0, .ref h0), (1, .int x1), (2, .int x2)]) hx hb dX5_worstAt_101 hl (k := 4) rfl (by rw [ev4]; rfl) (by decide) rfl (fun ls hl => ?_)
    refine lv_goto (pc := 104) (tgt := 5) hx hb dX5_worstAt_104 (by decide) ?_
    exact hk5 x1 x2 y0 v4 _ _ _ hf hX (lv_sub hl [2, 3, 4, 1, 0] rfl)
  have L88 : ∀ (k5 : Int32 → Int32 → Int32 → Int32 → Option (Int32)) (hk5 : ∀ (x1 : Int32) (x2 : Int32) (x3 : Int32) (x4 : Int32) (H : Heap) (locs : List Loc) (ls : Array Slot), k5 x1 x2 x3 x4 = some r0 → xSt A s D [(h0, .inr (5, [.ref h_state, .ref h_readPage, .ref h_tape, .int taped, .int fault, .int broken, .int brokenAt, .int spot, .int here, .int token, .int value, .ref h_ends, .ref h_letters, .int moved, .int turned, .int worst, .ref h_seen, .int seenMany, .ref h_lastBy, .ref h_isKept, .ref h_lanes, .ref h_lengths, .ref h_cells, .int torn])), (h_lastBy, .inl (cI, 410, .inl lastBy))] H locs → lv_has ls 7 [(0, .ref h0), (1, .int x1), (2, .int x2), (3, .int x3), (4, .int x4)] → W p l e ({ frames := 0, cells := 0, slots := 0, locals := 0 } : Room) s m args below meth c H locs 0 0 Q (F0 m 5 ls [])), ∀ (x1 : Int32) (x2 : Int32) (x3 : Int32) (x4 : Int32) (x5 : Int32) (H : Heap) (locs : List Loc) (ls : Array Slot), fX5_worstAt_L88 lastBy k5 x1 x2 x3 x4 x5 = some r0 → xSt A s D [(h0, .inr (5, [.ref h_state, .ref h_readPage, .ref h_tape, .int taped, .int fault, .int broken, .int brokenAt, .int spot, .int here, .int token, .int value, .ref h_ends, .ref h_letters, .int moved, .int turned, .int worst, .ref h_seen, .int seenMany, .ref h_lastBy, .ref h_isKept, .ref h_lanes, .ref h_lengths, .ref h_cells, .int torn])), (h_lastBy, .inl (cI, 410, .inl lastBy))] H locs → lv_has ls 7 [(0, .ref h0), (1, .int x1), (2, .int x2), (3, .int x3), (4, .int x4), (5, .int x5)] → W p l e ({ frames := 0, cells := 0, slots := 0, locals := 0 } : Room) s m args below meth c H locs 0 0 Q (F0 m 88 ls []) := by
    intro k5 hk5 x1 x2 x3 x4 x5 H locs ls hf hX hl
    unfold fX5_worstAt_L88 at hf
    refine lv_iload (pc := 88) hx hb dX5_worstAt_88 (lv_at hl 5 rfl) ?_
    refine lv_iload_n (pc := 90) hx hb dX5_worstAt_90 rfl (lv_at hl 3 rfl) ?_
    refine lv_icmp_le (pc := 91) (tgt := 99) hx hb dX5_worstAt_91 (by decide) (fun c3 => ?_) (fun c3 => ?_)
    · replace hf := ite_t c3 hf
      refine lv_iload_n (pc := 99) hx hb dX5_worstAt_99 rfl (lv_at hl 3 rfl) ?_
      exact L100 (k5) hk5 x1 x2 x4 x3 _ _ _ hf hX (lv_sub hl [0, 1, 2, 4] rfl)
    · replace hf := ite_f c3 hf
      refine lv_iload (pc := 94) hx hb dX5_worstAt_94 (lv_at hl 5 rfl) ?_
      refine lv_goto (pc := 96) (tgt := 100) hx hb dX5_worstAt_96 (by decide) ?_
      exact L100 (k5) hk5 x1 x2 x4 x5 _ _ _ hf hX (lv_sub hl [0, 1, 2, 4] rfl)
  have L79 : ∀ (k5 : Int32 → Int32 → Int32 → Int32 → Option (Int32)) (hk5 : ∀ (x1 : Int32) (x2 : Int32) (x3 : Int32) (x4 : Int32) (H : Heap) (locs : List Loc) (ls : Array Slot), k5 x1 x2 x3 x4 = some r0 → xSt A s D [(h0, .inr (5, [.ref h_state, .ref h_readPage, .ref h_tape, .int taped, .int fault, .int broken, .int brokenAt, .int spot, .int here, .int token, .int value, .ref h_ends, .ref h_letters, .int moved, .int turned, .int worst, .ref h_seen, .int seenMany, .ref h_lastBy, .ref h_isKept, .ref h_lanes, .ref h_lengths, .ref h_cells, .int torn])), (h_lastBy, .inl (cI, 410, .inl lastBy))] H locs → lv_has ls 7 [(0, .ref h0), (1, .int x1), (2, .int x2), (3, .int x3), (4, .int x4)] → W p l e ({ frames := 0, cells := 0, slots := 0, locals := 0 } : Room) s m args below meth c H locs 0 0 Q (F0 m 5 ls [])) (k18 : Int32 → Int32 → Int32 → Int32 → Int32 → Int32 → Option (Int32)) (hk18 : ∀ (x1 : Int32) (x2 : Int32) (x3 : Int32) (x4 : Int32) (x5 : Int32) (x6 : Int32) (H : Heap) (locs : List Loc) (ls : Array Slot), k18 x1 x2 x3 x4 x5 x6 = some r0 → xSt A s D [(h0, .inr (5, [.ref h_state, .ref h_readPage, .ref h_tape, .int taped, .int fault, .int broken, .int brokenAt, .int spot, .int here, .int token, .int value, .ref h_ends, .ref h_letters, .int moved, .int turned, .int worst, .ref h_seen, .int seenMany, .ref h_lastBy, .ref h_isKept, .ref h_lanes, .ref h_lengths, .ref h_cells, .int torn])), (h_lastBy, .inl (cI, 410, .inl lastBy))] H locs → lv_has ls 7 [(0, .ref h0), (1, .int x1), (2, .int x2), (3, .int x3), (4, .int x4), (5, .int x5), (6, .int x6)] → W p l e ({ frames := 0, cells := 0, slots := 0, locals := 0 } : Room) s m args below meth c H locs 0 0 Q (F0 m 18 ls [])), ∀ (x1 : Int32) (x2 : Int32) (x3 : Int32) (x4 : Int32) (x6 : Int32) (y0 : Int32) (y1 : Int32) (H : Heap) (locs : List Loc) (ls : Array Slot), fX5_worstAt_L79 lastBy k5 k18 x1 x2 x3 x4 x6 y0 y1 = some r0 → xSt A s D [(h0, .inr (5, [.ref h_state, .ref h_readPage, .ref h_tape, .int taped, .int fault, .int broken, .int brokenAt, .int spot, .int here, .int token, .int value, .ref h_ends, .ref h_letters, .int moved, .int turned, .int worst, .ref h_seen, .int seenMany, .ref h_lastBy, .ref h_isKept, .ref h_lanes, .ref h_lengths, .ref h_cells, .int torn])), (h_lastBy, .inl (cI, 410, .inl lastBy))] H locs → lv_has ls 7 [(0, .ref h0), (1, .int x1), (2, .int x2), (3, .int x3), (4, .int x4), (6, .int x6)] → W p l e ({ frames := 0, cells := 0, slots := 0, locals := 0 } : Room) s m args below meth c H locs 0 0 Q (F0 m 79 ls [.int y1, .int y0]) := by
    intro k5 hk5 k18 hk18 x1 x2 x3 x4 x6 y0 y1 H locs ls hf hX hl
    unfold fX5_worstAt_L79 at hf
    refine lv_iadd (pc := 79) hx hb dX5_worstAt_79 ?_
    refine lv_topi (fun v7 ev7 => ?_)
    replace hf := bnd_use ev7 hf
    refine lv_istore (pc := 80) (lv' := [(5, .int v7), (0, .ref h0), (1, .int x1), (2, .int x2), (3, .int x3), (4, .int x4), (6, .int x6)]) hx hb dX5_worstAt_80 hl (by decide) rfl (fun ls hl => ?_)
    obtain ⟨v8, ev8⟩ : ∃ y : Int32, y = (x6 + (1 : Int32)) := ⟨_, rfl⟩
    replace hf := bnd_use ev8 hf
    refine lv_iinc (pc := 82) (v := v8) (lv' := [(6, .int v8), (5, .int v7), (0, .ref h0), (1, .int x1), (2, .int x2), (3, .int x3), (4, .int x4)]) hx hb dX5_worstAt_82 hl (k := 6) rfl (by rw [ev8]; rfl) (by decide) rfl (fun ls hl => ?_)
    refine lv_goto (pc := 85) (tgt := 18) hx hb dX5_worstAt_85 (by decide) ?_
    exact hk18 x1 x2 x3 x4 v7 v8 _ _ _ hf hX (lv_sub hl [2, 3, 4, 5, 6, 1, 0] rfl)
  have L78 : ∀ (k5 : Int32 → Int32 → Int32 → Int32 → Option (Int32)) (hk5 : ∀ (x1 : Int32) (x2 : Int32) (x3 : Int32) (x4 : Int32) (H : Heap) (locs : List Loc) (ls : Array Slot), k5 x1 x2 x3 x4 = some r0 → xSt A s D [(h0, .inr (5, [.ref h_state, .ref h_readPage, .ref h_tape, .int taped, .int fault, .int broken, .int brokenAt, .int spot, .int here, .int token, .int value, .ref h_ends, .ref h_letters, .int moved, .int turned, .int worst, .ref h_seen, .int seenMany, .ref h_lastBy, .ref h_isKept, .ref h_lanes, .ref h_lengths, .ref h_cells, .int torn])), (h_lastBy, .inl (cI, 410, .inl lastBy))] H locs → lv_has ls 7 [(0, .ref h0), (1, .int x1), (2, .int x2), (3, .int x3), (4, .int x4)] → W p l e ({ frames := 0, cells := 0, slots := 0, locals := 0 } : Room) s m args below meth c H locs 0 0 Q (F0 m 5 ls [])) (k18 : Int32 → Int32 → Int32 → Int32 → Int32 → Int32 → Option (Int32)) (hk18 : ∀ (x1 : Int32) (x2 : Int32) (x3 : Int32) (x4 : Int32) (x5 : Int32) (x6 : Int32) (H : Heap) (locs : List Loc) (ls : Array Slot), k18 x1 x2 x3 x4 x5 x6 = some r0 → xSt A s D [(h0, .inr (5, [.ref h_state, .ref h_readPage, .ref h_tape, .int taped, .int fault, .int broken, .int brokenAt, .int spot, .int here, .int token, .int value, .ref h_ends, .ref h_letters, .int moved, .int turned, .int worst, .ref h_seen, .int seenMany, .ref h_lastBy, .ref h_isKept, .ref h_lanes, .ref h_lengths, .ref h_cells, .int torn])), (h_lastBy, .inl (cI, 410, .inl lastBy))] H locs → lv_has ls 7 [(0, .ref h0), (1, .int x1), (2, .int x2), (3, .int x3), (4, .int x4), (5, .int x5), (6, .int x6)] → W p l e ({ frames := 0, cells := 0, slots := 0, locals := 0 } : Room) s m args below meth c H locs 0 0 Q (F0 m 18 ls [])), ∀ (x1 : Int32) (x2 : Int32) (x3 : Int32) (x4 : Int32) (x6 : Int32) (y0 : Int32) (H : Heap) (locs : List Loc) (ls : Array Slot), fX5_worstAt_L78 lastBy k5 k18 x1 x2 x3 x4 x6 y0 = some r0 → xSt A s D [(h0, .inr (5, [.ref h_state, .ref h_readPage, .ref h_tape, .int taped, .int fault, .int broken, .int brokenAt, .int spot, .int here, .int token, .int value, .ref h_ends, .ref h_letters, .int moved, .int turned, .int worst, .ref h_seen, .int seenMany, .ref h_lastBy, .ref h_isKept, .ref h_lanes, .ref h_lengths, .ref h_cells, .int torn])), (h_lastBy, .inl (cI, 410, .inl lastBy))] H locs → lv_has ls 7 [(0, .ref h0), (1, .int x1), (2, .int x2), (3, .int x3), (4, .int x4), (6, .int x6)] → W p l e ({ frames := 0, cells := 0, slots := 0, locals := 0 } : Room) s m args below meth c H locs 0 0 Q (F0 m 78 ls [.int y0]) := by
    intro k5 hk5 k18 hk18 x1 x2 x3 x4 x6 y0 H locs ls hf hX hl
    unfold fX5_worstAt_L78 at hf
    refine lv_iconst (pc := 78) (v := 0) hx hb dX5_worstAt_78 (by decide) ?_
    exact L79 (k5) hk5 (k18) hk18 x1 x2 x3 x4 x6 y0 (0 : Int32) _ _ _ hf hX (lv_sub hl [0, 1, 2, 3, 4, 5] rfl)
  have L18 : ∀ (k5 : Int32 → Int32 → Int32 → Int32 → Option (Int32)) (hk5 : ∀ (x1 : Int32) (x2 : Int32) (x3 : Int32) (x4 : Int32) (H : Heap) (locs : List Loc) (ls : Array Slot), k5 x1 x2 x3 x4 = some r0 → xSt A s D [(h0, .inr (5, [.ref h_state, .ref h_readPage, .ref h_tape, .int taped, .int fault, .int broken, .int brokenAt, .int spot, .int here, .int token, .int value, .ref h_ends, .ref h_letters, .int moved, .int turned, .int worst, .ref h_seen, .int seenMany, .ref h_lastBy, .ref h_isKept, .ref h_lanes, .ref h_lengths, .ref h_cells, .int torn])), (h_lastBy, .inl (cI, 410, .inl lastBy))] H locs → lv_has ls 7 [(0, .ref h0), (1, .int x1), (2, .int x2), (3, .int x3), (4, .int x4)] → W p l e ({ frames := 0, cells := 0, slots := 0, locals := 0 } : Room) s m args below meth c H locs 0 0 Q (F0 m 5 ls [])) (n : Nat), ∀ (x1 : Int32) (x2 : Int32) (x3 : Int32) (x4 : Int32) (x5 : Int32) (x6 : Int32) (H : Heap) (locs : List Loc) (ls : Array Slot), fX5_worstAt_L18 lastBy k5 n x1 x2 x3 x4 x5 x6 = some r0 → xSt A s D [(h0, .inr (5, [.ref h_state, .ref h_readPage, .ref h_tape, .int taped, .int fault, .int broken, .int brokenAt, .int spot, .int here, .int token, .int value, .ref h_ends, .ref h_letters, .int moved, .int turned, .int worst, .ref h_seen, .int seenMany, .ref h_lastBy, .ref h_isKept, .ref h_lanes, .ref h_lengths, .ref h_cells, .int torn])), (h_lastBy, .inl (cI, 410, .inl lastBy))] H locs → lv_has ls 7 [(0, .ref h0), (1, .int x1), (2, .int x2), (3, .int x3), (4, .int x4), (5, .int x5), (6, .int x6)] → W p l e ({ frames := 0, cells := 0, slots := 0, locals := 0 } : Room) s m args below meth c H locs 0 0 Q (F0 m 18 ls []) := by
    intro k5 hk5
    intro n
    induction n with
    | zero =>
      intro x1 x2 x3 x4 x5 x6 H locs ls hf
      rw [fX5_worstAt_L18] at hf
      cases hf
    | succ n ih =>
      intro x1 x2 x3 x4 x5 x6 H locs ls hf hX hl
      rw [fX5_worstAt_L18] at hf
      refine lv_iload (pc := 18) hx hb dX5_worstAt_18 (lv_at hl 6 rfl) ?_
      refine lv_bipush (pc := 20) (v := 9) hx hb dX5_worstAt_20 (by decide) ?_
      refine lv_icmp_gt (pc := 22) (tgt := 88) hx hb dX5_worstAt_22 (by decide) (fun c2 => ?_) (fun c2 => ?_)
      · replace hf := ite_t c2 hf
        exact L88 (k5) hk5 x1 x2 x3 x4 x5 _ _ _ hf hX (lv_sub hl [0, 1, 2, 3, 4, 5] rfl)
      · replace hf := ite_f c2 hf
        refine lv_iload_n (pc := 25) hx hb dX5_worstAt_25 rfl (lv_at hl 1 rfl) ?_
        refine lv_iload (pc := 26) hx hb dX5_worstAt_26 (lv_at hl 4 rfl) ?_
        refine lv_ishr (pc := 28) hx hb dX5_worstAt_28 ?_
        refine lv_iconst (pc := 29) (v := 1) hx hb dX5_worstAt_29 (by decide) ?_
        refine lv_iand (pc := 30) hx hb dX5_worstAt_30 ?_
        refine lv_iconst (pc := 31) (v := 1) hx hb dX5_worstAt_31 (by decide) ?_
        refine lv_icmp_ne (pc := 32) (tgt := 88) hx hb dX5_worstAt_32 (by decide) (fun c5 => ?_) (fun c5 => ?_)
        · replace hf := ite_f c5 hf
          exact L88 (k5) hk5 x1 x2 x3 x4 x5 _ _ _ hf hX (lv_sub hl [0, 1, 2, 3, 4, 5] rfl)
        · replace hf := ite_t c5 hf
          refine lv_iload (pc := 35) hx hb dX5_worstAt_35 (lv_at hl 5 rfl) ?_
          refine lv_iload_n (pc := 37) hx hb dX5_worstAt_37 rfl (lv_at hl 1 rfl) ?_
          refine lv_iload (pc := 38) hx hb dX5_worstAt_38 (lv_at hl 6 rfl) ?_
          refine lv_ishr (pc := 40) hx hb dX5_worstAt_40 ?_
          refine lv_iconst (pc := 41) (v := 1) hx hb dX5_worstAt_41 (by decide) ?_
          refine lv_iand (pc := 42) hx hb dX5_worstAt_42 ?_
          refine lv_iconst (pc := 43) (v := 1) hx hb dX5_worstAt_43 (by decide) ?_
          refine lv_icmp_ne (pc := 44) (tgt := 78) hx hb dX5_worstAt_44 (by decide) (fun c6 => ?_) (fun c6 => ?_)
          · replace hf := ite_f c6 hf
            exact L78 (k5) hk5 (fX5_worstAt_L18 lastBy k5 n) ih x1 x2 x3 x4 x6 x5 _ _ _ hf hX (lv_sub hl [0, 1, 2, 3, 4, 6] rfl)
          · replace hf := ite_t c6 hf
            refine lv_aload_n (pc := 47) hx hb dX5_worstAt_47 rfl (lv_at hl 0 rfl) ?_
            refine x_getf (pc := 48) (Cn := RX5) (T := TX5) (N := 24) C hX 0 rfl rfl miX5_worstAt_X5 18 (by decide) mmX5_worstAt_1 rfl dX5_worstAt_48 ?_
            refine lv_bipush (pc := 51) (v := 41) hx hb dX5_worstAt_51 (by decide) ?_
            refine lv_iload (pc := 53) hx hb dX5_worstAt_53 (lv_at hl 4 rfl) ?_
            refine lv_imul (pc := 55) hx hb dX5_worstAt_55 ?_
            refine lv_iload_n (pc := 56) hx hb dX5_worstAt_56 rfl (lv_at hl 2 rfl) ?_
            refine lv_iadd (pc := 57) hx hb dX5_worstAt_57 ?_
            replace hf := chk_adv hf
            have i9 := hf.1
            replace hf := hf.2
            refine x_iald (pc := 58) C hX 1 0 rfl rfl i9 dX5_worstAt_58 ?_
            refine lv_aload_n (pc := 59) hx hb dX5_worstAt_59 rfl (lv_at hl 0 rfl) ?_
            refine x_getf (pc := 60) (Cn := RX5) (T := TX5) (N := 24) C hX 0 rfl rfl miX5_worstAt_X5 18 (by decide) mmX5_worstAt_1 rfl dX5_worstAt_60 ?_
            refine lv_bipush (pc := 63) (v := 41) hx hb dX5_worstAt_63 (by decide) ?_
            refine lv_iload (pc := 65) hx hb dX5_worstAt_65 (lv_at hl 6 rfl) ?_
            refine lv_imul (pc := 67) hx hb dX5_worstAt_67 ?_
            refine lv_iload_n (pc := 68) hx hb dX5_worstAt_68 rfl (lv_at hl 2 rfl) ?_
            refine lv_iadd (pc := 69) hx hb dX5_worstAt_69 ?_
            replace hf := chk_adv hf
            have i10 := hf.1
            replace hf := hf.2
            refine x_iald (pc := 70) C hX 1 0 rfl rfl i10 dX5_worstAt_70 ?_
            refine lv_icmp_ne (pc := 71) (tgt := 78) hx hb dX5_worstAt_71 (by decide) (fun c11 => ?_) (fun c11 => ?_)
            · replace hf := ite_f c11 hf
              exact L78 (k5) hk5 (fX5_worstAt_L18 lastBy k5 n) ih x1 x2 x3 x4 x6 x5 _ _ _ hf hX (lv_sub hl [0, 1, 2, 3, 4, 6] rfl)
            · replace hf := ite_t c11 hf
              refine lv_iconst (pc := 74) (v := 1) hx hb dX5_worstAt_74 (by decide) ?_
              refine lv_goto (pc := 75) (tgt := 79) hx hb dX5_worstAt_75 (by decide) ?_
              exact L79 (k5) hk5 (fX5_worstAt_L18 lastBy k5 n) ih x1 x2 x3 x4 x6 x5 (1 : Int32) _ _ _ hf hX (lv_sub hl [0, 1, 2, 3, 4, 6] rfl)
  have L5 : ∀ (n : Nat), ∀ (x1 : Int32) (x2 : Int32) (x3 : Int32) (x4 : Int32) (H : Heap) (locs : List Loc) (ls : Array Slot), fX5_worstAt_L5 lastBy n x1 x2 x3 x4 = some r0 → xSt A s D [(h0, .inr (5, [.ref h_state, .ref h_readPage, .ref h_tape, .int taped, .int fault, .int broken, .int brokenAt, .int spot, .int here, .int token, .int value, .ref h_ends, .ref h_letters, .int moved, .int turned, .int worst, .ref h_seen, .int seenMany, .ref h_lastBy, .ref h_isKept, .ref h_lanes, .ref h_lengths, .ref h_cells, .int torn])), (h_lastBy, .inl (cI, 410, .inl lastBy))] H locs → lv_has ls 7 [(0, .ref h0), (1, .int x1), (2, .int x2), (3, .int x3), (4, .int x4)] → W p l e ({ frames := 0, cells := 0, slots := 0, locals := 0 } : Room) s m args below meth c H locs 0 0 Q (F0 m 5 ls []) := by
    intro n
    induction n with
    | zero =>
      intro x1 x2 x3 x4 H locs ls hf
      rw [fX5_worstAt_L5] at hf
      cases hf
    | succ n ih =>
      intro x1 x2 x3 x4 H locs ls hf hX hl
      rw [fX5_worstAt_L5] at hf
      refine lv_iload (pc := 5) hx hb dX5_worstAt_5 (lv_at hl 4 rfl) ?_
      refine lv_bipush (pc := 7) (v := 9) hx hb dX5_worstAt_7 (by decide) ?_
      refine lv_icmp_gt (pc := 9) (tgt := 107) hx hb dX5_worstAt_9 (by decide) (fun c1 => ?_) (fun c1 => ?_)
      · replace hf := ite_t c1 hf
        refine lv_iload_n (pc := 107) hx hb dX5_worstAt_107 rfl (lv_at hl 3 rfl) ?_
        obtain ⟨rfl⟩ := re1 hf
        exact hret _ _ _ _ _ rfl rfl hX dX5_worstAt_108
      · replace hf := ite_f c1 hf
        refine lv_iconst (pc := 12) (v := 0) hx hb dX5_worstAt_12 (by decide) ?_
        refine lv_istore (pc := 13) (lv' := [(5, .int (0 : Int32)), (0, .ref h0), (1, .int x1), (2, .int x2), (3, .int x3), (4, .int x4)]) hx hb dX5_worstAt_13 hl (by decide) rfl (fun ls hl => ?_)
        refine lv_iconst (pc := 15) (v := 0) hx hb dX5_worstAt_15 (by decide) ?_
        refine lv_istore (pc := 16) (lv' := [(6, .int (0 : Int32)), (5, .int (0 : Int32)), (0, .ref h0), (1, .int x1), (2, .int x2), (3, .int x3), (4, .int x4)]) hx hb dX5_worstAt_16 hl (by decide) rfl (fun ls hl => ?_)
        exact L18 (fX5_worstAt_L5 lastBy n) ih xF x1 x2 x3 x4 (0 : Int32) (0 : Int32) _ _ _ hf hX (lv_sub hl [2, 3, 4, 5, 6, 1, 0] rfl)
  unfold fX5_worstAt at hf
  refine lv_iconst (pc := 0) (v := 0) hx hb dX5_worstAt_0 (by decide) ?_
  refine lv_istore_n (pc := 1) (lv' := [(3, .int (0 : Int32)), (0, .ref h0), (1, .int p1), (2, .int p2)]) hx hb dX5_worstAt_1 rfl hl (by decide) rfl (fun ls hl => ?_)
  refine lv_iconst (pc := 2) (v := 0) hx hb dX5_worstAt_2 (by decide) ?_
  refine lv_istore (pc := 3) (lv' := [(4, .int (0 : Int32)), (3, .int (0 : Int32)), (0, .ref h0), (1, .int p1), (2, .int p2)]) hx hb dX5_worstAt_3 hl (by decide) rfl (fun ls hl => ?_)
  exact L5  xF p1 p2 (0 : Int32) (0 : Int32) _ _ _ hf hX (lv_sub hl [2, 3, 4, 1, 0] rfl)
set_option maxHeartbeats 4000000 in
set_option maxRecDepth 100000 in
theorem kX5_ask (ad : xAd) (l : Launch) (D : va_G) (cI cB cZ cG cS : ClassId) (h0 h_state h_readPage h_tape h_ends h_letters h_seen h_lastBy h_isKept h_lanes h_lengths h_cells : Nat) (taped : Int32) (fault : Int32) (broken : Int32) (brokenAt : Int32) (spot : Int32) (here : Int32) (token : Int32) (value : Int32) (moved : Int32) (turned : Int32) (worst : Int32) (seenMany : Int32) (torn : Int32) (state : (Nat → Int32)) (seen : (Nat → Int32)) (lastBy : (Nat → Int32)) (r0 : Int32) (o_moved' : Int32) (o_turned' : Int32) (o_state' : (Nat → Int32)) (o_lastBy' : (Nat → Int32)) (p1 : Int32) (p2 : Int32) (hf : fX5_ask p1 p2 moved turned seenMany state seen lastBy = some (r0, o_moved', o_turned', o_state', o_lastBy')) : xMi ad l yX5_ask wsX5_ask ({ frames := 7, cells := 0, slots := 0, locals := 168 } : Room) D (xTY cI cB cZ cG cS) [.ref h0, .int p1, .int p2] [(h0, .inr (5, [.ref h_state, .ref h_readPage, .ref h_tape, .int taped, .int fault, .int broken, .int brokenAt, .int spot, .int here, .int token, .int value, .ref h_ends, .ref h_letters, .int moved, .int turned, .int worst, .ref h_seen, .int seenMany, .ref h_lastBy, .ref h_isKept, .ref h_lanes, .ref h_lengths, .ref h_cells, .int torn])), (h_state, .inl (cI, 240, .inl state)), (h_seen, .inl (cI, 18, .inl seen)), (h_lastBy, .inl (cI, 410, .inl lastBy))] [(h0, .inr (5, [.ref h_state, .ref h_readPage, .ref h_tape, .int taped, .int fault, .int broken, .int brokenAt, .int spot, .int here, .int token, .int value, .ref h_ends, .ref h_letters, .int o_moved', .int o_turned', .int worst, .ref h_seen, .int seenMany, .ref h_lastBy, .ref h_isKept, .ref h_lanes, .ref h_lengths, .ref h_cells, .int torn])), (h_state, .inl (cI, 240, .inl o_state')), (h_seen, .inl (cI, 18, .inl seen)), (h_lastBy, .inl (cI, 410, .inl o_lastBy'))] r0 := by
  refine xMi_of (cc := cX5_ask) (maxL := 8) (ty := .int) (by decide) rfl (Nat.le_of_ble_eq_true rfl) ?_
  intro p e s m args below meth c A Q ls C hX hl hret
  have hx := C.1.1
  have hb := C.1.2.1
  have hl : lv_has ls 8 [(0, .ref h0), (1, .int p1), (2, .int p2)] := hl
  have L113 : ∀ (k67 : Int32 → Int32 → Int32 → Int32 → Int32 → Int32 → Int32 → (Nat → Int32) → (Nat → Int32) → Option (Int32 × Int32 × Int32 × (Nat → Int32) × (Nat → Int32))) (hk67 : ∀ (x2 : Int32) (x3 : Int32) (x4 : Int32) (x5 : Int32) (x6 : Int32) (moved : Int32) (turned : Int32) (state : (Nat → Int32)) (lastBy : (Nat → Int32)) (H : Heap) (locs : List Loc) (ls : Array Slot), k67 x2 x3 x4 x5 x6 moved turned state lastBy = some (r0, o_moved', o_turned', o_state', o_lastBy') → xSt A s D [(h0, .inr (5, [.ref h_state, .ref h_readPage, .ref h_tape, .int taped, .int fault, .int broken, .int brokenAt, .int spot, .int here, .int token, .int value, .ref h_ends, .ref h_letters, .int moved, .int turned, .int worst, .ref h_seen, .int seenMany, .ref h_lastBy, .ref h_isKept, .ref h_lanes, .ref h_lengths, .ref h_cells, .int torn])), (h_state, .inl (cI, 240, .inl state)), (h_seen, .inl (cI, 18, .inl seen)), (h_lastBy, .inl (cI, 410, .inl lastBy))] H locs → lv_has ls 8 [(0, .ref h0), (2, .int x2), (3, .int x3), (4, .int x4), (5, .int x5), (6, .int x6)] → W p l e ({ frames := 7, cells := 0, slots := 0, locals := 168 } : Room) s m args below meth c H locs 0 0 Q (F0 m 67 ls [])), ∀ (x2 : Int32) (x3 : Int32) (x5 : Int32) (x6 : Int32) (y0 : Int32) (moved : Int32) (turned : Int32) (state : (Nat → Int32)) (lastBy : (Nat → Int32)) (H : Heap) (locs : List Loc) (ls : Array Slot), fX5_ask_L113 seenMany seen k67 x2 x3 x5 x6 y0 moved turned state lastBy = some (r0, o_moved', o_turned', o_state', o_lastBy') → xSt A s D [(h0, .inr (5, [.ref h_state, .ref h_readPage, .ref h_tape, .int taped, .int fault, .int broken, .int brokenAt, .int spot, .int here, .int token, .int value, .ref h_ends, .ref h_letters, .int moved, .int turned, .int worst, .ref h_seen, .int seenMany, .ref h_lastBy, .ref h_isKept, .ref h_lanes, .ref h_lengths, .ref h_cells, .int torn])), (h_state, .inl (cI, 240, .inl state)), (h_seen, .inl (cI, 18, .inl seen)), (h_lastBy, .inl (cI, 410, .inl lastBy))] H locs → lv_has ls 8 [(0, .ref h0), (2, .int x2), (3, .int x3), (5, .int x5), (6, .int x6)] → W p l e ({ frames := 7, cells := 0, slots := 0, locals := 168 } : Room) s m args below meth c H locs 0 0 Q (F0 m 113 ls [.int y0]) := by
    intro k67 hk67 x2 x3 x5 x6 y0 moved turned state lastBy H locs ls hf hX hl
    unfold fX5_ask_L113 at hf
    refine lv_istore (pc := 113) (lv' := [(4, .int y0), (0, .ref h0), (2, .int x2), (3, .int x3), (5, .int x5), (6, .int x6)]) hx hb dX5_ask_113 hl (by decide) rfl (fun ls hl => ?_)
    obtain ⟨v21, ev21⟩ : ∃ y : Int32, y = (x6 + (1 : Int32)) := ⟨_, rfl⟩
    replace hf := bnd_use ev21 hf
    refine lv_iinc (pc := 115) (v := v21) (lv' := [(6, .int v21), (4, .int y0), (0, .ref h0), (2, .int x2), (3, .int x3), (5, .int x5)]) hx hb dX5_ask_115 hl (k := 5) rfl (by rw [ev21]; rfl) (by decide) rfl (fun ls hl => ?_)
    refine lv_goto (pc := 118) (tgt := 67) hx hb dX5_ask_118 (by decide) ?_
    exact hk67 x2 x3 y0 x5 v21 moved turned state lastBy _ _ _ hf hX (lv_sub hl [2, 3, 4, 1, 5, 0] rfl)
  have L97 : ∀ (k67 : Int32 → Int32 → Int32 → Int32 → Int32 → Int32 → Int32 → (Nat → Int32) → (Nat → Int32) → Option (Int32 × Int32 × Int32 × (Nat → Int32) × (Nat → Int32))) (hk67 : ∀ (x2 : Int32) (x3 : Int32) (x4 : Int32) (x5 : Int32) (x6 : Int32) (moved : Int32) (turned : Int32) (state : (Nat → Int32)) (lastBy : (Nat → Int32)) (H : Heap) (locs : List Loc) (ls : Array Slot), k67 x2 x3 x4 x5 x6 moved turned state lastBy = some (r0, o_moved', o_turned', o_state', o_lastBy') → xSt A s D [(h0, .inr (5, [.ref h_state, .ref h_readPage, .ref h_tape, .int taped, .int fault, .int broken, .int brokenAt, .int spot, .int here, .int token, .int value, .ref h_ends, .ref h_letters, .int moved, .int turned, .int worst, .ref h_seen, .int seenMany, .ref h_lastBy, .ref h_isKept, .ref h_lanes, .ref h_lengths, .ref h_cells, .int torn])), (h_state, .inl (cI, 240, .inl state)), (h_seen, .inl (cI, 18, .inl seen)), (h_lastBy, .inl (cI, 410, .inl lastBy))] H locs → lv_has ls 8 [(0, .ref h0), (2, .int x2), (3, .int x3), (4, .int x4), (5, .int x5), (6, .int x6)] → W p l e ({ frames := 7, cells := 0, slots := 0, locals := 168 } : Room) s m args below meth c H locs 0 0 Q (F0 m 67 ls [])), ∀ (x2 : Int32) (x3 : Int32) (x4 : Int32) (x6 : Int32) (x7 : Int32) (y0 : Int32) (moved : Int32) (turned : Int32) (state : (Nat → Int32)) (lastBy : (Nat → Int32)) (H : Heap) (locs : List Loc) (ls : Array Slot), fX5_ask_L97 seenMany seen k67 x2 x3 x4 x6 x7 y0 moved turned state lastBy = some (r0, o_moved', o_turned', o_state', o_lastBy') → xSt A s D [(h0, .inr (5, [.ref h_state, .ref h_readPage, .ref h_tape, .int taped, .int fault, .int broken, .int brokenAt, .int spot, .int here, .int token, .int value, .ref h_ends, .ref h_letters, .int moved, .int turned, .int worst, .ref h_seen, .int seenMany, .ref h_lastBy, .ref h_isKept, .ref h_lanes, .ref h_lengths, .ref h_cells, .int torn])), (h_state, .inl (cI, 240, .inl state)), (h_seen, .inl (cI, 18, .inl seen)), (h_lastBy, .inl (cI, 410, .inl lastBy))] H locs → lv_has ls 8 [(0, .ref h0), (2, .int x2), (3, .int x3), (4, .int x4), (6, .int x6), (7, .int x7)] → W p l e ({ frames := 7, cells := 0, slots := 0, locals := 168 } : Room) s m args below meth c H locs 0 0 Q (F0 m 97 ls [.int y0]) := by
    intro k67 hk67 x2 x3 x4 x6 x7 y0 moved turned state lastBy H locs ls hf hX hl
    unfold fX5_ask_L97 at hf
    refine lv_istore (pc := 97) (lv' := [(5, .int y0), (0, .ref h0), (2, .int x2), (3, .int x3), (4, .int x4), (6, .int x6), (7, .int x7)]) hx hb dX5_ask_97 hl (by decide) rfl (fun ls hl => ?_)
    refine lv_iload (pc := 99) hx hb dX5_ask_99 (lv_at hl 6 rfl) ?_
    refine lv_iload (pc := 101) hx hb dX5_ask_101 (lv_at hl 4 rfl) ?_
    refine lv_icmp_ge (pc := 103) (tgt := 111) hx hb dX5_ask_103 (by decide) (fun c20 => ?_) (fun c20 => ?_)
    · replace hf := ite_t c20 hf
      refine lv_iload (pc := 111) hx hb dX5_ask_111 (lv_at hl 4 rfl) ?_
      exact L113 (k67) hk67 x2 x3 y0 x6 x4 moved turned state lastBy _ _ _ hf hX (lv_sub hl [1, 2, 3, 0, 5] rfl)
    · replace hf := ite_f c20 hf
      refine lv_iload (pc := 106) hx hb dX5_ask_106 (lv_at hl 6 rfl) ?_
      refine lv_goto (pc := 108) (tgt := 113) hx hb dX5_ask_108 (by decide) ?_
      exact L113 (k67) hk67 x2 x3 y0 x6 x7 moved turned state lastBy _ _ _ hf hX (lv_sub hl [1, 2, 3, 0, 5] rfl)
  have L67 : ∀ (n : Nat), ∀ (x2 : Int32) (x3 : Int32) (x4 : Int32) (x5 : Int32) (x6 : Int32) (moved : Int32) (turned : Int32) (state : (Nat → Int32)) (lastBy : (Nat → Int32)) (H : Heap) (locs : List Loc) (ls : Array Slot), fX5_ask_L67 seenMany seen n x2 x3 x4 x5 x6 moved turned state lastBy = some (r0, o_moved', o_turned', o_state', o_lastBy') → xSt A s D [(h0, .inr (5, [.ref h_state, .ref h_readPage, .ref h_tape, .int taped, .int fault, .int broken, .int brokenAt, .int spot, .int here, .int token, .int value, .ref h_ends, .ref h_letters, .int moved, .int turned, .int worst, .ref h_seen, .int seenMany, .ref h_lastBy, .ref h_isKept, .ref h_lanes, .ref h_lengths, .ref h_cells, .int torn])), (h_state, .inl (cI, 240, .inl state)), (h_seen, .inl (cI, 18, .inl seen)), (h_lastBy, .inl (cI, 410, .inl lastBy))] H locs → lv_has ls 8 [(0, .ref h0), (2, .int x2), (3, .int x3), (4, .int x4), (5, .int x5), (6, .int x6)] → W p l e ({ frames := 7, cells := 0, slots := 0, locals := 168 } : Room) s m args below meth c H locs 0 0 Q (F0 m 67 ls []) := by
    intro n
    induction n with
    | zero =>
      intro x2 x3 x4 x5 x6 moved turned state lastBy H locs ls hf
      rw [fX5_ask_L67] at hf
      cases hf
    | succ n ih =>
      intro x2 x3 x4 x5 x6 moved turned state lastBy H locs ls hf hX hl
      rw [fX5_ask_L67] at hf
      refine lv_iload (pc := 67) hx hb dX5_ask_67 (lv_at hl 5 rfl) ?_
      refine lv_bipush (pc := 69) (v := 40) hx hb dX5_ask_69 (by decide) ?_
      refine lv_icmp_gt (pc := 71) (tgt := 121) hx hb dX5_ask_71 (by decide) (fun c14 => ?_) (fun c14 => ?_)
      · replace hf := ite_t c14 hf
        refine lv_iload (pc := 121) hx hb dX5_ask_121 (lv_at hl 4 rfl) ?_
        refine lv_bipush (pc := 123) (v := -4) hx hb dX5_ask_123 (by decide) ?_
        refine lv_icmp_eq (pc := 125) (tgt := 132) hx hb dX5_ask_125 (by decide) (fun c15 => ?_) (fun c15 => ?_)
        · replace hf := ite_t c15 hf
          refine lv_iload (pc := 132) hx hb dX5_ask_132 (lv_at hl 4 rfl) ?_
          refine lv_goto (pc := 134) (tgt := 139) hx hb dX5_ask_134 (by decide) ?_
          obtain ⟨rfl, rfl, rfl, rfl, rfl⟩ := re5 hf
          exact hret _ _ _ _ _ rfl rfl hX dX5_ask_139
        · replace hf := ite_f c15 hf
          refine lv_iload_n (pc := 128) hx hb dX5_ask_128 rfl (lv_at hl 1 rfl) ?_
          refine lv_if_ne (pc := 129) (tgt := 137) hx hb dX5_ask_129 (by decide) (fun c16 => ?_) (fun c16 => ?_)
          · replace hf := ite_f c16 hf
            refine lv_iload (pc := 137) hx hb dX5_ask_137 (lv_at hl 3 rfl) ?_
            obtain ⟨rfl, rfl, rfl, rfl, rfl⟩ := re5 hf
            exact hret _ _ _ _ _ rfl rfl hX dX5_ask_139
          · replace hf := ite_t c16 hf
            refine lv_iload (pc := 132) hx hb dX5_ask_132 (lv_at hl 4 rfl) ?_
            refine lv_goto (pc := 134) (tgt := 139) hx hb dX5_ask_134 (by decide) ?_
            obtain ⟨rfl, rfl, rfl, rfl, rfl⟩ := re5 hf
            exact hret _ _ _ _ _ rfl rfl hX dX5_ask_139
      · replace hf := ite_f c14 hf
        refine lv_aload_n (pc := 74) hx hb dX5_ask_74 rfl (lv_at hl 0 rfl) ?_
        refine lv_iload_n (pc := 75) hx hb dX5_ask_75 rfl (lv_at hl 2 rfl) ?_
        refine lv_iload (pc := 76) hx hb dX5_ask_76 (lv_at hl 5 rfl) ?_
        obtain ⟨r17, g18, hf⟩ := cl1_adv hf
        refine x_callVi (pc := 78) (rest := []) (w2 := [(h0, .inr (5, [.ref h_state, .ref h_readPage, .ref h_tape, .int taped, .int fault, .int broken, .int brokenAt, .int spot, .int here, .int token, .int value, .ref h_ends, .ref h_letters, .int moved, .int turned, .int worst, .ref h_seen, .int seenMany, .ref h_lastBy, .ref h_isKept, .ref h_lanes, .ref h_lengths, .ref h_cells, .int torn])), (h_state, .inl (cI, 240, .inl state)), (h_seen, .inl (cI, 18, .inl seen)), (h_lastBy, .inl (cI, 410, .inl lastBy))]) C hX (kX5_worstAt ad l D cI cB cZ cG cS h0 h_state h_readPage h_tape h_ends h_letters h_seen h_lastBy h_isKept h_lanes h_lengths h_cells taped fault broken brokenAt spot here token value moved turned worst seenMany torn lastBy r17 x3 x6 g18) (cwV 2 C.1.2.2.2.2 gX5_ask_X5_worstAt rfl rfl rfl (by decide +kernel) ⟨Nat.le_of_ble_eq_true rfl, Nat.le_of_ble_eq_true rfl⟩) [0, 3] [1, 2] [2, 0, 1, 3] rfl rfl rfl rfl (by decide) rfl rfl 0 rfl rfl rfl hl.1 rfl rfl (Nat.le_of_ble_eq_true rfl) dX5_ask_78 (fun H locs hX => ?_)
        refine lv_istore (pc := 81) (lv' := [(7, .int r17), (0, .ref h0), (2, .int x2), (3, .int x3), (4, .int x4), (5, .int x5), (6, .int x6)]) hx hb dX5_ask_81 hl (by decide) rfl (fun ls hl => ?_)
        refine lv_iload (pc := 83) hx hb dX5_ask_83 (lv_at hl 0 rfl) ?_
        refine lv_iload (pc := 85) hx hb dX5_ask_85 (lv_at hl 4 rfl) ?_
        refine lv_icmp_ge (pc := 87) (tgt := 95) hx hb dX5_ask_87 (by decide) (fun c19 => ?_) (fun c19 => ?_)
        · replace hf := ite_t c19 hf
          refine lv_iload (pc := 95) hx hb dX5_ask_95 (lv_at hl 5 rfl) ?_
          exact L97 (fX5_ask_L67 seenMany seen n) ih x2 x3 x4 x6 r17 x5 moved turned state lastBy _ _ _ hf hX (lv_sub hl [1, 2, 3, 4, 6, 0] rfl)
        · replace hf := ite_f c19 hf
          refine lv_iload (pc := 90) hx hb dX5_ask_90 (lv_at hl 6 rfl) ?_
          refine lv_goto (pc := 92) (tgt := 97) hx hb dX5_ask_92 (by decide) ?_
          exact L97 (fX5_ask_L67 seenMany seen n) ih x2 x3 x4 x6 r17 x6 moved turned state lastBy _ _ _ hf hX (lv_sub hl [1, 2, 3, 4, 6, 0] rfl)
  have L36 : ∀ (n : Nat), ∀ (x2 : Int32) (x3 : Int32) (x4 : Int32) (x5 : Int32) (moved : Int32) (turned : Int32) (state : (Nat → Int32)) (lastBy : (Nat → Int32)) (H : Heap) (locs : List Loc) (ls : Array Slot), fX5_ask_L36 seenMany seen n x2 x3 x4 x5 moved turned state lastBy = some (r0, o_moved', o_turned', o_state', o_lastBy') → xSt A s D [(h0, .inr (5, [.ref h_state, .ref h_readPage, .ref h_tape, .int taped, .int fault, .int broken, .int brokenAt, .int spot, .int here, .int token, .int value, .ref h_ends, .ref h_letters, .int moved, .int turned, .int worst, .ref h_seen, .int seenMany, .ref h_lastBy, .ref h_isKept, .ref h_lanes, .ref h_lengths, .ref h_cells, .int torn])), (h_state, .inl (cI, 240, .inl state)), (h_seen, .inl (cI, 18, .inl seen)), (h_lastBy, .inl (cI, 410, .inl lastBy))] H locs → lv_has ls 8 [(0, .ref h0), (2, .int x2), (3, .int x3), (4, .int x4), (5, .int x5)] → W p l e ({ frames := 7, cells := 0, slots := 0, locals := 168 } : Room) s m args below meth c H locs 0 0 Q (F0 m 36 ls []) := by
    intro n
    induction n with
    | zero =>
      intro x2 x3 x4 x5 moved turned state lastBy H locs ls hf
      rw [fX5_ask_L36] at hf
      cases hf
    | succ n ih =>
      intro x2 x3 x4 x5 moved turned state lastBy H locs ls hf hX hl
      rw [fX5_ask_L36] at hf
      refine lv_iload (pc := 36) hx hb dX5_ask_36 (lv_at hl 4 rfl) ?_
      refine lv_bipush (pc := 38) (v := 9) hx hb dX5_ask_38 (by decide) ?_
      refine lv_icmp_gt (pc := 40) (tgt := 60) hx hb dX5_ask_40 (by decide) (fun c13 => ?_) (fun c13 => ?_)
      · replace hf := ite_t c13 hf
        refine lv_bipush (pc := 60) (v := -4) hx hb dX5_ask_60 (by decide) ?_
        refine lv_istore (pc := 62) (lv' := [(5, .int (-4 : Int32)), (0, .ref h0), (2, .int x2), (3, .int x3), (4, .int x4)]) hx hb dX5_ask_62 hl (by decide) rfl (fun ls hl => ?_)
        refine lv_iconst (pc := 64) (v := 0) hx hb dX5_ask_64 (by decide) ?_
        refine lv_istore (pc := 65) (lv' := [(6, .int (0 : Int32)), (5, .int (-4 : Int32)), (0, .ref h0), (2, .int x2), (3, .int x3), (4, .int x4)]) hx hb dX5_ask_65 hl (by decide) rfl (fun ls hl => ?_)
        exact L67  xF x2 x3 x4 (-4 : Int32) (0 : Int32) moved turned state lastBy _ _ _ hf hX (lv_sub hl [2, 3, 4, 5, 1, 0] rfl)
      · replace hf := ite_f c13 hf
        refine lv_iload (pc := 43) hx hb dX5_ask_43 (lv_at hl 3 rfl) ?_
        refine lv_iload_n (pc := 45) hx hb dX5_ask_45 rfl (lv_at hl 2 rfl) ?_
        refine lv_iload (pc := 46) hx hb dX5_ask_46 (lv_at hl 4 rfl) ?_
        refine lv_ishr (pc := 48) hx hb dX5_ask_48 ?_
        refine lv_iconst (pc := 49) (v := 1) hx hb dX5_ask_49 (by decide) ?_
        refine lv_iand (pc := 50) hx hb dX5_ask_50 ?_
        refine lv_iadd (pc := 51) hx hb dX5_ask_51 ?_
        refine lv_topi (fun v22 ev22 => ?_)
        replace hf := bnd_use ev22 hf
        refine lv_istore (pc := 52) (lv' := [(4, .int v22), (0, .ref h0), (2, .int x2), (3, .int x3), (5, .int x5)]) hx hb dX5_ask_52 hl (by decide) rfl (fun ls hl => ?_)
        obtain ⟨v23, ev23⟩ : ∃ y : Int32, y = (x5 + (1 : Int32)) := ⟨_, rfl⟩
        replace hf := bnd_use ev23 hf
        refine lv_iinc (pc := 54) (v := v23) (lv' := [(5, .int v23), (4, .int v22), (0, .ref h0), (2, .int x2), (3, .int x3)]) hx hb dX5_ask_54 hl (k := 4) rfl (by rw [ev23]; rfl) (by decide) rfl (fun ls hl => ?_)
        refine lv_goto (pc := 57) (tgt := 36) hx hb dX5_ask_57 (by decide) ?_
        exact ih x2 x3 v22 v23 moved turned state lastBy _ _ _ hf hX (lv_sub hl [2, 3, 4, 1, 0] rfl)
  unfold fX5_ask at hf
  refine lv_aload_n (pc := 0) hx hb dX5_ask_0 rfl (lv_at hl 0 rfl) ?_
  refine lv_iload_n (pc := 1) hx hb dX5_ask_1 rfl (lv_at hl 1 rfl) ?_
  obtain ⟨r1, g2, hf⟩ := cl1_adv hf
  refine x_callVi (pc := 2) (rest := []) (w2 := [(h0, .inr (5, [.ref h_state, .ref h_readPage, .ref h_tape, .int taped, .int fault, .int broken, .int brokenAt, .int spot, .int here, .int token, .int value, .ref h_ends, .ref h_letters, .int moved, .int turned, .int worst, .ref h_seen, .int seenMany, .ref h_lastBy, .ref h_isKept, .ref h_lanes, .ref h_lengths, .ref h_cells, .int torn])), (h_state, .inl (cI, 240, .inl state)), (h_seen, .inl (cI, 18, .inl seen)), (h_lastBy, .inl (cI, 410, .inl lastBy))]) C hX (kX5_isArm ad l D cI cB cZ cG cS h0 h_state h_readPage h_tape h_ends h_letters h_seen h_lastBy h_isKept h_lanes h_lengths h_cells taped fault broken brokenAt spot here token value moved turned worst seenMany torn state r1 p1 g2) (cwV 1 C.1.2.2.2.2 gX5_ask_X5_isArm rfl rfl rfl (by decide +kernel) ⟨Nat.le_of_ble_eq_true rfl, Nat.le_of_ble_eq_true rfl⟩) [0, 1] [2, 3] [2, 3, 0, 1] rfl rfl rfl rfl (by decide) rfl rfl 0 rfl rfl rfl hl.1 rfl rfl (Nat.le_of_ble_eq_true rfl) dX5_ask_2 (fun H locs hX => ?_)
  refine lv_if_eq (pc := 5) (tgt := 18) hx hb dX5_ask_5 (by decide) (fun c3 => ?_) (fun c3 => ?_)
  · replace hf := ite_t c3 hf
    refine lv_iconst (pc := 18) (v := -1) hx hb dX5_ask_18 (by decide) ?_
    obtain ⟨rfl, rfl, rfl, rfl, rfl⟩ := re5 hf
    exact hret _ _ _ _ _ rfl rfl hX dX5_ask_19
  · replace hf := ite_f c3 hf
    refine lv_iload_n (pc := 8) hx hb dX5_ask_8 rfl (lv_at hl 2 rfl) ?_
    refine lv_i2l (pc := 9) (v := ((p2).toInt64)) hx hb dX5_ask_9 rfl ?_
    refine lv_lconst (pc := 10) (v := 0) hx hb dX5_ask_10 (by decide) ?_
    refine lv_lconst (pc := 11) (v := 1) hx hb dX5_ask_11 (by decide) ?_
    obtain ⟨r4, g5, hf⟩ := cl1_adv hf
    refine x_callSi (pc := 12) (rest := []) C hX (kX5_in ad l D cI cB cZ cG cS r4 ((p2).toInt64) (0 : Int64) (1 : Int64) g5) (va_cwS 3 C.1.2.2.2.2 gX5_ask_X5_in rfl rfl rfl (by decide +kernel) ⟨Nat.le_of_ble_eq_true rfl, Nat.le_of_ble_eq_true rfl⟩) hl.1 rfl rfl (Nat.le_of_ble_eq_true rfl) dX5_ask_12 (fun H locs hX => ?_)
    refine lv_if_ne (pc := 15) (tgt := 20) hx hb dX5_ask_15 (by decide) (fun c6 => ?_) (fun c6 => ?_)
    · replace hf := ite_f c6 hf
      refine lv_aload_n (pc := 20) hx hb dX5_ask_20 rfl (lv_at hl 0 rfl) ?_
      refine lv_iconst (pc := 21) (v := 4) hx hb dX5_ask_21 (by decide) ?_
      refine lv_iload_n (pc := 22) hx hb dX5_ask_22 rfl (lv_at hl 1 rfl) ?_
      refine lv_iadd (pc := 23) hx hb dX5_ask_23 ?_
      refine lv_bipush (pc := 24) (v := 10) hx hb dX5_ask_24 (by decide) ?_
      obtain ⟨r7, u8, u9, u10, u11, g12, hf⟩ := cl5_adv hf
      refine x_callVi (pc := 26) (rest := []) (w2 := [(h0, .inr (5, [.ref h_state, .ref h_readPage, .ref h_tape, .int taped, .int fault, .int broken, .int brokenAt, .int spot, .int here, .int token, .int value, .ref h_ends, .ref h_letters, .int u8, .int u9, .int worst, .ref h_seen, .int seenMany, .ref h_lastBy, .ref h_isKept, .ref h_lanes, .ref h_lengths, .ref h_cells, .int torn])), (h_state, .inl (cI, 240, .inl u10)), (h_seen, .inl (cI, 18, .inl seen)), (h_lastBy, .inl (cI, 410, .inl u11))]) C hX (kX5_numbersAt ad l D cI cB cZ cG cS h0 h_state h_readPage h_tape h_ends h_letters h_seen h_lastBy h_isKept h_lanes h_lengths h_cells taped fault broken brokenAt spot here token value moved turned worst seenMany torn state seen lastBy r7 u8 u9 u10 u11 ((4 : Int32) + p1) (10 : Int32) g12) (cwV 2 C.1.2.2.2.2 gX5_ask_X5_numbersAt rfl rfl rfl (by decide +kernel) ⟨Nat.le_of_ble_eq_true rfl, Nat.le_of_ble_eq_true rfl⟩) [0, 1, 2, 3] [] [0, 1, 2, 3] rfl rfl rfl rfl (by decide) rfl rfl 0 rfl rfl rfl hl.1 rfl rfl (Nat.le_of_ble_eq_true rfl) dX5_ask_26 (fun H locs hX => ?_)
      refine lv_istore_n (pc := 29) (lv' := [(3, .int r7), (0, .ref h0), (1, .int p1), (2, .int p2)]) hx hb dX5_ask_29 rfl hl (by decide) rfl (fun ls hl => ?_)
      refine lv_iconst (pc := 30) (v := 0) hx hb dX5_ask_30 (by decide) ?_
      refine lv_istore (pc := 31) (lv' := [(4, .int (0 : Int32)), (3, .int r7), (0, .ref h0), (1, .int p1), (2, .int p2)]) hx hb dX5_ask_31 hl (by decide) rfl (fun ls hl => ?_)
      refine lv_iconst (pc := 33) (v := 0) hx hb dX5_ask_33 (by decide) ?_
      refine lv_istore (pc := 34) (lv' := [(5, .int (0 : Int32)), (4, .int (0 : Int32)), (3, .int r7), (0, .ref h0), (1, .int p1), (2, .int p2)]) hx hb dX5_ask_34 hl (by decide) rfl (fun ls hl => ?_)
      exact L36  xF p2 r7 (0 : Int32) (0 : Int32) u8 u9 u10 u11 _ _ _ hf hX (lv_sub hl [3, 5, 2, 1, 0] rfl)
    · replace hf := ite_t c6 hf
      refine lv_iconst (pc := 18) (v := -1) hx hb dX5_ask_18 (by decide) ?_
      obtain ⟨rfl, rfl, rfl, rfl, rfl⟩ := re5 hf
      exact hret _ _ _ _ _ rfl rfl hX dX5_ask_19
theorem mmX5_drift_1 : Cond.constantLong RX5 113 (200) ∈ wsX5_drift := List.mem_of_getElem? (i := 1) rfl
theorem mmX5_drift_2 : Cond.fieldLink RX5 7 "SlackArmsModel" "state" "[I" ∈ wsX5_drift := List.mem_of_getElem? (i := 2) rfl
theorem miX5_drift_X5 : ∀ w ∈ u_ws RX5 TX5 24, w ∈ wsX5_drift := fun w h => List.mem_cons_of_mem _ (List.mem_append_right _ h)
theorem mmX5_drift_3 : Cond.fieldLink RX5 134 "SlackArmsModel" "moved" "I" ∈ wsX5_drift := List.mem_of_getElem? (i := 3) rfl
theorem mmX5_drift_4 : Cond.constant RX5 230 (1103515245) ∈ wsX5_drift := List.mem_of_getElem? (i := 4) rfl
set_option maxHeartbeats 4000000 in
set_option maxRecDepth 100000 in
theorem kX5_drift (ad : xAd) (l : Launch) (D : va_G) (cI cB cZ cG cS : ClassId) (h0 h_state h_readPage h_tape h_ends h_letters h_seen h_lastBy h_isKept h_lanes h_lengths h_cells : Nat) (taped : Int32) (fault : Int32) (broken : Int32) (brokenAt : Int32) (spot : Int32) (here : Int32) (token : Int32) (value : Int32) (moved : Int32) (turned : Int32) (worst : Int32) (seenMany : Int32) (torn : Int32) (state : (Nat → Int32)) (r0 : Int32) (o_moved' : Int32) (o_turned' : Int32) (o_state' : (Nat → Int32)) (p1 : Int32) (p2 : Int32) (p3 : Int32) (hf : fX5_drift p1 p2 p3 moved turned state = some (r0, o_moved', o_turned', o_state')) : xMi ad l yX5_drift wsX5_drift ({ frames := 4, cells := 0, slots := 0, locals := 94 } : Room) D (xTY cI cB cZ cG cS) [.ref h0, .int p1, .int p2, .int p3] [(h0, .inr (5, [.ref h_state, .ref h_readPage, .ref h_tape, .int taped, .int fault, .int broken, .int brokenAt, .int spot, .int here, .int token, .int value, .ref h_ends, .ref h_letters, .int moved, .int turned, .int worst, .ref h_seen, .int seenMany, .ref h_lastBy, .ref h_isKept, .ref h_lanes, .ref h_lengths, .ref h_cells, .int torn])), (h_state, .inl (cI, 240, .inl state))] [(h0, .inr (5, [.ref h_state, .ref h_readPage, .ref h_tape, .int taped, .int fault, .int broken, .int brokenAt, .int spot, .int here, .int token, .int value, .ref h_ends, .ref h_letters, .int o_moved', .int o_turned', .int worst, .ref h_seen, .int seenMany, .ref h_lastBy, .ref h_isKept, .ref h_lanes, .ref h_lengths, .ref h_cells, .int torn])), (h_state, .inl (cI, 240, .inl o_state'))] r0 := by
  refine xMi_of (cc := cX5_drift) (maxL := 6) (ty := .int) (by decide) rfl (Nat.le_of_ble_eq_true rfl) ?_
  intro p e s m args below meth c A Q ls C hX hl hret
  have hx := C.1.1
  have hb := C.1.2.1
  have hl : lv_has ls 6 [(0, .ref h0), (1, .int p1), (2, .int p2), (3, .int p3)] := hl
  have L56 : ∀ (n : Nat), ∀ (x2 : Int32) (x3 : Int32) (x4 : Int32) (x5 : Int32) (moved : Int32) (turned : Int32) (state : (Nat → Int32)) (H : Heap) (locs : List Loc) (ls : Array Slot), fX5_drift_L56  n x2 x3 x4 x5 moved turned state = some (r0, o_moved', o_turned', o_state') → xSt A s D [(h0, .inr (5, [.ref h_state, .ref h_readPage, .ref h_tape, .int taped, .int fault, .int broken, .int brokenAt, .int spot, .int here, .int token, .int value, .ref h_ends, .ref h_letters, .int moved, .int turned, .int worst, .ref h_seen, .int seenMany, .ref h_lastBy, .ref h_isKept, .ref h_lanes, .ref h_lengths, .ref h_cells, .int torn])), (h_state, .inl (cI, 240, .inl state))] H locs → lv_has ls 6 [(0, .ref h0), (2, .int x2), (3, .int x3), (4, .int x4), (5, .int x5)] → W p l e ({ frames := 4, cells := 0, slots := 0, locals := 94 } : Room) s m args below meth c H locs 0 0 Q (F0 m 56 ls []) := by
    intro n
    induction n with
    | zero =>
      intro x2 x3 x4 x5 moved turned state H locs ls hf
      rw [fX5_drift_L56] at hf
      cases hf
    | succ n ih =>
      intro x2 x3 x4 x5 moved turned state H locs ls hf hX hl
      rw [fX5_drift_L56] at hf
      refine lv_iload (pc := 56) hx hb dX5_drift_56 (lv_at hl 4 rfl) ?_
      refine lv_iload_n (pc := 58) hx hb dX5_drift_58 rfl (lv_at hl 1 rfl) ?_
      refine lv_icmp_ge (pc := 59) (tgt := 101) hx hb dX5_drift_59 (by decide) (fun c11 => ?_) (fun c11 => ?_)
      · replace hf := ite_t c11 hf
        refine lv_iload_n (pc := 101) hx hb dX5_drift_101 rfl (lv_at hl 2 rfl) ?_
        refine lv_if_ne (pc := 102) (tgt := 115) hx hb dX5_drift_102 (by decide) (fun c12 => ?_) (fun c12 => ?_)
        · replace hf := ite_f c12 hf
          refine lv_aload_n (pc := 115) hx hb dX5_drift_115 rfl (lv_at hl 0 rfl) ?_
          refine x_getf (pc := 116) (Cn := RX5) (T := TX5) (N := 24) C hX 0 rfl rfl miX5_drift_X5 13 (by decide) mmX5_drift_3 rfl dX5_drift_116 ?_
          obtain ⟨rfl, rfl, rfl, rfl⟩ := re4 hf
          exact hret _ _ _ _ _ rfl rfl hX dX5_drift_119
        · replace hf := ite_t c12 hf
          refine lv_aload_n (pc := 105) hx hb dX5_drift_105 rfl (lv_at hl 0 rfl) ?_
          refine lv_sipush (pc := 106) (v := 160) hx hb dX5_drift_106 (by decide) ?_
          obtain ⟨r13, g14, hf⟩ := cl1_adv hf
          refine x_callVi (pc := 109) (rest := []) (w2 := [(h0, .inr (5, [.ref h_state, .ref h_readPage, .ref h_tape, .int taped, .int fault, .int broken, .int brokenAt, .int spot, .int here, .int token, .int value, .ref h_ends, .ref h_letters, .int moved, .int turned, .int worst, .ref h_seen, .int seenMany, .ref h_lastBy, .ref h_isKept, .ref h_lanes, .ref h_lengths, .ref h_cells, .int torn])), (h_state, .inl (cI, 240, .inl state))]) C hX (kX5_errorOn ad l D cI cB cZ cG cS h0 h_state h_readPage h_tape h_ends h_letters h_seen h_lastBy h_isKept h_lanes h_lengths h_cells taped fault broken brokenAt spot here token value moved turned worst seenMany torn state r13 (160 : Int32) g14) (cwV 1 C.1.2.2.2.2 gX5_drift_X5_errorOn rfl rfl rfl (by decide +kernel) ⟨Nat.le_of_ble_eq_true rfl, Nat.le_of_ble_eq_true rfl⟩) [0, 1] [] [0, 1] rfl rfl rfl rfl (by decide) rfl rfl 0 rfl rfl rfl hl.1 rfl rfl (Nat.le_of_ble_eq_true rfl) dX5_drift_109 (fun H locs hX => ?_)
          refine lv_goto (pc := 112) (tgt := 119) hx hb dX5_drift_112 (by decide) ?_
          obtain ⟨rfl, rfl, rfl, rfl⟩ := re4 hf
          exact hret _ _ _ _ _ rfl rfl hX dX5_drift_119
      · replace hf := ite_f c11 hf
        refine lv_iload (pc := 62) hx hb dX5_drift_62 (lv_at hl 3 rfl) ?_
        refine lv_ldc (pc := 64) hx hb C.1.2.2.2.1 (C.1.2.2.2.2 _ mmX5_drift_4) dX5_drift_64 ?_
        refine lv_imul (pc := 66) hx hb dX5_drift_66 ?_
        refine lv_sipush (pc := 67) (v := 12345) hx hb dX5_drift_67 (by decide) ?_
        refine lv_iadd (pc := 70) hx hb dX5_drift_70 ?_
        refine lv_topi (fun v15 ev15 => ?_)
        replace hf := bnd_use ev15 hf
        refine lv_istore (pc := 71) (lv' := [(4, .int v15), (0, .ref h0), (2, .int x2), (3, .int x3), (5, .int x5)]) hx hb dX5_drift_71 hl (by decide) rfl (fun ls hl => ?_)
        refine lv_aload_n (pc := 73) hx hb dX5_drift_73 rfl (lv_at hl 1 rfl) ?_
        refine lv_sipush (pc := 74) (v := 160) hx hb dX5_drift_74 (by decide) ?_
        refine lv_iload (pc := 77) hx hb dX5_drift_77 (lv_at hl 0 rfl) ?_
        refine lv_bipush (pc := 79) (v := 16) hx hb dX5_drift_79 (by decide) ?_
        refine lv_ishr (pc := 81) hx hb dX5_drift_81 ?_
        refine lv_sipush (pc := 82) (v := 32767) hx hb dX5_drift_82 (by decide) ?_
        refine lv_iand (pc := 85) hx hb dX5_drift_85 ?_
        refine lv_bipush (pc := 86) (v := 19) hx hb dX5_drift_86 (by decide) ?_
        replace hf := chk_adv hf
        have i16 := hf.1
        replace hf := hf.2
        refine lv_irem (pc := 88) hx hb dX5_drift_88 i16 ?_
        refine lv_bipush (pc := 89) (v := 9) hx hb dX5_drift_89 (by decide) ?_
        refine lv_isub (pc := 91) hx hb dX5_drift_91 ?_
        obtain ⟨u17, u18, u19, g20, hf⟩ := cl3_adv hf
        refine x_callVv (pc := 92) (rest := []) (w2 := [(h0, .inr (5, [.ref h_state, .ref h_readPage, .ref h_tape, .int taped, .int fault, .int broken, .int brokenAt, .int spot, .int here, .int token, .int value, .ref h_ends, .ref h_letters, .int u17, .int u18, .int worst, .ref h_seen, .int seenMany, .ref h_lastBy, .ref h_isKept, .ref h_lanes, .ref h_lengths, .ref h_cells, .int torn])), (h_state, .inl (cI, 240, .inl u19))]) C hX (kX5_handOn ad l D cI cB cZ cG cS h0 h_state h_readPage h_tape h_ends h_letters h_seen h_lastBy h_isKept h_lanes h_lengths h_cells taped fault broken brokenAt spot here token value moved turned worst seenMany torn state u17 u18 u19 (160 : Int32) ((((v15 >>> ((16 : Int32) &&& 31)) &&& (32767 : Int32)) - ((v15 >>> ((16 : Int32) &&& 31)) &&& (32767 : Int32)) / (19 : Int32) * (19 : Int32)) - (9 : Int32)) g20) (cwV 2 C.1.2.2.2.2 gX5_drift_X5_handOn rfl rfl rfl (by decide +kernel) ⟨Nat.le_of_ble_eq_true rfl, Nat.le_of_ble_eq_true rfl⟩) [0, 1] [] [0, 1] rfl rfl rfl rfl (by decide) rfl rfl 0 rfl rfl rfl hl.1 rfl rfl (Nat.le_of_ble_eq_true rfl) dX5_drift_92 (fun H locs hX => ?_)
        obtain ⟨v21, ev21⟩ : ∃ y : Int32, y = (x5 + (1 : Int32)) := ⟨_, rfl⟩
        replace hf := bnd_use ev21 hf
        refine lv_iinc (pc := 95) (v := v21) (lv' := [(5, .int v21), (4, .int v15), (0, .ref h0), (2, .int x2), (3, .int x3)]) hx hb dX5_drift_95 hl (k := 4) rfl (by rw [ev21]; rfl) (by decide) rfl (fun ls hl => ?_)
        refine lv_goto (pc := 98) (tgt := 56) hx hb dX5_drift_98 (by decide) ?_
        exact ih x2 x3 v15 v21 u17 u18 u19 _ _ _ hf hX (lv_sub hl [2, 3, 4, 1, 0] rfl)
  unfold fX5_drift at hf
  refine lv_iload_n (pc := 0) hx hb dX5_drift_0 rfl (lv_at hl 2 rfl) ?_
  refine lv_i2l (pc := 1) (v := ((p2).toInt64)) hx hb dX5_drift_1 rfl ?_
  refine lv_lconst (pc := 2) (v := 1) hx hb dX5_drift_2 (by decide) ?_
  refine lv_ldc2 (pc := 3) hx hb C.1.2.2.2.1 (C.1.2.2.2.2 _ mmX5_drift_1) dX5_drift_3 ?_
  obtain ⟨r1, g2, hf⟩ := cl1_adv hf
  refine x_callSi (pc := 6) (rest := []) C hX (kX5_in ad l D cI cB cZ cG cS r1 ((p2).toInt64) (1 : Int64) (200 : Int64) g2) (va_cwS 3 C.1.2.2.2.2 gX5_drift_X5_in rfl rfl rfl (by decide +kernel) ⟨Nat.le_of_ble_eq_true rfl, Nat.le_of_ble_eq_true rfl⟩) hl.1 rfl rfl (Nat.le_of_ble_eq_true rfl) dX5_drift_6 (fun H locs hX => ?_)
  refine lv_if_eq (pc := 9) (tgt := 22) hx hb dX5_drift_9 (by decide) (fun c3 => ?_) (fun c3 => ?_)
  · replace hf := ite_t c3 hf
    refine lv_iconst (pc := 22) (v := -1) hx hb dX5_drift_22 (by decide) ?_
    obtain ⟨rfl, rfl, rfl, rfl⟩ := re4 hf
    exact hret _ _ _ _ _ rfl rfl hX dX5_drift_23
  · replace hf := ite_f c3 hf
    refine lv_iload_n (pc := 12) hx hb dX5_drift_12 rfl (lv_at hl 3 rfl) ?_
    refine lv_i2l (pc := 13) (v := ((p3).toInt64)) hx hb dX5_drift_13 rfl ?_
    refine lv_lconst (pc := 14) (v := 0) hx hb dX5_drift_14 (by decide) ?_
    refine lv_lconst (pc := 15) (v := 1) hx hb dX5_drift_15 (by decide) ?_
    obtain ⟨r4, g5, hf⟩ := cl1_adv hf
    refine x_callSi (pc := 16) (rest := []) C hX (kX5_in ad l D cI cB cZ cG cS r4 ((p3).toInt64) (0 : Int64) (1 : Int64) g5) (va_cwS 3 C.1.2.2.2.2 gX5_drift_X5_in rfl rfl rfl (by decide +kernel) ⟨Nat.le_of_ble_eq_true rfl, Nat.le_of_ble_eq_true rfl⟩) hl.1 rfl rfl (Nat.le_of_ble_eq_true rfl) dX5_drift_16 (fun H locs hX => ?_)
    refine lv_if_ne (pc := 19) (tgt := 24) hx hb dX5_drift_19 (by decide) (fun c6 => ?_) (fun c6 => ?_)
    · replace hf := ite_f c6 hf
      refine lv_aload_n (pc := 24) hx hb dX5_drift_24 rfl (lv_at hl 0 rfl) ?_
      refine x_getf (pc := 25) (Cn := RX5) (T := TX5) (N := 24) C hX 0 rfl rfl miX5_drift_X5 0 (by decide) mmX5_drift_2 rfl dX5_drift_25 ?_
      refine lv_bipush (pc := 28) (v := 20) hx hb dX5_drift_28 (by decide) ?_
      replace hf := chk_adv hf
      have i7 := hf.1
      replace hf := hf.2
      refine x_iald (pc := 30) C hX 1 0 rfl rfl i7 dX5_drift_30 ?_
      refine lv_if_ne (pc := 31) (tgt := 37) hx hb dX5_drift_31 (by decide) (fun c8 => ?_) (fun c8 => ?_)
      · replace hf := ite_f c8 hf
        refine lv_aload_n (pc := 37) hx hb dX5_drift_37 rfl (lv_at hl 0 rfl) ?_
        refine lv_iconst (pc := 38) (v := 0) hx hb dX5_drift_38 (by decide) ?_
        refine lv_sipush (pc := 39) (v := 160) hx hb dX5_drift_39 (by decide) ?_
        obtain ⟨u9, g10, hf⟩ := cl1_adv hf
        refine x_callVv (pc := 42) (rest := []) (w2 := [(h0, .inr (5, [.ref h_state, .ref h_readPage, .ref h_tape, .int taped, .int fault, .int broken, .int brokenAt, .int spot, .int here, .int token, .int value, .ref h_ends, .ref h_letters, .int moved, .int turned, .int worst, .ref h_seen, .int seenMany, .ref h_lastBy, .ref h_isKept, .ref h_lanes, .ref h_lengths, .ref h_cells, .int torn])), (h_state, .inl (cI, 240, .inl u9))]) C hX (kX5_copies ad l D cI cB cZ cG cS h0 h_state h_readPage h_tape h_ends h_letters h_seen h_lastBy h_isKept h_lanes h_lengths h_cells taped fault broken brokenAt spot here token value moved turned worst seenMany torn state u9 (0 : Int32) (160 : Int32) g10) (cwV 2 C.1.2.2.2.2 gX5_drift_X5_copies rfl rfl rfl (by decide +kernel) ⟨Nat.le_of_ble_eq_true rfl, Nat.le_of_ble_eq_true rfl⟩) [0, 1] [] [0, 1] rfl rfl rfl rfl (by decide) rfl rfl 0 rfl rfl rfl hl.1 rfl rfl (Nat.le_of_ble_eq_true rfl) dX5_drift_42 (fun H locs hX => ?_)
        refine lv_aload_n (pc := 45) hx hb dX5_drift_45 rfl (lv_at hl 0 rfl) ?_
        refine lv_iconst (pc := 46) (v := 0) hx hb dX5_drift_46 (by decide) ?_
        refine x_putf (pc := 47) (Cn := RX5) (T := TX5) (N := 24) C hX tyX5 tyX5_ok nmX5 0 rfl rfl miX5_drift_X5 13 (by decide) mmX5_drift_3 rfl rfl (Nat.le_of_ble_eq_true rfl) [(h0, .inr (5, [.ref h_state, .ref h_readPage, .ref h_tape, .int taped, .int fault, .int broken, .int brokenAt, .int spot, .int here, .int token, .int value, .ref h_ends, .ref h_letters, .int (0 : Int32), .int turned, .int worst, .ref h_seen, .int seenMany, .ref h_lastBy, .ref h_isKept, .ref h_lanes, .ref h_lengths, .ref h_cells, .int torn])), (h_state, .inl (cI, 240, .inl u9))] rfl dX5_drift_47 (fun H locs hX => ?_)
        refine lv_iload_n (pc := 50) hx hb dX5_drift_50 rfl (lv_at hl 1 rfl) ?_
        refine lv_istore (pc := 51) (lv' := [(4, .int p1), (0, .ref h0), (1, .int p1), (2, .int p2), (3, .int p3)]) hx hb dX5_drift_51 hl (by decide) rfl (fun ls hl => ?_)
        refine lv_iconst (pc := 53) (v := 0) hx hb dX5_drift_53 (by decide) ?_
        refine lv_istore (pc := 54) (lv' := [(5, .int (0 : Int32)), (4, .int p1), (0, .ref h0), (1, .int p1), (2, .int p2), (3, .int p3)]) hx hb dX5_drift_54 hl (by decide) rfl (fun ls hl => ?_)
        exact L56  xF p2 p3 p1 (0 : Int32) (0 : Int32) turned u9 _ _ _ hf hX (lv_sub hl [2, 4, 5, 1, 0] rfl)
      · replace hf := ite_t c8 hf
        refine lv_bipush (pc := 34) (v := -2) hx hb dX5_drift_34 (by decide) ?_
        obtain ⟨rfl, rfl, rfl, rfl⟩ := re4 hf
        exact hret _ _ _ _ _ rfl rfl hX dX5_drift_36
    · replace hf := ite_t c6 hf
      refine lv_iconst (pc := 22) (v := -1) hx hb dX5_drift_22 (by decide) ?_
      obtain ⟨rfl, rfl, rfl, rfl⟩ := re4 hf
      exact hret _ _ _ _ _ rfl rfl hX dX5_drift_23
theorem mmX5_keep_1 : Cond.fieldLink RX5 31 "SlackArmsModel" "isKept" "[Z" ∈ wsX5_keep := List.mem_of_getElem? (i := 1) rfl
theorem miX5_keep_X5 : ∀ w ∈ u_ws RX5 TX5 24, w ∈ wsX5_keep := fun w h => List.mem_cons_of_mem _ (List.mem_append_right _ h)
set_option maxHeartbeats 4000000 in
set_option maxRecDepth 100000 in
theorem kX5_keep (ad : xAd) (l : Launch) (D : va_G) (cI cB cZ cG cS : ClassId) (h0 h_state h_readPage h_tape h_ends h_letters h_seen h_lastBy h_isKept h_lanes h_lengths h_cells : Nat) (taped : Int32) (fault : Int32) (broken : Int32) (brokenAt : Int32) (spot : Int32) (here : Int32) (token : Int32) (value : Int32) (moved : Int32) (turned : Int32) (worst : Int32) (seenMany : Int32) (torn : Int32) (state : (Nat → Int32)) (isKept : (Nat → Int32)) (r0 : Int32) (o_state' : (Nat → Int32)) (o_isKept' : (Nat → Int32)) (p1 : Int32) (hf : fX5_keep p1 state isKept = some (r0, o_state', o_isKept')) : xMi ad l yX5_keep wsX5_keep ({ frames := 1, cells := 0, slots := 0, locals := 25 } : Room) D (xTY cI cB cZ cG cS) [.ref h0, .int p1] [(h0, .inr (5, [.ref h_state, .ref h_readPage, .ref h_tape, .int taped, .int fault, .int broken, .int brokenAt, .int spot, .int here, .int token, .int value, .ref h_ends, .ref h_letters, .int moved, .int turned, .int worst, .ref h_seen, .int seenMany, .ref h_lastBy, .ref h_isKept, .ref h_lanes, .ref h_lengths, .ref h_cells, .int torn])), (h_state, .inl (cI, 240, .inl state)), (h_isKept, .inl (cZ, 2, .inl isKept))] [(h0, .inr (5, [.ref h_state, .ref h_readPage, .ref h_tape, .int taped, .int fault, .int broken, .int brokenAt, .int spot, .int here, .int token, .int value, .ref h_ends, .ref h_letters, .int moved, .int turned, .int worst, .ref h_seen, .int seenMany, .ref h_lastBy, .ref h_isKept, .ref h_lanes, .ref h_lengths, .ref h_cells, .int torn])), (h_state, .inl (cI, 240, .inl o_state')), (h_isKept, .inl (cZ, 2, .inl o_isKept'))] r0 := by
  refine xMi_of (cc := cX5_keep) (maxL := 3) (ty := .int) (by decide) rfl (Nat.le_of_ble_eq_true rfl) ?_
  intro p e s m args below meth c A Q ls C hX hl hret
  have hx := C.1.1
  have hb := C.1.2.1
  have hl : lv_has ls 3 [(0, .ref h0), (1, .int p1)] := hl
  have L37 : ∀ (x1 : Int32) (y0 : Int32) (state : (Nat → Int32)) (isKept : (Nat → Int32)) (H : Heap) (locs : List Loc) (ls : Array Slot), fX5_keep_L37  x1 y0 state isKept = some (r0, o_state', o_isKept') → xSt A s D [(h0, .inr (5, [.ref h_state, .ref h_readPage, .ref h_tape, .int taped, .int fault, .int broken, .int brokenAt, .int spot, .int here, .int token, .int value, .ref h_ends, .ref h_letters, .int moved, .int turned, .int worst, .ref h_seen, .int seenMany, .ref h_lastBy, .ref h_isKept, .ref h_lanes, .ref h_lengths, .ref h_cells, .int torn])), (h_state, .inl (cI, 240, .inl state)), (h_isKept, .inl (cZ, 2, .inl isKept))] H locs → lv_has ls 3 [(0, .ref h0), (1, .int x1)] → W p l e ({ frames := 1, cells := 0, slots := 0, locals := 25 } : Room) s m args below meth c H locs 0 0 Q (F0 m 37 ls [.int y0]) := by
    intro  x1 y0 state isKept H locs ls hf hX hl
    unfold fX5_keep_L37 at hf
    refine lv_istore_n (pc := 37) (lv' := [(2, .int y0), (0, .ref h0), (1, .int x1)]) hx hb dX5_keep_37 rfl hl (by decide) rfl (fun ls hl => ?_)
    refine lv_aload_n (pc := 38) hx hb dX5_keep_38 rfl (lv_at hl 1 rfl) ?_
    refine x_getf (pc := 39) (Cn := RX5) (T := TX5) (N := 24) C hX 0 rfl rfl miX5_keep_X5 19 (by decide) mmX5_keep_1 rfl dX5_keep_39 ?_
    refine lv_iload_n (pc := 42) hx hb dX5_keep_42 rfl (lv_at hl 2 rfl) ?_
    refine lv_iconst (pc := 43) (v := 1) hx hb dX5_keep_43 (by decide) ?_
    replace hf := chk_adv hf
    have i8 := hf.1
    replace hf := hf.2
    obtain ⟨f9, ef9⟩ : ∃ y : Nat → Int32, y = (upd isKept (x1).toNatClampNeg (vp_nar .boolean (1 : Int32))) := ⟨_, rfl⟩
    replace hf := bnd_use ef9 hf
    refine x_zast (pc := 44) C hX 2 2 rfl rfl i8 [(h0, .inr (5, [.ref h_state, .ref h_readPage, .ref h_tape, .int taped, .int fault, .int broken, .int brokenAt, .int spot, .int here, .int token, .int value, .ref h_ends, .ref h_letters, .int moved, .int turned, .int worst, .ref h_seen, .int seenMany, .ref h_lastBy, .ref h_isKept, .ref h_lanes, .ref h_lengths, .ref h_cells, .int torn])), (h_state, .inl (cI, 240, .inl state)), (h_isKept, .inl (cZ, 2, .inl f9))] (by subst ef9; rfl) dX5_keep_44 (fun H locs hX => ?_)
    refine lv_iload_n (pc := 45) hx hb dX5_keep_45 rfl (lv_at hl 0 rfl) ?_
    obtain ⟨rfl, rfl, rfl⟩ := re3 hf
    exact hret _ _ _ _ _ rfl rfl hX dX5_keep_46
  unfold fX5_keep at hf
  refine lv_iload_n (pc := 0) hx hb dX5_keep_0 rfl (lv_at hl 1 rfl) ?_
  refine lv_i2l (pc := 1) (v := ((p1).toInt64)) hx hb dX5_keep_1 rfl ?_
  refine lv_lconst (pc := 2) (v := 0) hx hb dX5_keep_2 (by decide) ?_
  refine lv_lconst (pc := 3) (v := 1) hx hb dX5_keep_3 (by decide) ?_
  obtain ⟨r1, g2, hf⟩ := cl1_adv hf
  refine x_callSi (pc := 4) (rest := []) C hX (kX5_in ad l D cI cB cZ cG cS r1 ((p1).toInt64) (0 : Int64) (1 : Int64) g2) (va_cwS 3 C.1.2.2.2.2 gX5_keep_X5_in rfl rfl rfl (by decide +kernel) ⟨Nat.le_of_ble_eq_true rfl, Nat.le_of_ble_eq_true rfl⟩) hl.1 rfl rfl (Nat.le_of_ble_eq_true rfl) dX5_keep_4 (fun H locs hX => ?_)
  refine lv_if_ne (pc := 7) (tgt := 12) hx hb dX5_keep_7 (by decide) (fun c3 => ?_) (fun c3 => ?_)
  · replace hf := ite_f c3 hf
    refine lv_aload_n (pc := 12) hx hb dX5_keep_12 rfl (lv_at hl 0 rfl) ?_
    refine lv_iconst (pc := 13) (v := 0) hx hb dX5_keep_13 (by decide) ?_
    refine lv_bipush (pc := 14) (v := 40) hx hb dX5_keep_14 (by decide) ?_
    refine lv_iload_n (pc := 16) hx hb dX5_keep_16 rfl (lv_at hl 1 rfl) ?_
    refine lv_iconst (pc := 17) (v := 1) hx hb dX5_keep_17 (by decide) ?_
    refine lv_iadd (pc := 18) hx hb dX5_keep_18 ?_
    refine lv_imul (pc := 19) hx hb dX5_keep_19 ?_
    obtain ⟨u4, g5, hf⟩ := cl1_adv hf
    refine x_callVv (pc := 20) (rest := []) (w2 := [(h0, .inr (5, [.ref h_state, .ref h_readPage, .ref h_tape, .int taped, .int fault, .int broken, .int brokenAt, .int spot, .int here, .int token, .int value, .ref h_ends, .ref h_letters, .int moved, .int turned, .int worst, .ref h_seen, .int seenMany, .ref h_lastBy, .ref h_isKept, .ref h_lanes, .ref h_lengths, .ref h_cells, .int torn])), (h_state, .inl (cI, 240, .inl u4)), (h_isKept, .inl (cZ, 2, .inl isKept))]) C hX (kX5_copies ad l D cI cB cZ cG cS h0 h_state h_readPage h_tape h_ends h_letters h_seen h_lastBy h_isKept h_lanes h_lengths h_cells taped fault broken brokenAt spot here token value moved turned worst seenMany torn state u4 (0 : Int32) ((40 : Int32) * (p1 + (1 : Int32))) g5) (cwV 2 C.1.2.2.2.2 gX5_keep_X5_copies rfl rfl rfl (by decide +kernel) ⟨Nat.le_of_ble_eq_true rfl, Nat.le_of_ble_eq_true rfl⟩) [0, 1] [2] [1, 2, 0] rfl rfl rfl rfl (by decide) rfl rfl 0 rfl rfl rfl hl.1 rfl rfl (Nat.le_of_ble_eq_true rfl) dX5_keep_20 (fun H locs hX => ?_)
    refine lv_aload_n (pc := 23) hx hb dX5_keep_23 rfl (lv_at hl 0 rfl) ?_
    refine x_getf (pc := 24) (Cn := RX5) (T := TX5) (N := 24) C hX 0 rfl rfl miX5_keep_X5 19 (by decide) mmX5_keep_1 rfl dX5_keep_24 ?_
    refine lv_iload_n (pc := 27) hx hb dX5_keep_27 rfl (lv_at hl 1 rfl) ?_
    replace hf := chk_adv hf
    have i6 := hf.1
    replace hf := hf.2
    refine x_zald (pc := 28) C hX 2 2 rfl rfl i6 dX5_keep_28 ?_
    refine lv_if_eq (pc := 29) (tgt := 36) hx hb dX5_keep_29 (by decide) (fun c7 => ?_) (fun c7 => ?_)
    · replace hf := ite_t c7 hf
      refine lv_iconst (pc := 36) (v := 0) hx hb dX5_keep_36 (by decide) ?_
      exact L37  p1 (0 : Int32) u4 isKept _ _ _ hf hX (lv_sub hl [0, 1] rfl)
    · replace hf := ite_f c7 hf
      refine lv_iconst (pc := 32) (v := 1) hx hb dX5_keep_32 (by decide) ?_
      refine lv_goto (pc := 33) (tgt := 37) hx hb dX5_keep_33 (by decide) ?_
      exact L37  p1 (1 : Int32) u4 isKept _ _ _ hf hX (lv_sub hl [0, 1] rfl)
  · replace hf := ite_t c3 hf
    refine lv_iconst (pc := 10) (v := -1) hx hb dX5_keep_10 (by decide) ?_
    obtain ⟨rfl, rfl, rfl⟩ := re3 hf
    exact hret _ _ _ _ _ rfl rfl hX dX5_keep_11
theorem mmX5_back_1 : Cond.fieldLink RX5 31 "SlackArmsModel" "isKept" "[Z" ∈ wsX5_back := List.mem_of_getElem? (i := 1) rfl
theorem miX5_back_X5 : ∀ w ∈ u_ws RX5 TX5 24, w ∈ wsX5_back := fun w h => List.mem_cons_of_mem _ (List.mem_append_right _ h)
theorem mmX5_back_2 : Cond.fieldLink RX5 7 "SlackArmsModel" "state" "[I" ∈ wsX5_back := List.mem_of_getElem? (i := 2) rfl
set_option maxHeartbeats 4000000 in
set_option maxRecDepth 100000 in
theorem kX5_back (ad : xAd) (l : Launch) (D : va_G) (cI cB cZ cG cS : ClassId) (h0 h_state h_readPage h_tape h_ends h_letters h_seen h_lastBy h_isKept h_lanes h_lengths h_cells : Nat) (taped : Int32) (fault : Int32) (broken : Int32) (brokenAt : Int32) (spot : Int32) (here : Int32) (token : Int32) (value : Int32) (moved : Int32) (turned : Int32) (worst : Int32) (seenMany : Int32) (torn : Int32) (state : (Nat → Int32)) (isKept : (Nat → Int32)) (r0 : Int32) (o_state' : (Nat → Int32)) (p1 : Int32) (hf : fX5_back p1 state isKept = some (r0, o_state')) : xMi ad l yX5_back wsX5_back ({ frames := 1, cells := 0, slots := 0, locals := 25 } : Room) D (xTY cI cB cZ cG cS) [.ref h0, .int p1] [(h0, .inr (5, [.ref h_state, .ref h_readPage, .ref h_tape, .int taped, .int fault, .int broken, .int brokenAt, .int spot, .int here, .int token, .int value, .ref h_ends, .ref h_letters, .int moved, .int turned, .int worst, .ref h_seen, .int seenMany, .ref h_lastBy, .ref h_isKept, .ref h_lanes, .ref h_lengths, .ref h_cells, .int torn])), (h_state, .inl (cI, 240, .inl state)), (h_isKept, .inl (cZ, 2, .inl isKept))] [(h0, .inr (5, [.ref h_state, .ref h_readPage, .ref h_tape, .int taped, .int fault, .int broken, .int brokenAt, .int spot, .int here, .int token, .int value, .ref h_ends, .ref h_letters, .int moved, .int turned, .int worst, .ref h_seen, .int seenMany, .ref h_lastBy, .ref h_isKept, .ref h_lanes, .ref h_lengths, .ref h_cells, .int torn])), (h_state, .inl (cI, 240, .inl o_state')), (h_isKept, .inl (cZ, 2, .inl isKept))] r0 := by
  refine xMi_of (cc := cX5_back) (maxL := 2) (ty := .int) (by decide) rfl (Nat.le_of_ble_eq_true rfl) ?_
  intro p e s m args below meth c A Q ls C hX hl hret
  have hx := C.1.1
  have hb := C.1.2.1
  have hl : lv_has ls 2 [(0, .ref h0), (1, .int p1)] := hl
  unfold fX5_back at hf
  refine lv_iload_n (pc := 0) hx hb dX5_back_0 rfl (lv_at hl 1 rfl) ?_
  refine lv_i2l (pc := 1) (v := ((p1).toInt64)) hx hb dX5_back_1 rfl ?_
  refine lv_lconst (pc := 2) (v := 0) hx hb dX5_back_2 (by decide) ?_
  refine lv_lconst (pc := 3) (v := 1) hx hb dX5_back_3 (by decide) ?_
  obtain ⟨r1, g2, hf⟩ := cl1_adv hf
  refine x_callSi (pc := 4) (rest := []) C hX (kX5_in ad l D cI cB cZ cG cS r1 ((p1).toInt64) (0 : Int64) (1 : Int64) g2) (va_cwS 3 C.1.2.2.2.2 gX5_back_X5_in rfl rfl rfl (by decide +kernel) ⟨Nat.le_of_ble_eq_true rfl, Nat.le_of_ble_eq_true rfl⟩) hl.1 rfl rfl (Nat.le_of_ble_eq_true rfl) dX5_back_4 (fun H locs hX => ?_)
  refine lv_if_ne (pc := 7) (tgt := 12) hx hb dX5_back_7 (by decide) (fun c3 => ?_) (fun c3 => ?_)
  · replace hf := ite_f c3 hf
    refine lv_aload_n (pc := 12) hx hb dX5_back_12 rfl (lv_at hl 0 rfl) ?_
    refine x_getf (pc := 13) (Cn := RX5) (T := TX5) (N := 24) C hX 0 rfl rfl miX5_back_X5 19 (by decide) mmX5_back_1 rfl dX5_back_13 ?_
    refine lv_iload_n (pc := 16) hx hb dX5_back_16 rfl (lv_at hl 1 rfl) ?_
    replace hf := chk_adv hf
    have i4 := hf.1
    replace hf := hf.2
    refine x_zald (pc := 17) C hX 2 2 rfl rfl i4 dX5_back_17 ?_
    refine lv_if_ne (pc := 18) (tgt := 24) hx hb dX5_back_18 (by decide) (fun c5 => ?_) (fun c5 => ?_)
    · replace hf := ite_f c5 hf
      refine lv_aload_n (pc := 24) hx hb dX5_back_24 rfl (lv_at hl 0 rfl) ?_
      refine lv_bipush (pc := 25) (v := 40) hx hb dX5_back_25 (by decide) ?_
      refine lv_iload_n (pc := 27) hx hb dX5_back_27 rfl (lv_at hl 1 rfl) ?_
      refine lv_iconst (pc := 28) (v := 1) hx hb dX5_back_28 (by decide) ?_
      refine lv_iadd (pc := 29) hx hb dX5_back_29 ?_
      refine lv_imul (pc := 30) hx hb dX5_back_30 ?_
      refine lv_iconst (pc := 31) (v := 0) hx hb dX5_back_31 (by decide) ?_
      obtain ⟨u6, g7, hf⟩ := cl1_adv hf
      refine x_callVv (pc := 32) (rest := []) (w2 := [(h0, .inr (5, [.ref h_state, .ref h_readPage, .ref h_tape, .int taped, .int fault, .int broken, .int brokenAt, .int spot, .int here, .int token, .int value, .ref h_ends, .ref h_letters, .int moved, .int turned, .int worst, .ref h_seen, .int seenMany, .ref h_lastBy, .ref h_isKept, .ref h_lanes, .ref h_lengths, .ref h_cells, .int torn])), (h_state, .inl (cI, 240, .inl u6)), (h_isKept, .inl (cZ, 2, .inl isKept))]) C hX (kX5_copies ad l D cI cB cZ cG cS h0 h_state h_readPage h_tape h_ends h_letters h_seen h_lastBy h_isKept h_lanes h_lengths h_cells taped fault broken brokenAt spot here token value moved turned worst seenMany torn state u6 ((40 : Int32) * (p1 + (1 : Int32))) (0 : Int32) g7) (cwV 2 C.1.2.2.2.2 gX5_back_X5_copies rfl rfl rfl (by decide +kernel) ⟨Nat.le_of_ble_eq_true rfl, Nat.le_of_ble_eq_true rfl⟩) [0, 1] [2] [1, 2, 0] rfl rfl rfl rfl (by decide) rfl rfl 0 rfl rfl rfl hl.1 rfl rfl (Nat.le_of_ble_eq_true rfl) dX5_back_32 (fun H locs hX => ?_)
      refine lv_aload_n (pc := 35) hx hb dX5_back_35 rfl (lv_at hl 0 rfl) ?_
      refine x_getf (pc := 36) (Cn := RX5) (T := TX5) (N := 24) C hX 0 rfl rfl miX5_back_X5 0 (by decide) mmX5_back_2 rfl dX5_back_36 ?_
      refine lv_bipush (pc := 39) (v := 39) hx hb dX5_back_39 (by decide) ?_
      replace hf := chk_adv hf
      have i8 := hf.1
      replace hf := hf.2
      refine x_iald (pc := 41) C hX 1 0 rfl rfl i8 dX5_back_41 ?_
      obtain ⟨rfl, rfl⟩ := re2 hf
      exact hret _ _ _ _ _ rfl rfl hX dX5_back_42
    · replace hf := ite_t c5 hf
      refine lv_bipush (pc := 21) (v := -2) hx hb dX5_back_21 (by decide) ?_
      obtain ⟨rfl, rfl⟩ := re2 hf
      exact hret _ _ _ _ _ rfl rfl hX dX5_back_23
  · replace hf := ite_t c3 hf
    refine lv_iconst (pc := 10) (v := -1) hx hb dX5_back_10 (by decide) ?_
    obtain ⟨rfl, rfl⟩ := re2 hf
    exact hret _ _ _ _ _ rfl rfl hX dX5_back_11
