theorem mmX5_sheet_1 : Cond.constantLong RX5 157 (3) ∈ wsX5_sheet := List.mem_of_getElem? (i := 1) rfl
theorem mmX5_sheet_2 : Cond.constantLong RX5 155 (2) ∈ wsX5_sheet := List.mem_of_getElem? (i := 2) rfl
theorem mmX5_sheet_3 : Cond.fieldLink RX5 35 "SlackArmsModel" "lanes" "[I" ∈ wsX5_sheet := List.mem_of_getElem? (i := 3) rfl
theorem miX5_sheet_X5 : ∀ w ∈ u_ws RX5 TX5 24, w ∈ wsX5_sheet := fun w h => List.mem_cons_of_mem _ (List.mem_append_right _ h)
theorem mmX5_sheet_4 : Cond.fieldLink RX5 38 "SlackArmsModel" "lengths" "[I" ∈ wsX5_sheet := List.mem_of_getElem? (i := 4) rfl
theorem mmX5_sheet_5 : Cond.fieldLink RX5 41 "SlackArmsModel" "cells" "[I" ∈ wsX5_sheet := List.mem_of_getElem? (i := 5) rfl
set_option maxHeartbeats 4000000 in
set_option maxRecDepth 100000 in
theorem kX5_sheet (ad : xAd) (l : Launch) (D : va_G) (cI cB cZ cG cS : ClassId) (h0 h_state h_readPage h_tape h_ends h_letters h_seen h_lastBy h_isKept h_lanes h_lengths h_cells : Nat) (taped : Int32) (fault : Int32) (broken : Int32) (brokenAt : Int32) (spot : Int32) (here : Int32) (token : Int32) (value : Int32) (moved : Int32) (turned : Int32) (worst : Int32) (seenMany : Int32) (torn : Int32) (lanes : (Nat → Int32)) (lengths : (Nat → Int32)) (cells : (Nat → Int32)) (r0 : Int32) (o_lanes' : (Nat → Int32)) (o_lengths' : (Nat → Int32)) (o_cells' : (Nat → Int32)) (p1 : Int32) (p2 : Int32) (p3 : Int32) (hf : fX5_sheet p1 p2 p3 lanes lengths cells = some (r0, o_lanes', o_lengths', o_cells')) : xMi ad l yX5_sheet wsX5_sheet ({ frames := 1, cells := 0, slots := 0, locals := 25 } : Room) D (xTY cI cB cZ cG cS) [.ref h0, .int p1, .int p2, .int p3] [(h0, .inr (5, [.ref h_state, .ref h_readPage, .ref h_tape, .int taped, .int fault, .int broken, .int brokenAt, .int spot, .int here, .int token, .int value, .ref h_ends, .ref h_letters, .int moved, .int turned, .int worst, .ref h_seen, .int seenMany, .ref h_lastBy, .ref h_isKept, .ref h_lanes, .ref h_lengths, .ref h_cells, .int torn])), (h_lanes, .inl (cI, 4, .inl lanes)), (h_lengths, .inl (cI, 4, .inl lengths)), (h_cells, .inl (cI, 160, .inl cells))] [(h0, .inr (5, [.ref h_state, .ref h_readPage, .ref h_tape, .int taped, .int fault, .int broken, .int brokenAt, .int spot, .int here, .int token, .int value, .ref h_ends, .ref h_letters, .int moved, .int turned, .int worst, .ref h_seen, .int seenMany, .ref h_lastBy, .ref h_isKept, .ref h_lanes, .ref h_lengths, .ref h_cells, .int torn])), (h_lanes, .inl (cI, 4, .inl o_lanes')), (h_lengths, .inl (cI, 4, .inl o_lengths')), (h_cells, .inl (cI, 160, .inl o_cells'))] r0 := by
  refine xMi_of (cc := cX5_sheet) (maxL := 5) (ty := .int) (by decide) rfl (Nat.le_of_ble_eq_true rfl) ?_
  intro p e s m args below meth c A Q ls C hX hl hret
  have hx := C.1.1
  have hb := C.1.2.1
  have hl : lv_has ls 5 [(0, .ref h0), (1, .int p1), (2, .int p2), (3, .int p3)] := hl
  have L56 : ∀ (n : Nat), ∀ (x1 : Int32) (x4 : Int32) (lanes : (Nat → Int32)) (lengths : (Nat → Int32)) (cells : (Nat → Int32)) (H : Heap) (locs : List Loc) (ls : Array Slot), fX5_sheet_L56  n x1 x4 lanes lengths cells = some (r0, o_lanes', o_lengths', o_cells') → xSt A s D [(h0, .inr (5, [.ref h_state, .ref h_readPage, .ref h_tape, .int taped, .int fault, .int broken, .int brokenAt, .int spot, .int here, .int token, .int value, .ref h_ends, .ref h_letters, .int moved, .int turned, .int worst, .ref h_seen, .int seenMany, .ref h_lastBy, .ref h_isKept, .ref h_lanes, .ref h_lengths, .ref h_cells, .int torn])), (h_lanes, .inl (cI, 4, .inl lanes)), (h_lengths, .inl (cI, 4, .inl lengths)), (h_cells, .inl (cI, 160, .inl cells))] H locs → lv_has ls 5 [(0, .ref h0), (1, .int x1), (4, .int x4)] → W p l e ({ frames := 1, cells := 0, slots := 0, locals := 25 } : Room) s m args below meth c H locs 0 0 Q (F0 m 56 ls []) := by
    intro n
    induction n with
    | zero =>
      intro x1 x4 lanes lengths cells H locs ls hf
      rw [fX5_sheet_L56] at hf
      cases hf
    | succ n ih =>
      intro x1 x4 lanes lengths cells H locs ls hf hX hl
      rw [fX5_sheet_L56] at hf
      refine lv_iload (pc := 56) hx hb dX5_sheet_56 (lv_at hl 2 rfl) ?_
      refine lv_bipush (pc := 58) (v := 40) hx hb dX5_sheet_58 (by decide) ?_
      refine lv_icmp_ge (pc := 60) (tgt := 82) hx hb dX5_sheet_60 (by decide) (fun c13 => ?_) (fun c13 => ?_)
      · replace hf := ite_t c13 hf
        refine lv_iconst (pc := 82) (v := 1) hx hb dX5_sheet_82 (by decide) ?_
        obtain ⟨rfl, rfl, rfl, rfl⟩ := re4 hf
        exact hret _ _ _ _ _ rfl rfl hX dX5_sheet_83
      · replace hf := ite_f c13 hf
        refine lv_aload_n (pc := 63) hx hb dX5_sheet_63 rfl (lv_at hl 0 rfl) ?_
        refine x_getf (pc := 64) (Cn := RX5) (T := TX5) (N := 24) C hX 0 rfl rfl miX5_sheet_X5 22 (by decide) mmX5_sheet_5 rfl dX5_sheet_64 ?_
        refine lv_bipush (pc := 67) (v := 40) hx hb dX5_sheet_67 (by decide) ?_
        refine lv_iload_n (pc := 69) hx hb dX5_sheet_69 rfl (lv_at hl 1 rfl) ?_
        refine lv_imul (pc := 70) hx hb dX5_sheet_70 ?_
        refine lv_iload (pc := 71) hx hb dX5_sheet_71 (lv_at hl 2 rfl) ?_
        refine lv_iadd (pc := 73) hx hb dX5_sheet_73 ?_
        refine lv_iconst (pc := 74) (v := 0) hx hb dX5_sheet_74 (by decide) ?_
        replace hf := chk_adv hf
        have i14 := hf.1
        replace hf := hf.2
        obtain ⟨f15, ef15⟩ : ∃ y : Nat → Int32, y = (upd cells ((((40 : Int32) * x1) + x4)).toNatClampNeg (0 : Int32)) := ⟨_, rfl⟩
        replace hf := bnd_use ef15 hf
        refine x_iast (pc := 75) C hX 3 0 rfl rfl i14 [(h0, .inr (5, [.ref h_state, .ref h_readPage, .ref h_tape, .int taped, .int fault, .int broken, .int brokenAt, .int spot, .int here, .int token, .int value, .ref h_ends, .ref h_letters, .int moved, .int turned, .int worst, .ref h_seen, .int seenMany, .ref h_lastBy, .ref h_isKept, .ref h_lanes, .ref h_lengths, .ref h_cells, .int torn])), (h_lanes, .inl (cI, 4, .inl lanes)), (h_lengths, .inl (cI, 4, .inl lengths)), (h_cells, .inl (cI, 160, .inl f15))] (by subst ef15; rfl) dX5_sheet_75 (fun H locs hX => ?_)
        obtain ⟨v16, ev16⟩ : ∃ y : Int32, y = (x4 + (1 : Int32)) := ⟨_, rfl⟩
        replace hf := bnd_use ev16 hf
        refine lv_iinc (pc := 76) (v := v16) (lv' := [(4, .int v16), (0, .ref h0), (1, .int x1)]) hx hb dX5_sheet_76 hl (k := 2) rfl (by rw [ev16]; rfl) (by decide) rfl (fun ls hl => ?_)
        refine lv_goto (pc := 79) (tgt := 56) hx hb dX5_sheet_79 (by decide) ?_
        exact ih x1 v16 lanes lengths f15 _ _ _ hf hX (lv_sub hl [1, 2, 0] rfl)
  unfold fX5_sheet at hf
  refine lv_iload_n (pc := 0) hx hb dX5_sheet_0 rfl (lv_at hl 1 rfl) ?_
  refine lv_i2l (pc := 1) (v := ((p1).toInt64)) hx hb dX5_sheet_1 rfl ?_
  refine lv_lconst (pc := 2) (v := 0) hx hb dX5_sheet_2 (by decide) ?_
  refine lv_ldc2 (pc := 3) hx hb C.1.2.2.2.1 (C.1.2.2.2.2 _ mmX5_sheet_1) dX5_sheet_3 ?_
  obtain ⟨r1, g2, hf⟩ := cl1_adv hf
  refine x_callSi (pc := 6) (rest := []) C hX (kX5_in ad l D cI cB cZ cG cS r1 ((p1).toInt64) (0 : Int64) (3 : Int64) g2) (va_cwS 3 C.1.2.2.2.2 gX5_sheet_X5_in rfl rfl rfl (by decide +kernel) ⟨Nat.le_of_ble_eq_true rfl, Nat.le_of_ble_eq_true rfl⟩) hl.1 rfl rfl (Nat.le_of_ble_eq_true rfl) dX5_sheet_6 (fun H locs hX => ?_)
  refine lv_if_eq (pc := 9) (tgt := 30) hx hb dX5_sheet_9 (by decide) (fun c3 => ?_) (fun c3 => ?_)
  · replace hf := ite_t c3 hf
    refine lv_iconst (pc := 30) (v := -1) hx hb dX5_sheet_30 (by decide) ?_
    obtain ⟨rfl, rfl, rfl, rfl⟩ := re4 hf
    exact hret _ _ _ _ _ rfl rfl hX dX5_sheet_31
  · replace hf := ite_f c3 hf
    refine lv_iload_n (pc := 12) hx hb dX5_sheet_12 rfl (lv_at hl 2 rfl) ?_
    refine lv_i2l (pc := 13) (v := ((p2).toInt64)) hx hb dX5_sheet_13 rfl ?_
    refine lv_lconst (pc := 14) (v := 0) hx hb dX5_sheet_14 (by decide) ?_
    refine lv_ldc2 (pc := 15) hx hb C.1.2.2.2.1 (C.1.2.2.2.2 _ mmX5_sheet_2) dX5_sheet_15 ?_
    obtain ⟨r4, g5, hf⟩ := cl1_adv hf
    refine x_callSi (pc := 18) (rest := []) C hX (kX5_in ad l D cI cB cZ cG cS r4 ((p2).toInt64) (0 : Int64) (2 : Int64) g5) (va_cwS 3 C.1.2.2.2.2 gX5_sheet_X5_in rfl rfl rfl (by decide +kernel) ⟨Nat.le_of_ble_eq_true rfl, Nat.le_of_ble_eq_true rfl⟩) hl.1 rfl rfl (Nat.le_of_ble_eq_true rfl) dX5_sheet_18 (fun H locs hX => ?_)
    refine lv_if_eq (pc := 21) (tgt := 30) hx hb dX5_sheet_21 (by decide) (fun c6 => ?_) (fun c6 => ?_)
    · replace hf := ite_t c6 hf
      refine lv_iconst (pc := 30) (v := -1) hx hb dX5_sheet_30 (by decide) ?_
      obtain ⟨rfl, rfl, rfl, rfl⟩ := re4 hf
      exact hret _ _ _ _ _ rfl rfl hX dX5_sheet_31
    · replace hf := ite_f c6 hf
      refine lv_iload_n (pc := 24) hx hb dX5_sheet_24 rfl (lv_at hl 3 rfl) ?_
      refine lv_bipush (pc := 25) (v := 40) hx hb dX5_sheet_25 (by decide) ?_
      refine lv_icmp_le (pc := 27) (tgt := 32) hx hb dX5_sheet_27 (by decide) (fun c7 => ?_) (fun c7 => ?_)
      · replace hf := ite_t c7 hf
        refine lv_iload_n (pc := 32) hx hb dX5_sheet_32 rfl (lv_at hl 3 rfl) ?_
        refine lv_if_ge (pc := 33) (tgt := 39) hx hb dX5_sheet_33 (by decide) (fun c8 => ?_) (fun c8 => ?_)
        · replace hf := ite_t c8 hf
          refine lv_aload_n (pc := 39) hx hb dX5_sheet_39 rfl (lv_at hl 0 rfl) ?_
          refine x_getf (pc := 40) (Cn := RX5) (T := TX5) (N := 24) C hX 0 rfl rfl miX5_sheet_X5 20 (by decide) mmX5_sheet_3 rfl dX5_sheet_40 ?_
          refine lv_iload_n (pc := 43) hx hb dX5_sheet_43 rfl (lv_at hl 1 rfl) ?_
          refine lv_iload_n (pc := 44) hx hb dX5_sheet_44 rfl (lv_at hl 2 rfl) ?_
          replace hf := chk_adv hf
          have i9 := hf.1
          replace hf := hf.2
          obtain ⟨f10, ef10⟩ : ∃ y : Nat → Int32, y = (upd lanes (p1).toNatClampNeg p2) := ⟨_, rfl⟩
          replace hf := bnd_use ef10 hf
          refine x_iast (pc := 45) C hX 1 0 rfl rfl i9 [(h0, .inr (5, [.ref h_state, .ref h_readPage, .ref h_tape, .int taped, .int fault, .int broken, .int brokenAt, .int spot, .int here, .int token, .int value, .ref h_ends, .ref h_letters, .int moved, .int turned, .int worst, .ref h_seen, .int seenMany, .ref h_lastBy, .ref h_isKept, .ref h_lanes, .ref h_lengths, .ref h_cells, .int torn])), (h_lanes, .inl (cI, 4, .inl f10)), (h_lengths, .inl (cI, 4, .inl lengths)), (h_cells, .inl (cI, 160, .inl cells))] (by subst ef10; rfl) dX5_sheet_45 (fun H locs hX => ?_)
          refine lv_aload_n (pc := 46) hx hb dX5_sheet_46 rfl (lv_at hl 0 rfl) ?_
          refine x_getf (pc := 47) (Cn := RX5) (T := TX5) (N := 24) C hX 0 rfl rfl miX5_sheet_X5 21 (by decide) mmX5_sheet_4 rfl dX5_sheet_47 ?_
          refine lv_iload_n (pc := 50) hx hb dX5_sheet_50 rfl (lv_at hl 1 rfl) ?_
          refine lv_iload_n (pc := 51) hx hb dX5_sheet_51 rfl (lv_at hl 3 rfl) ?_
          replace hf := chk_adv hf
          have i11 := hf.1
          replace hf := hf.2
          obtain ⟨f12, ef12⟩ : ∃ y : Nat → Int32, y = (upd lengths (p1).toNatClampNeg p3) := ⟨_, rfl⟩
          replace hf := bnd_use ef12 hf
          refine x_iast (pc := 52) C hX 2 0 rfl rfl i11 [(h0, .inr (5, [.ref h_state, .ref h_readPage, .ref h_tape, .int taped, .int fault, .int broken, .int brokenAt, .int spot, .int here, .int token, .int value, .ref h_ends, .ref h_letters, .int moved, .int turned, .int worst, .ref h_seen, .int seenMany, .ref h_lastBy, .ref h_isKept, .ref h_lanes, .ref h_lengths, .ref h_cells, .int torn])), (h_lanes, .inl (cI, 4, .inl f10)), (h_lengths, .inl (cI, 4, .inl f12)), (h_cells, .inl (cI, 160, .inl cells))] (by subst ef12; rfl) dX5_sheet_52 (fun H locs hX => ?_)
          refine lv_iconst (pc := 53) (v := 0) hx hb dX5_sheet_53 (by decide) ?_
          refine lv_istore (pc := 54) (lv' := [(4, .int (0 : Int32)), (0, .ref h0), (1, .int p1), (2, .int p2), (3, .int p3)]) hx hb dX5_sheet_54 hl (by decide) rfl (fun ls hl => ?_)
          exact L56  xF p1 (0 : Int32) f10 f12 cells _ _ _ hf hX (lv_sub hl [1, 2, 0] rfl)
        · replace hf := ite_f c8 hf
          refine lv_bipush (pc := 36) (v := -14) hx hb dX5_sheet_36 (by decide) ?_
          obtain ⟨rfl, rfl, rfl, rfl⟩ := re4 hf
          exact hret _ _ _ _ _ rfl rfl hX dX5_sheet_38
      · replace hf := ite_f c7 hf
        refine lv_iconst (pc := 30) (v := -1) hx hb dX5_sheet_30 (by decide) ?_
        obtain ⟨rfl, rfl, rfl, rfl⟩ := re4 hf
        exact hret _ _ _ _ _ rfl rfl hX dX5_sheet_31
theorem mmX5_lay_1 : Cond.constantLong RX5 157 (3) ∈ wsX5_lay := List.mem_of_getElem? (i := 1) rfl
theorem mmX5_lay_2 : Cond.fieldLink RX5 35 "SlackArmsModel" "lanes" "[I" ∈ wsX5_lay := List.mem_of_getElem? (i := 2) rfl
theorem miX5_lay_X5 : ∀ w ∈ u_ws RX5 TX5 24, w ∈ wsX5_lay := fun w h => List.mem_cons_of_mem _ (List.mem_append_right _ h)
theorem mmX5_lay_3 : Cond.fieldLink RX5 38 "SlackArmsModel" "lengths" "[I" ∈ wsX5_lay := List.mem_of_getElem? (i := 3) rfl
theorem mmX5_lay_4 : Cond.fieldLink RX5 41 "SlackArmsModel" "cells" "[I" ∈ wsX5_lay := List.mem_of_getElem? (i := 4) rfl
set_option maxHeartbeats 4000000 in
set_option maxRecDepth 100000 in
theorem kX5_lay (ad : xAd) (l : Launch) (D : va_G) (cI cB cZ cG cS : ClassId) (h0 h_state h_readPage h_tape h_ends h_letters h_seen h_lastBy h_isKept h_lanes h_lengths h_cells : Nat) (taped : Int32) (fault : Int32) (broken : Int32) (brokenAt : Int32) (spot : Int32) (here : Int32) (token : Int32) (value : Int32) (moved : Int32) (turned : Int32) (worst : Int32) (seenMany : Int32) (torn : Int32) (lanes : (Nat → Int32)) (lengths : (Nat → Int32)) (cells : (Nat → Int32)) (r0 : Int32) (o_cells' : (Nat → Int32)) (p1 : Int32) (p2 : Int32) (p3 : Int32) (hf : fX5_lay p1 p2 p3 lanes lengths cells = some (r0, o_cells')) : xMi ad l yX5_lay wsX5_lay ({ frames := 1, cells := 0, slots := 0, locals := 25 } : Room) D (xTY cI cB cZ cG cS) [.ref h0, .int p1, .int p2, .int p3] [(h0, .inr (5, [.ref h_state, .ref h_readPage, .ref h_tape, .int taped, .int fault, .int broken, .int brokenAt, .int spot, .int here, .int token, .int value, .ref h_ends, .ref h_letters, .int moved, .int turned, .int worst, .ref h_seen, .int seenMany, .ref h_lastBy, .ref h_isKept, .ref h_lanes, .ref h_lengths, .ref h_cells, .int torn])), (h_lanes, .inl (cI, 4, .inl lanes)), (h_lengths, .inl (cI, 4, .inl lengths)), (h_cells, .inl (cI, 160, .inl cells))] [(h0, .inr (5, [.ref h_state, .ref h_readPage, .ref h_tape, .int taped, .int fault, .int broken, .int brokenAt, .int spot, .int here, .int token, .int value, .ref h_ends, .ref h_letters, .int moved, .int turned, .int worst, .ref h_seen, .int seenMany, .ref h_lastBy, .ref h_isKept, .ref h_lanes, .ref h_lengths, .ref h_cells, .int torn])), (h_lanes, .inl (cI, 4, .inl lanes)), (h_lengths, .inl (cI, 4, .inl lengths)), (h_cells, .inl (cI, 160, .inl o_cells'))] r0 := by
  refine xMi_of (cc := cX5_lay) (maxL := 4) (ty := .int) (by decide) rfl (Nat.le_of_ble_eq_true rfl) ?_
  intro p e s m args below meth c A Q ls C hX hl hret
  have hx := C.1.1
  have hb := C.1.2.1
  have hl : lv_has ls 4 [(0, .ref h0), (1, .int p1), (2, .int p2), (3, .int p3)] := hl
  unfold fX5_lay at hf
  refine lv_iload_n (pc := 0) hx hb dX5_lay_0 rfl (lv_at hl 1 rfl) ?_
  refine lv_i2l (pc := 1) (v := ((p1).toInt64)) hx hb dX5_lay_1 rfl ?_
  refine lv_lconst (pc := 2) (v := 0) hx hb dX5_lay_2 (by decide) ?_
  refine lv_ldc2 (pc := 3) hx hb C.1.2.2.2.1 (C.1.2.2.2.2 _ mmX5_lay_1) dX5_lay_3 ?_
  obtain ⟨r1, g2, hf⟩ := cl1_adv hf
  refine x_callSi (pc := 6) (rest := []) C hX (kX5_in ad l D cI cB cZ cG cS r1 ((p1).toInt64) (0 : Int64) (3 : Int64) g2) (va_cwS 3 C.1.2.2.2.2 gX5_lay_X5_in rfl rfl rfl (by decide +kernel) ⟨Nat.le_of_ble_eq_true rfl, Nat.le_of_ble_eq_true rfl⟩) hl.1 rfl rfl (Nat.le_of_ble_eq_true rfl) dX5_lay_6 (fun H locs hX => ?_)
  refine lv_if_ne (pc := 9) (tgt := 14) hx hb dX5_lay_9 (by decide) (fun c3 => ?_) (fun c3 => ?_)
  · replace hf := ite_f c3 hf
    refine lv_aload_n (pc := 14) hx hb dX5_lay_14 rfl (lv_at hl 0 rfl) ?_
    refine x_getf (pc := 15) (Cn := RX5) (T := TX5) (N := 24) C hX 0 rfl rfl miX5_lay_X5 20 (by decide) mmX5_lay_2 rfl dX5_lay_15 ?_
    refine lv_iload_n (pc := 18) hx hb dX5_lay_18 rfl (lv_at hl 1 rfl) ?_
    replace hf := chk_adv hf
    have i4 := hf.1
    replace hf := hf.2
    refine x_iald (pc := 19) C hX 1 0 rfl rfl i4 dX5_lay_19 ?_
    refine lv_bipush (pc := 20) (v := -4) hx hb dX5_lay_20 (by decide) ?_
    refine lv_icmp_ne (pc := 22) (tgt := 28) hx hb dX5_lay_22 (by decide) (fun c5 => ?_) (fun c5 => ?_)
    · replace hf := ite_f c5 hf
      refine lv_iload_n (pc := 28) hx hb dX5_lay_28 rfl (lv_at hl 2 rfl) ?_
      refine lv_i2l (pc := 29) (v := ((p2).toInt64)) hx hb dX5_lay_29 rfl ?_
      refine lv_lconst (pc := 30) (v := 0) hx hb dX5_lay_30 (by decide) ?_
      refine lv_aload_n (pc := 31) hx hb dX5_lay_31 rfl (lv_at hl 0 rfl) ?_
      refine x_getf (pc := 32) (Cn := RX5) (T := TX5) (N := 24) C hX 0 rfl rfl miX5_lay_X5 21 (by decide) mmX5_lay_3 rfl dX5_lay_32 ?_
      refine lv_iload_n (pc := 35) hx hb dX5_lay_35 rfl (lv_at hl 1 rfl) ?_
      replace hf := chk_adv hf
      have i6 := hf.1
      replace hf := hf.2
      refine x_iald (pc := 36) C hX 2 0 rfl rfl i6 dX5_lay_36 ?_
      refine lv_iconst (pc := 37) (v := 1) hx hb dX5_lay_37 (by decide) ?_
      refine lv_isub (pc := 38) hx hb dX5_lay_38 ?_
      refine lv_i2l (pc := 39) (v := ((((lengths (p1).toNatClampNeg) - (1 : Int32))).toInt64)) hx hb dX5_lay_39 rfl ?_
      obtain ⟨r7, g8, hf⟩ := cl1_adv hf
      refine x_callSi (pc := 40) (rest := []) C hX (kX5_in ad l D cI cB cZ cG cS r7 ((p2).toInt64) (0 : Int64) ((((lengths (p1).toNatClampNeg) - (1 : Int32))).toInt64) g8) (va_cwS 3 C.1.2.2.2.2 gX5_lay_X5_in rfl rfl rfl (by decide +kernel) ⟨Nat.le_of_ble_eq_true rfl, Nat.le_of_ble_eq_true rfl⟩) hl.1 rfl rfl (Nat.le_of_ble_eq_true rfl) dX5_lay_40 (fun H locs hX => ?_)
      refine lv_if_ne (pc := 43) (tgt := 49) hx hb dX5_lay_43 (by decide) (fun c9 => ?_) (fun c9 => ?_)
      · replace hf := ite_f c9 hf
        refine lv_aload_n (pc := 49) hx hb dX5_lay_49 rfl (lv_at hl 0 rfl) ?_
        refine x_getf (pc := 50) (Cn := RX5) (T := TX5) (N := 24) C hX 0 rfl rfl miX5_lay_X5 22 (by decide) mmX5_lay_4 rfl dX5_lay_50 ?_
        refine lv_bipush (pc := 53) (v := 40) hx hb dX5_lay_53 (by decide) ?_
        refine lv_iload_n (pc := 55) hx hb dX5_lay_55 rfl (lv_at hl 1 rfl) ?_
        refine lv_imul (pc := 56) hx hb dX5_lay_56 ?_
        refine lv_iload_n (pc := 57) hx hb dX5_lay_57 rfl (lv_at hl 2 rfl) ?_
        refine lv_iadd (pc := 58) hx hb dX5_lay_58 ?_
        refine lv_aload_n (pc := 59) hx hb dX5_lay_59 rfl (lv_at hl 0 rfl) ?_
        refine x_getf (pc := 60) (Cn := RX5) (T := TX5) (N := 24) C hX 0 rfl rfl miX5_lay_X5 20 (by decide) mmX5_lay_2 rfl dX5_lay_60 ?_
        refine lv_iload_n (pc := 63) hx hb dX5_lay_63 rfl (lv_at hl 1 rfl) ?_
        replace hf := chk_adv hf
        have i10 := hf.1
        replace hf := hf.2
        refine x_iald (pc := 64) C hX 1 0 rfl rfl i10 dX5_lay_64 ?_
        refine lv_if_ne (pc := 65) (tgt := 78) hx hb dX5_lay_65 (by decide) (fun c11 => ?_) (fun c11 => ?_)
        · replace hf := ite_f c11 hf
          refine lv_aload_n (pc := 78) hx hb dX5_lay_78 rfl (lv_at hl 0 rfl) ?_
          refine x_getf (pc := 79) (Cn := RX5) (T := TX5) (N := 24) C hX 0 rfl rfl miX5_lay_X5 20 (by decide) mmX5_lay_2 rfl dX5_lay_79 ?_
          refine lv_iload_n (pc := 82) hx hb dX5_lay_82 rfl (lv_at hl 1 rfl) ?_
          replace hf := chk_adv hf
          have i12 := hf.1
          replace hf := hf.2
          refine x_iald (pc := 83) C hX 1 0 rfl rfl i12 dX5_lay_83 ?_
          refine lv_iconst (pc := 84) (v := 1) hx hb dX5_lay_84 (by decide) ?_
          refine lv_icmp_ne (pc := 85) (tgt := 98) hx hb dX5_lay_85 (by decide) (fun c13 => ?_) (fun c13 => ?_)
          · replace hf := ite_f c13 hf
            refine lv_iload_n (pc := 98) hx hb dX5_lay_98 rfl (lv_at hl 3 rfl) ?_
            replace hf := chk_adv hf
            have i14 := hf.1
            replace hf := hf.2
            obtain ⟨f15, ef15⟩ : ∃ y : Nat → Int32, y = (upd cells ((((40 : Int32) * p1) + p2)).toNatClampNeg p3) := ⟨_, rfl⟩
            replace hf := bnd_use ef15 hf
            refine x_iast (pc := 99) C hX 3 0 rfl rfl i14 [(h0, .inr (5, [.ref h_state, .ref h_readPage, .ref h_tape, .int taped, .int fault, .int broken, .int brokenAt, .int spot, .int here, .int token, .int value, .ref h_ends, .ref h_letters, .int moved, .int turned, .int worst, .ref h_seen, .int seenMany, .ref h_lastBy, .ref h_isKept, .ref h_lanes, .ref h_lengths, .ref h_cells, .int torn])), (h_lanes, .inl (cI, 4, .inl lanes)), (h_lengths, .inl (cI, 4, .inl lengths)), (h_cells, .inl (cI, 160, .inl f15))] (by subst ef15; rfl) dX5_lay_99 (fun H locs hX => ?_)
            refine lv_iconst (pc := 100) (v := 1) hx hb dX5_lay_100 (by decide) ?_
            obtain ⟨rfl, rfl⟩ := re2 hf
            exact hret _ _ _ _ _ rfl rfl hX dX5_lay_101
          · replace hf := ite_t c13 hf
            refine lv_iload_n (pc := 88) hx hb dX5_lay_88 rfl (lv_at hl 3 rfl) ?_
            refine lv_bipush (pc := 89) (v := 16) hx hb dX5_lay_89 (by decide) ?_
            refine lv_ishl (pc := 91) hx hb dX5_lay_91 ?_
            refine lv_bipush (pc := 92) (v := 16) hx hb dX5_lay_92 (by decide) ?_
            refine lv_ishr (pc := 94) hx hb dX5_lay_94 ?_
            refine lv_goto (pc := 95) (tgt := 99) hx hb dX5_lay_95 (by decide) ?_
            refine lv_topi (fun v16 ev16 => ?_)
            replace hf := bnd_use ev16 hf
            replace hf := chk_adv hf
            have i17 := hf.1
            replace hf := hf.2
            obtain ⟨f18, ef18⟩ : ∃ y : Nat → Int32, y = (upd cells ((((40 : Int32) * p1) + p2)).toNatClampNeg v16) := ⟨_, rfl⟩
            replace hf := bnd_use ef18 hf
            refine x_iast (pc := 99) C hX 3 0 rfl rfl i17 [(h0, .inr (5, [.ref h_state, .ref h_readPage, .ref h_tape, .int taped, .int fault, .int broken, .int brokenAt, .int spot, .int here, .int token, .int value, .ref h_ends, .ref h_letters, .int moved, .int turned, .int worst, .ref h_seen, .int seenMany, .ref h_lastBy, .ref h_isKept, .ref h_lanes, .ref h_lengths, .ref h_cells, .int torn])), (h_lanes, .inl (cI, 4, .inl lanes)), (h_lengths, .inl (cI, 4, .inl lengths)), (h_cells, .inl (cI, 160, .inl f18))] (by subst ef18; rfl) dX5_lay_99 (fun H locs hX => ?_)
            refine lv_iconst (pc := 100) (v := 1) hx hb dX5_lay_100 (by decide) ?_
            obtain ⟨rfl, rfl⟩ := re2 hf
            exact hret _ _ _ _ _ rfl rfl hX dX5_lay_101
        · replace hf := ite_t c11 hf
          refine lv_iload_n (pc := 68) hx hb dX5_lay_68 rfl (lv_at hl 3 rfl) ?_
          refine lv_bipush (pc := 69) (v := 24) hx hb dX5_lay_69 (by decide) ?_
          refine lv_ishl (pc := 71) hx hb dX5_lay_71 ?_
          refine lv_bipush (pc := 72) (v := 24) hx hb dX5_lay_72 (by decide) ?_
          refine lv_ishr (pc := 74) hx hb dX5_lay_74 ?_
          refine lv_goto (pc := 75) (tgt := 99) hx hb dX5_lay_75 (by decide) ?_
          refine lv_topi (fun v19 ev19 => ?_)
          replace hf := bnd_use ev19 hf
          replace hf := chk_adv hf
          have i20 := hf.1
          replace hf := hf.2
          obtain ⟨f21, ef21⟩ : ∃ y : Nat → Int32, y = (upd cells ((((40 : Int32) * p1) + p2)).toNatClampNeg v19) := ⟨_, rfl⟩
          replace hf := bnd_use ef21 hf
          refine x_iast (pc := 99) C hX 3 0 rfl rfl i20 [(h0, .inr (5, [.ref h_state, .ref h_readPage, .ref h_tape, .int taped, .int fault, .int broken, .int brokenAt, .int spot, .int here, .int token, .int value, .ref h_ends, .ref h_letters, .int moved, .int turned, .int worst, .ref h_seen, .int seenMany, .ref h_lastBy, .ref h_isKept, .ref h_lanes, .ref h_lengths, .ref h_cells, .int torn])), (h_lanes, .inl (cI, 4, .inl lanes)), (h_lengths, .inl (cI, 4, .inl lengths)), (h_cells, .inl (cI, 160, .inl f21))] (by subst ef21; rfl) dX5_lay_99 (fun H locs hX => ?_)
          refine lv_iconst (pc := 100) (v := 1) hx hb dX5_lay_100 (by decide) ?_
          obtain ⟨rfl, rfl⟩ := re2 hf
          exact hret _ _ _ _ _ rfl rfl hX dX5_lay_101
      · replace hf := ite_t c9 hf
        refine lv_bipush (pc := 46) (v := -12) hx hb dX5_lay_46 (by decide) ?_
        obtain ⟨rfl, rfl⟩ := re2 hf
        exact hret _ _ _ _ _ rfl rfl hX dX5_lay_48
    · replace hf := ite_t c5 hf
      refine lv_bipush (pc := 25) (v := -11) hx hb dX5_lay_25 (by decide) ?_
      obtain ⟨rfl, rfl⟩ := re2 hf
      exact hret _ _ _ _ _ rfl rfl hX dX5_lay_27
  · replace hf := ite_t c3 hf
    refine lv_iconst (pc := 12) (v := -1) hx hb dX5_lay_12 (by decide) ?_
    obtain ⟨rfl, rfl⟩ := re2 hf
    exact hret _ _ _ _ _ rfl rfl hX dX5_lay_13
theorem mmX5_read_1 : Cond.constantLong RX5 157 (3) ∈ wsX5_read := List.mem_of_getElem? (i := 1) rfl
theorem mmX5_read_2 : Cond.constantLong RX5 155 (2) ∈ wsX5_read := List.mem_of_getElem? (i := 2) rfl
theorem mmX5_read_3 : Cond.constantLong RX5 218 (40) ∈ wsX5_read := List.mem_of_getElem? (i := 3) rfl
theorem mmX5_read_7 : Cond.fieldLink RX5 231 "SlackArmsModel" "torn" "I" ∈ wsX5_read := List.mem_of_getElem? (i := 7) rfl
theorem miX5_read_X5 : ∀ w ∈ u_ws RX5 TX5 24, w ∈ wsX5_read := fun w h => List.mem_cons_of_mem _ (List.mem_append_right _ h)
theorem mmX5_read_4 : Cond.fieldLink RX5 35 "SlackArmsModel" "lanes" "[I" ∈ wsX5_read := List.mem_of_getElem? (i := 4) rfl
theorem mmX5_read_5 : Cond.fieldLink RX5 38 "SlackArmsModel" "lengths" "[I" ∈ wsX5_read := List.mem_of_getElem? (i := 5) rfl
theorem mmX5_read_6 : Cond.fieldLink RX5 41 "SlackArmsModel" "cells" "[I" ∈ wsX5_read := List.mem_of_getElem? (i := 6) rfl
set_option maxHeartbeats 4000000 in
set_option maxRecDepth 100000 in
theorem kX5_read (ad : xAd) (l : Launch) (D : va_G) (cI cB cZ cG cS : ClassId) (h0 h_state h_readPage h_tape h_ends h_letters h_seen h_lastBy h_isKept h_lanes h_lengths h_cells : Nat) (taped : Int32) (fault : Int32) (broken : Int32) (brokenAt : Int32) (spot : Int32) (here : Int32) (token : Int32) (value : Int32) (moved : Int32) (turned : Int32) (worst : Int32) (seenMany : Int32) (torn : Int32) (state : (Nat → Int32)) (lanes : (Nat → Int32)) (lengths : (Nat → Int32)) (cells : (Nat → Int32)) (r0 : Int32) (o_torn' : Int32) (o_state' : (Nat → Int32)) (p1 : Int32) (p2 : Int32) (p3 : Int32) (p4 : Int32) (hf : fX5_read p1 p2 p3 p4 torn state lanes lengths cells = some (r0, o_torn', o_state')) : xMi ad l yX5_read wsX5_read ({ frames := 2, cells := 0, slots := 0, locals := 46 } : Room) D (xTY cI cB cZ cG cS) [.ref h0, .int p1, .int p2, .int p3, .int p4] [(h0, .inr (5, [.ref h_state, .ref h_readPage, .ref h_tape, .int taped, .int fault, .int broken, .int brokenAt, .int spot, .int here, .int token, .int value, .ref h_ends, .ref h_letters, .int moved, .int turned, .int worst, .ref h_seen, .int seenMany, .ref h_lastBy, .ref h_isKept, .ref h_lanes, .ref h_lengths, .ref h_cells, .int torn])), (h_state, .inl (cI, 240, .inl state)), (h_lanes, .inl (cI, 4, .inl lanes)), (h_lengths, .inl (cI, 4, .inl lengths)), (h_cells, .inl (cI, 160, .inl cells))] [(h0, .inr (5, [.ref h_state, .ref h_readPage, .ref h_tape, .int taped, .int fault, .int broken, .int brokenAt, .int spot, .int here, .int token, .int value, .ref h_ends, .ref h_letters, .int moved, .int turned, .int worst, .ref h_seen, .int seenMany, .ref h_lastBy, .ref h_isKept, .ref h_lanes, .ref h_lengths, .ref h_cells, .int o_torn'])), (h_state, .inl (cI, 240, .inl o_state')), (h_lanes, .inl (cI, 4, .inl lanes)), (h_lengths, .inl (cI, 4, .inl lengths)), (h_cells, .inl (cI, 160, .inl cells))] r0 := by
  refine xMi_of (cc := cX5_read) (maxL := 9) (ty := .int) (by decide) rfl (Nat.le_of_ble_eq_true rfl) ?_
  intro p e s m args below meth c A Q ls C hX hl hret
  have hx := C.1.1
  have hb := C.1.2.1
  have hl : lv_has ls 9 [(0, .ref h0), (1, .int p1), (2, .int p2), (3, .int p3), (4, .int p4)] := hl
  have L171 : ∀ (k55 : Int32 → Int32 → Int32 → Int32 → Int32 → Int32 → Int32 → Int32 → (Nat → Int32) → Option (Int32 × Int32 × (Nat → Int32))) (hk55 : ∀ (x1 : Int32) (x2 : Int32) (x3 : Int32) (x4 : Int32) (x5 : Int32) (x6 : Int32) (x7 : Int32) (torn : Int32) (state : (Nat → Int32)) (H : Heap) (locs : List Loc) (ls : Array Slot), k55 x1 x2 x3 x4 x5 x6 x7 torn state = some (r0, o_torn', o_state') → xSt A s D [(h0, .inr (5, [.ref h_state, .ref h_readPage, .ref h_tape, .int taped, .int fault, .int broken, .int brokenAt, .int spot, .int here, .int token, .int value, .ref h_ends, .ref h_letters, .int moved, .int turned, .int worst, .ref h_seen, .int seenMany, .ref h_lastBy, .ref h_isKept, .ref h_lanes, .ref h_lengths, .ref h_cells, .int torn])), (h_state, .inl (cI, 240, .inl state)), (h_lanes, .inl (cI, 4, .inl lanes)), (h_lengths, .inl (cI, 4, .inl lengths)), (h_cells, .inl (cI, 160, .inl cells))] H locs → lv_has ls 9 [(0, .ref h0), (1, .int x1), (2, .int x2), (3, .int x3), (4, .int x4), (5, .int x5), (6, .int x6), (7, .int x7)] → W p l e ({ frames := 2, cells := 0, slots := 0, locals := 46 } : Room) s m args below meth c H locs 0 0 Q (F0 m 55 ls [])), ∀ (x1 : Int32) (x2 : Int32) (x3 : Int32) (x4 : Int32) (x5 : Int32) (x6 : Int32) (x7 : Int32) (torn : Int32) (state : (Nat → Int32)) (H : Heap) (locs : List Loc) (ls : Array Slot), fX5_read_L171 lanes lengths cells k55 x1 x2 x3 x4 x5 x6 x7 torn state = some (r0, o_torn', o_state') → xSt A s D [(h0, .inr (5, [.ref h_state, .ref h_readPage, .ref h_tape, .int taped, .int fault, .int broken, .int brokenAt, .int spot, .int here, .int token, .int value, .ref h_ends, .ref h_letters, .int moved, .int turned, .int worst, .ref h_seen, .int seenMany, .ref h_lastBy, .ref h_isKept, .ref h_lanes, .ref h_lengths, .ref h_cells, .int torn])), (h_state, .inl (cI, 240, .inl state)), (h_lanes, .inl (cI, 4, .inl lanes)), (h_lengths, .inl (cI, 4, .inl lengths)), (h_cells, .inl (cI, 160, .inl cells))] H locs → lv_has ls 9 [(0, .ref h0), (1, .int x1), (2, .int x2), (3, .int x3), (4, .int x4), (5, .int x5), (6, .int x6), (7, .int x7)] → W p l e ({ frames := 2, cells := 0, slots := 0, locals := 46 } : Room) s m args below meth c H locs 0 0 Q (F0 m 171 ls []) := by
    intro k55 hk55 x1 x2 x3 x4 x5 x6 x7 torn state H locs ls hf hX hl
    unfold fX5_read_L171 at hf
    obtain ⟨v23, ev23⟩ : ∃ y : Int32, y = (x7 + (1 : Int32)) := ⟨_, rfl⟩
    replace hf := bnd_use ev23 hf
    refine lv_iinc (pc := 171) (v := v23) (lv' := [(7, .int v23), (0, .ref h0), (1, .int x1), (2, .int x2), (3, .int x3), (4, .int x4), (5, .int x5), (6, .int x6)]) hx hb dX5_read_171 hl (k := 7) rfl (by rw [ev23]; rfl) (by decide) rfl (fun ls hl => ?_)
    refine lv_goto (pc := 174) (tgt := 55) hx hb dX5_read_174 (by decide) ?_
    exact hk55 x1 x2 x3 x4 x5 x6 v23 torn state _ _ _ hf hX (lv_sub hl [1, 2, 3, 4, 5, 6, 7, 0] rfl)
  have L123 : ∀ (k55 : Int32 → Int32 → Int32 → Int32 → Int32 → Int32 → Int32 → Int32 → (Nat → Int32) → Option (Int32 × Int32 × (Nat → Int32))) (hk55 : ∀ (x1 : Int32) (x2 : Int32) (x3 : Int32) (x4 : Int32) (x5 : Int32) (x6 : Int32) (x7 : Int32) (torn : Int32) (state : (Nat → Int32)) (H : Heap) (locs : List Loc) (ls : Array Slot), k55 x1 x2 x3 x4 x5 x6 x7 torn state = some (r0, o_torn', o_state') → xSt A s D [(h0, .inr (5, [.ref h_state, .ref h_readPage, .ref h_tape, .int taped, .int fault, .int broken, .int brokenAt, .int spot, .int here, .int token, .int value, .ref h_ends, .ref h_letters, .int moved, .int turned, .int worst, .ref h_seen, .int seenMany, .ref h_lastBy, .ref h_isKept, .ref h_lanes, .ref h_lengths, .ref h_cells, .int torn])), (h_state, .inl (cI, 240, .inl state)), (h_lanes, .inl (cI, 4, .inl lanes)), (h_lengths, .inl (cI, 4, .inl lengths)), (h_cells, .inl (cI, 160, .inl cells))] H locs → lv_has ls 9 [(0, .ref h0), (1, .int x1), (2, .int x2), (3, .int x3), (4, .int x4), (5, .int x5), (6, .int x6), (7, .int x7)] → W p l e ({ frames := 2, cells := 0, slots := 0, locals := 46 } : Room) s m args below meth c H locs 0 0 Q (F0 m 55 ls [])), ∀ (x1 : Int32) (x2 : Int32) (x3 : Int32) (x4 : Int32) (x6 : Int32) (x7 : Int32) (y0 : Int32) (torn : Int32) (state : (Nat → Int32)) (H : Heap) (locs : List Loc) (ls : Array Slot), fX5_read_L123 lanes lengths cells k55 x1 x2 x3 x4 x6 x7 y0 torn state = some (r0, o_torn', o_state') → xSt A s D [(h0, .inr (5, [.ref h_state, .ref h_readPage, .ref h_tape, .int taped, .int fault, .int broken, .int brokenAt, .int spot, .int here, .int token, .int value, .ref h_ends, .ref h_letters, .int moved, .int turned, .int worst, .ref h_seen, .int seenMany, .ref h_lastBy, .ref h_isKept, .ref h_lanes, .ref h_lengths, .ref h_cells, .int torn])), (h_state, .inl (cI, 240, .inl state)), (h_lanes, .inl (cI, 4, .inl lanes)), (h_lengths, .inl (cI, 4, .inl lengths)), (h_cells, .inl (cI, 160, .inl cells))] H locs → lv_has ls 9 [(0, .ref h0), (1, .int x1), (2, .int x2), (3, .int x3), (4, .int x4), (6, .int x6), (7, .int x7)] → W p l e ({ frames := 2, cells := 0, slots := 0, locals := 46 } : Room) s m args below meth c H locs 0 0 Q (F0 m 123 ls [.int y0]) := by
    intro k55 hk55 x1 x2 x3 x4 x6 x7 y0 torn state H locs ls hf hX hl
    unfold fX5_read_L123 at hf
    refine lv_istore (pc := 123) (lv' := [(5, .int y0), (0, .ref h0), (1, .int x1), (2, .int x2), (3, .int x3), (4, .int x4), (6, .int x6), (7, .int x7)]) hx hb dX5_read_123 hl (by decide) rfl (fun ls hl => ?_)
    refine lv_iload (pc := 125) hx hb dX5_read_125 (lv_at hl 0 rfl) ?_
    refine lv_if_ne (pc := 127) (tgt := 171) hx hb dX5_read_127 (by decide) (fun c22 => ?_) (fun c22 => ?_)
    · replace hf := ite_f c22 hf
      exact L171 (k55) hk55 x1 x2 x3 x4 y0 x6 x7 torn state _ _ _ hf hX (lv_sub hl [1, 2, 3, 4, 5, 0, 6, 7] rfl)
    · replace hf := ite_t c22 hf
      refine lv_bipush (pc := 130) (v := 40) hx hb dX5_read_130 (by decide) ?_
      refine lv_iload_n (pc := 132) hx hb dX5_read_132 rfl (lv_at hl 2 rfl) ?_
      refine lv_imul (pc := 133) hx hb dX5_read_133 ?_
      refine lv_iload_n (pc := 134) hx hb dX5_read_134 rfl (lv_at hl 4 rfl) ?_
      refine lv_iadd (pc := 135) hx hb dX5_read_135 ?_
      refine lv_iload (pc := 136) hx hb dX5_read_136 (lv_at hl 7 rfl) ?_
      refine lv_iadd (pc := 138) hx hb dX5_read_138 ?_
      refine lv_topi (fun v24 ev24 => ?_)
      replace hf := bnd_use ev24 hf
      refine lv_istore (pc := 139) (lv' := [(8, .int v24), (5, .int y0), (0, .ref h0), (1, .int x1), (2, .int x2), (3, .int x3), (4, .int x4), (6, .int x6), (7, .int x7)]) hx hb dX5_read_139 hl (by decide) rfl (fun ls hl => ?_)
      refine lv_aload_n (pc := 141) hx hb dX5_read_141 rfl (lv_at hl 2 rfl) ?_
      refine lv_aload_n (pc := 142) hx hb dX5_read_142 rfl (lv_at hl 2 rfl) ?_
      refine x_getf (pc := 143) (Cn := RX5) (T := TX5) (N := 24) C hX 0 rfl rfl miX5_read_X5 22 (by decide) mmX5_read_6 rfl dX5_read_143 ?_
      refine lv_iload (pc := 146) hx hb dX5_read_146 (lv_at hl 0 rfl) ?_
      replace hf := chk_adv hf
      have i25 := hf.1
      replace hf := hf.2
      refine x_iald (pc := 148) C hX 4 0 rfl rfl i25 dX5_read_148 ?_
      obtain ⟨r26, u27, g28, hf⟩ := cl2_adv hf
      refine x_callVi (pc := 149) (rest := []) (w2 := [(h0, .inr (5, [.ref h_state, .ref h_readPage, .ref h_tape, .int taped, .int fault, .int broken, .int brokenAt, .int spot, .int here, .int token, .int value, .ref h_ends, .ref h_letters, .int moved, .int turned, .int worst, .ref h_seen, .int seenMany, .ref h_lastBy, .ref h_isKept, .ref h_lanes, .ref h_lengths, .ref h_cells, .int torn])), (h_state, .inl (cI, 240, .inl u27)), (h_lanes, .inl (cI, 4, .inl lanes)), (h_lengths, .inl (cI, 4, .inl lengths)), (h_cells, .inl (cI, 160, .inl cells))]) C hX (kX5_adds ad l D cI cB cZ cG cS h0 h_state h_readPage h_tape h_ends h_letters h_seen h_lastBy h_isKept h_lanes h_lengths h_cells taped fault broken brokenAt spot here token value moved turned worst seenMany torn state r26 u27 (cells (v24).toNatClampNeg) g28) (cwV 1 C.1.2.2.2.2 gX5_read_X5_adds rfl rfl rfl (by decide +kernel) ⟨Nat.le_of_ble_eq_true rfl, Nat.le_of_ble_eq_true rfl⟩) [0, 1] [2, 3, 4] [3, 4, 0, 1, 2] rfl rfl rfl rfl (by decide) rfl rfl 0 rfl rfl rfl hl.1 rfl rfl (Nat.le_of_ble_eq_true rfl) dX5_read_149 (fun H locs hX => ?_)
      refine lv_if_ge (pc := 152) (tgt := 168) hx hb dX5_read_152 (by decide) (fun c29 => ?_) (fun c29 => ?_)
      · replace hf := ite_t c29 hf
        obtain ⟨v30, ev30⟩ : ∃ y : Int32, y = (x6 + (1 : Int32)) := ⟨_, rfl⟩
        replace hf := bnd_use ev30 hf
        refine lv_iinc (pc := 168) (v := v30) (lv' := [(6, .int v30), (8, .int v24), (5, .int y0), (0, .ref h0), (1, .int x1), (2, .int x2), (3, .int x3), (4, .int x4), (7, .int x7)]) hx hb dX5_read_168 hl (k := 7) rfl (by rw [ev30]; rfl) (by decide) rfl (fun ls hl => ?_)
        exact L171 (k55) hk55 x1 x2 x3 x4 y0 v30 x7 torn u27 _ _ _ hf hX (lv_sub hl [3, 4, 5, 6, 7, 2, 0, 8] rfl)
      · replace hf := ite_f c29 hf
        refine lv_aload_n (pc := 155) hx hb dX5_read_155 rfl (lv_at hl 2 rfl) ?_
        refine lv_bipush (pc := 156) (v := 120) hx hb dX5_read_156 (by decide) ?_
        refine lv_iconst (pc := 158) (v := 0) hx hb dX5_read_158 (by decide) ?_
        obtain ⟨u31, g32, hf⟩ := cl1_adv hf
        refine x_callVv (pc := 159) (rest := []) (w2 := [(h0, .inr (5, [.ref h_state, .ref h_readPage, .ref h_tape, .int taped, .int fault, .int broken, .int brokenAt, .int spot, .int here, .int token, .int value, .ref h_ends, .ref h_letters, .int moved, .int turned, .int worst, .ref h_seen, .int seenMany, .ref h_lastBy, .ref h_isKept, .ref h_lanes, .ref h_lengths, .ref h_cells, .int torn])), (h_state, .inl (cI, 240, .inl u31)), (h_lanes, .inl (cI, 4, .inl lanes)), (h_lengths, .inl (cI, 4, .inl lengths)), (h_cells, .inl (cI, 160, .inl cells))]) C hX (kX5_copies ad l D cI cB cZ cG cS h0 h_state h_readPage h_tape h_ends h_letters h_seen h_lastBy h_isKept h_lanes h_lengths h_cells taped fault broken brokenAt spot here token value moved turned worst seenMany torn u27 u31 (120 : Int32) (0 : Int32) g32) (cwV 2 C.1.2.2.2.2 gX5_read_X5_copies rfl rfl rfl (by decide +kernel) ⟨Nat.le_of_ble_eq_true rfl, Nat.le_of_ble_eq_true rfl⟩) [0, 1] [2, 3, 4] [3, 4, 0, 1, 2] rfl rfl rfl rfl (by decide) rfl rfl 0 rfl rfl rfl hl.1 rfl rfl (Nat.le_of_ble_eq_true rfl) dX5_read_159 (fun H locs hX => ?_)
        refine lv_bipush (pc := 162) (v := -20) hx hb dX5_read_162 (by decide) ?_
        refine lv_iload (pc := 164) hx hb dX5_read_164 (lv_at hl 7 rfl) ?_
        refine lv_isub (pc := 166) hx hb dX5_read_166 ?_
        obtain ⟨rfl, rfl, rfl⟩ := re3 hf
        exact hret _ _ _ _ _ rfl rfl hX dX5_read_167
  have L55 : ∀ (n : Nat), ∀ (x1 : Int32) (x2 : Int32) (x3 : Int32) (x4 : Int32) (x5 : Int32) (x6 : Int32) (x7 : Int32) (torn : Int32) (state : (Nat → Int32)) (H : Heap) (locs : List Loc) (ls : Array Slot), fX5_read_L55 lanes lengths cells n x1 x2 x3 x4 x5 x6 x7 torn state = some (r0, o_torn', o_state') → xSt A s D [(h0, .inr (5, [.ref h_state, .ref h_readPage, .ref h_tape, .int taped, .int fault, .int broken, .int brokenAt, .int spot, .int here, .int token, .int value, .ref h_ends, .ref h_letters, .int moved, .int turned, .int worst, .ref h_seen, .int seenMany, .ref h_lastBy, .ref h_isKept, .ref h_lanes, .ref h_lengths, .ref h_cells, .int torn])), (h_state, .inl (cI, 240, .inl state)), (h_lanes, .inl (cI, 4, .inl lanes)), (h_lengths, .inl (cI, 4, .inl lengths)), (h_cells, .inl (cI, 160, .inl cells))] H locs → lv_has ls 9 [(0, .ref h0), (1, .int x1), (2, .int x2), (3, .int x3), (4, .int x4), (5, .int x5), (6, .int x6), (7, .int x7)] → W p l e ({ frames := 2, cells := 0, slots := 0, locals := 46 } : Room) s m args below meth c H locs 0 0 Q (F0 m 55 ls []) := by
    intro n
    induction n with
    | zero =>
      intro x1 x2 x3 x4 x5 x6 x7 torn state H locs ls hf
      rw [fX5_read_L55] at hf
      cases hf
    | succ n ih =>
      intro x1 x2 x3 x4 x5 x6 x7 torn state H locs ls hf hX hl
      rw [fX5_read_L55] at hf
      refine lv_iload (pc := 55) hx hb dX5_read_55 (lv_at hl 7 rfl) ?_
      refine lv_iload (pc := 57) hx hb dX5_read_57 (lv_at hl 4 rfl) ?_
      refine lv_icmp_ge (pc := 59) (tgt := 177) hx hb dX5_read_59 (by decide) (fun c12 => ?_) (fun c12 => ?_)
      · replace hf := ite_t c12 hf
        refine lv_aload_n (pc := 177) hx hb dX5_read_177 rfl (lv_at hl 0 rfl) ?_
        refine lv_iload (pc := 178) hx hb dX5_read_178 (lv_at hl 5 rfl) ?_
        refine x_putf (pc := 180) (Cn := RX5) (T := TX5) (N := 24) C hX tyX5 tyX5_ok nmX5 0 rfl rfl miX5_read_X5 23 (by decide) mmX5_read_7 rfl rfl (Nat.le_of_ble_eq_true rfl) [(h0, .inr (5, [.ref h_state, .ref h_readPage, .ref h_tape, .int taped, .int fault, .int broken, .int brokenAt, .int spot, .int here, .int token, .int value, .ref h_ends, .ref h_letters, .int moved, .int turned, .int worst, .ref h_seen, .int seenMany, .ref h_lastBy, .ref h_isKept, .ref h_lanes, .ref h_lengths, .ref h_cells, .int x5])), (h_state, .inl (cI, 240, .inl state)), (h_lanes, .inl (cI, 4, .inl lanes)), (h_lengths, .inl (cI, 4, .inl lengths)), (h_cells, .inl (cI, 160, .inl cells))] rfl dX5_read_180 (fun H locs hX => ?_)
        refine lv_iload (pc := 183) hx hb dX5_read_183 (lv_at hl 6 rfl) ?_
        obtain ⟨rfl, rfl, rfl⟩ := re3 hf
        exact hret _ _ _ _ _ rfl rfl hX dX5_read_185
      · replace hf := ite_f c12 hf
        refine lv_iload (pc := 62) hx hb dX5_read_62 (lv_at hl 5 rfl) ?_
        refine lv_if_ne (pc := 64) (tgt := 177) hx hb dX5_read_64 (by decide) (fun c13 => ?_) (fun c13 => ?_)
        · replace hf := ite_f c13 hf
          refine lv_aload_n (pc := 177) hx hb dX5_read_177 rfl (lv_at hl 0 rfl) ?_
          refine lv_iload (pc := 178) hx hb dX5_read_178 (lv_at hl 5 rfl) ?_
          refine x_putf (pc := 180) (Cn := RX5) (T := TX5) (N := 24) C hX tyX5 tyX5_ok nmX5 0 rfl rfl miX5_read_X5 23 (by decide) mmX5_read_7 rfl rfl (Nat.le_of_ble_eq_true rfl) [(h0, .inr (5, [.ref h_state, .ref h_readPage, .ref h_tape, .int taped, .int fault, .int broken, .int brokenAt, .int spot, .int here, .int token, .int value, .ref h_ends, .ref h_letters, .int moved, .int turned, .int worst, .ref h_seen, .int seenMany, .ref h_lastBy, .ref h_isKept, .ref h_lanes, .ref h_lengths, .ref h_cells, .int x5])), (h_state, .inl (cI, 240, .inl state)), (h_lanes, .inl (cI, 4, .inl lanes)), (h_lengths, .inl (cI, 4, .inl lengths)), (h_cells, .inl (cI, 160, .inl cells))] rfl dX5_read_180 (fun H locs hX => ?_)
          refine lv_iload (pc := 183) hx hb dX5_read_183 (lv_at hl 6 rfl) ?_
          obtain ⟨rfl, rfl, rfl⟩ := re3 hf
          exact hret _ _ _ _ _ rfl rfl hX dX5_read_185
        · replace hf := ite_t c13 hf
          refine lv_aload_n (pc := 67) hx hb dX5_read_67 rfl (lv_at hl 0 rfl) ?_
          refine x_getf (pc := 68) (Cn := RX5) (T := TX5) (N := 24) C hX 0 rfl rfl miX5_read_X5 20 (by decide) mmX5_read_4 rfl dX5_read_68 ?_
          refine lv_iload_n (pc := 71) hx hb dX5_read_71 rfl (lv_at hl 1 rfl) ?_
          replace hf := chk_adv hf
          have i14 := hf.1
          replace hf := hf.2
          refine x_iald (pc := 72) C hX 2 0 rfl rfl i14 dX5_read_72 ?_
          refine lv_bipush (pc := 73) (v := -4) hx hb dX5_read_73 (by decide) ?_
          refine lv_icmp_ne (pc := 75) (tgt := 82) hx hb dX5_read_75 (by decide) (fun c15 => ?_) (fun c15 => ?_)
          · replace hf := ite_f c15 hf
            refine lv_aload_n (pc := 82) hx hb dX5_read_82 rfl (lv_at hl 0 rfl) ?_
            refine x_getf (pc := 83) (Cn := RX5) (T := TX5) (N := 24) C hX 0 rfl rfl miX5_read_X5 20 (by decide) mmX5_read_4 rfl dX5_read_83 ?_
            refine lv_iload_n (pc := 86) hx hb dX5_read_86 rfl (lv_at hl 1 rfl) ?_
            replace hf := chk_adv hf
            have i16 := hf.1
            replace hf := hf.2
            refine x_iald (pc := 87) C hX 2 0 rfl rfl i16 dX5_read_87 ?_
            refine lv_iload_n (pc := 88) hx hb dX5_read_88 rfl (lv_at hl 2 rfl) ?_
            refine lv_icmp_eq (pc := 89) (tgt := 96) hx hb dX5_read_89 (by decide) (fun c17 => ?_) (fun c17 => ?_)
            · replace hf := ite_t c17 hf
              refine lv_iload_n (pc := 96) hx hb dX5_read_96 rfl (lv_at hl 3 rfl) ?_
              refine lv_i2l (pc := 97) (v := ((x3).toInt64)) hx hb dX5_read_97 rfl ?_
              refine lv_iload (pc := 98) hx hb dX5_read_98 (lv_at hl 7 rfl) ?_
              refine lv_i2l (pc := 100) (v := ((x7).toInt64)) hx hb dX5_read_100 rfl ?_
              refine lv_ladd (pc := 101) hx hb dX5_read_101 ?_
              refine lv_lconst (pc := 102) (v := 0) hx hb dX5_read_102 (by decide) ?_
              refine lv_aload_n (pc := 103) hx hb dX5_read_103 rfl (lv_at hl 0 rfl) ?_
              refine x_getf (pc := 104) (Cn := RX5) (T := TX5) (N := 24) C hX 0 rfl rfl miX5_read_X5 21 (by decide) mmX5_read_5 rfl dX5_read_104 ?_
              refine lv_iload_n (pc := 107) hx hb dX5_read_107 rfl (lv_at hl 1 rfl) ?_
              replace hf := chk_adv hf
              have i18 := hf.1
              replace hf := hf.2
              refine x_iald (pc := 108) C hX 3 0 rfl rfl i18 dX5_read_108 ?_
              refine lv_iconst (pc := 109) (v := 1) hx hb dX5_read_109 (by decide) ?_
              refine lv_isub (pc := 110) hx hb dX5_read_110 ?_
              refine lv_i2l (pc := 111) (v := ((((lengths (x1).toNatClampNeg) - (1 : Int32))).toInt64)) hx hb dX5_read_111 rfl ?_
              obtain ⟨r19, g20, hf⟩ := cl1_adv hf
              refine x_callSi (pc := 112) (rest := []) C hX (kX5_in ad l D cI cB cZ cG cS r19 (((x3).toInt64) + ((x7).toInt64)) (0 : Int64) ((((lengths (x1).toNatClampNeg) - (1 : Int32))).toInt64) g20) (va_cwS 3 C.1.2.2.2.2 gX5_read_X5_in rfl rfl rfl (by decide +kernel) ⟨Nat.le_of_ble_eq_true rfl, Nat.le_of_ble_eq_true rfl⟩) hl.1 rfl rfl (Nat.le_of_ble_eq_true rfl) dX5_read_112 (fun H locs hX => ?_)
              refine lv_if_ne (pc := 115) (tgt := 122) hx hb dX5_read_115 (by decide) (fun c21 => ?_) (fun c21 => ?_)
              · replace hf := ite_f c21 hf
                refine lv_iconst (pc := 122) (v := 0) hx hb dX5_read_122 (by decide) ?_
                exact L123 (fX5_read_L55 lanes lengths cells n) ih x1 x2 x3 x4 x6 x7 (0 : Int32) torn state _ _ _ hf hX (lv_sub hl [0, 1, 2, 3, 4, 6, 7] rfl)
              · replace hf := ite_t c21 hf
                refine lv_iconst (pc := 118) (v := 2) hx hb dX5_read_118 (by decide) ?_
                refine lv_goto (pc := 119) (tgt := 123) hx hb dX5_read_119 (by decide) ?_
                exact L123 (fX5_read_L55 lanes lengths cells n) ih x1 x2 x3 x4 x6 x7 (2 : Int32) torn state _ _ _ hf hX (lv_sub hl [0, 1, 2, 3, 4, 6, 7] rfl)
            · replace hf := ite_f c17 hf
              refine lv_iconst (pc := 92) (v := 3) hx hb dX5_read_92 (by decide) ?_
              refine lv_goto (pc := 93) (tgt := 123) hx hb dX5_read_93 (by decide) ?_
              exact L123 (fX5_read_L55 lanes lengths cells n) ih x1 x2 x3 x4 x6 x7 (3 : Int32) torn state _ _ _ hf hX (lv_sub hl [0, 1, 2, 3, 4, 6, 7] rfl)
          · replace hf := ite_t c15 hf
            refine lv_iconst (pc := 78) (v := 1) hx hb dX5_read_78 (by decide) ?_
            refine lv_goto (pc := 79) (tgt := 123) hx hb dX5_read_79 (by decide) ?_
            exact L123 (fX5_read_L55 lanes lengths cells n) ih x1 x2 x3 x4 x6 x7 (1 : Int32) torn state _ _ _ hf hX (lv_sub hl [0, 1, 2, 3, 4, 6, 7] rfl)
  unfold fX5_read at hf
  refine lv_iload_n (pc := 0) hx hb dX5_read_0 rfl (lv_at hl 1 rfl) ?_
  refine lv_i2l (pc := 1) (v := ((p1).toInt64)) hx hb dX5_read_1 rfl ?_
  refine lv_lconst (pc := 2) (v := 0) hx hb dX5_read_2 (by decide) ?_
  refine lv_ldc2 (pc := 3) hx hb C.1.2.2.2.1 (C.1.2.2.2.2 _ mmX5_read_1) dX5_read_3 ?_
  obtain ⟨r1, g2, hf⟩ := cl1_adv hf
  refine x_callSi (pc := 6) (rest := []) C hX (kX5_in ad l D cI cB cZ cG cS r1 ((p1).toInt64) (0 : Int64) (3 : Int64) g2) (va_cwS 3 C.1.2.2.2.2 gX5_read_X5_in rfl rfl rfl (by decide +kernel) ⟨Nat.le_of_ble_eq_true rfl, Nat.le_of_ble_eq_true rfl⟩) hl.1 rfl rfl (Nat.le_of_ble_eq_true rfl) dX5_read_6 (fun H locs hX => ?_)
  refine lv_if_eq (pc := 9) (tgt := 37) hx hb dX5_read_9 (by decide) (fun c3 => ?_) (fun c3 => ?_)
  · replace hf := ite_t c3 hf
    refine lv_iconst (pc := 37) (v := -1) hx hb dX5_read_37 (by decide) ?_
    obtain ⟨rfl, rfl, rfl⟩ := re3 hf
    exact hret _ _ _ _ _ rfl rfl hX dX5_read_38
  · replace hf := ite_f c3 hf
    refine lv_iload_n (pc := 12) hx hb dX5_read_12 rfl (lv_at hl 2 rfl) ?_
    refine lv_i2l (pc := 13) (v := ((p2).toInt64)) hx hb dX5_read_13 rfl ?_
    refine lv_lconst (pc := 14) (v := 0) hx hb dX5_read_14 (by decide) ?_
    refine lv_ldc2 (pc := 15) hx hb C.1.2.2.2.1 (C.1.2.2.2.2 _ mmX5_read_2) dX5_read_15 ?_
    obtain ⟨r4, g5, hf⟩ := cl1_adv hf
    refine x_callSi (pc := 18) (rest := []) C hX (kX5_in ad l D cI cB cZ cG cS r4 ((p2).toInt64) (0 : Int64) (2 : Int64) g5) (va_cwS 3 C.1.2.2.2.2 gX5_read_X5_in rfl rfl rfl (by decide +kernel) ⟨Nat.le_of_ble_eq_true rfl, Nat.le_of_ble_eq_true rfl⟩) hl.1 rfl rfl (Nat.le_of_ble_eq_true rfl) dX5_read_18 (fun H locs hX => ?_)
    refine lv_if_eq (pc := 21) (tgt := 37) hx hb dX5_read_21 (by decide) (fun c6 => ?_) (fun c6 => ?_)
    · replace hf := ite_t c6 hf
      refine lv_iconst (pc := 37) (v := -1) hx hb dX5_read_37 (by decide) ?_
      obtain ⟨rfl, rfl, rfl⟩ := re3 hf
      exact hret _ _ _ _ _ rfl rfl hX dX5_read_38
    · replace hf := ite_f c6 hf
      refine lv_iload (pc := 24) hx hb dX5_read_24 (lv_at hl 4 rfl) ?_
      refine lv_i2l (pc := 26) (v := ((p4).toInt64)) hx hb dX5_read_26 rfl ?_
      refine lv_lconst (pc := 27) (v := 0) hx hb dX5_read_27 (by decide) ?_
      refine lv_ldc2 (pc := 28) hx hb C.1.2.2.2.1 (C.1.2.2.2.2 _ mmX5_read_3) dX5_read_28 ?_
      obtain ⟨r7, g8, hf⟩ := cl1_adv hf
      refine x_callSi (pc := 31) (rest := []) C hX (kX5_in ad l D cI cB cZ cG cS r7 ((p4).toInt64) (0 : Int64) (40 : Int64) g8) (va_cwS 3 C.1.2.2.2.2 gX5_read_X5_in rfl rfl rfl (by decide +kernel) ⟨Nat.le_of_ble_eq_true rfl, Nat.le_of_ble_eq_true rfl⟩) hl.1 rfl rfl (Nat.le_of_ble_eq_true rfl) dX5_read_31 (fun H locs hX => ?_)
      refine lv_if_ne (pc := 34) (tgt := 39) hx hb dX5_read_34 (by decide) (fun c9 => ?_) (fun c9 => ?_)
      · replace hf := ite_f c9 hf
        refine lv_aload_n (pc := 39) hx hb dX5_read_39 rfl (lv_at hl 0 rfl) ?_
        refine lv_iconst (pc := 40) (v := 0) hx hb dX5_read_40 (by decide) ?_
        refine lv_bipush (pc := 41) (v := 120) hx hb dX5_read_41 (by decide) ?_
        obtain ⟨u10, g11, hf⟩ := cl1_adv hf
        refine x_callVv (pc := 43) (rest := []) (w2 := [(h0, .inr (5, [.ref h_state, .ref h_readPage, .ref h_tape, .int taped, .int fault, .int broken, .int brokenAt, .int spot, .int here, .int token, .int value, .ref h_ends, .ref h_letters, .int moved, .int turned, .int worst, .ref h_seen, .int seenMany, .ref h_lastBy, .ref h_isKept, .ref h_lanes, .ref h_lengths, .ref h_cells, .int torn])), (h_state, .inl (cI, 240, .inl u10)), (h_lanes, .inl (cI, 4, .inl lanes)), (h_lengths, .inl (cI, 4, .inl lengths)), (h_cells, .inl (cI, 160, .inl cells))]) C hX (kX5_copies ad l D cI cB cZ cG cS h0 h_state h_readPage h_tape h_ends h_letters h_seen h_lastBy h_isKept h_lanes h_lengths h_cells taped fault broken brokenAt spot here token value moved turned worst seenMany torn state u10 (0 : Int32) (120 : Int32) g11) (cwV 2 C.1.2.2.2.2 gX5_read_X5_copies rfl rfl rfl (by decide +kernel) ⟨Nat.le_of_ble_eq_true rfl, Nat.le_of_ble_eq_true rfl⟩) [0, 1] [2, 3, 4] [3, 4, 0, 1, 2] rfl rfl rfl rfl (by decide) rfl rfl 0 rfl rfl rfl hl.1 rfl rfl (Nat.le_of_ble_eq_true rfl) dX5_read_43 (fun H locs hX => ?_)
        refine lv_iconst (pc := 46) (v := 0) hx hb dX5_read_46 (by decide) ?_
        refine lv_istore (pc := 47) (lv' := [(5, .int (0 : Int32)), (0, .ref h0), (1, .int p1), (2, .int p2), (3, .int p3), (4, .int p4)]) hx hb dX5_read_47 hl (by decide) rfl (fun ls hl => ?_)
        refine lv_iconst (pc := 49) (v := 0) hx hb dX5_read_49 (by decide) ?_
        refine lv_istore (pc := 50) (lv' := [(6, .int (0 : Int32)), (5, .int (0 : Int32)), (0, .ref h0), (1, .int p1), (2, .int p2), (3, .int p3), (4, .int p4)]) hx hb dX5_read_50 hl (by decide) rfl (fun ls hl => ?_)
        refine lv_iconst (pc := 52) (v := 0) hx hb dX5_read_52 (by decide) ?_
        refine lv_istore (pc := 53) (lv' := [(7, .int (0 : Int32)), (6, .int (0 : Int32)), (5, .int (0 : Int32)), (0, .ref h0), (1, .int p1), (2, .int p2), (3, .int p3), (4, .int p4)]) hx hb dX5_read_53 hl (by decide) rfl (fun ls hl => ?_)
        exact L55  xF p1 p2 p3 p4 (0 : Int32) (0 : Int32) (0 : Int32) torn u10 _ _ _ hf hX (lv_sub hl [3, 4, 5, 6, 7, 2, 1, 0] rfl)
      · replace hf := ite_t c9 hf
        refine lv_iconst (pc := 37) (v := -1) hx hb dX5_read_37 (by decide) ?_
        obtain ⟨rfl, rfl, rfl⟩ := re3 hf
        exact hret _ _ _ _ _ rfl rfl hX dX5_read_38
theorem mmX5_torn_1 : Cond.fieldLink RX5 231 "SlackArmsModel" "torn" "I" ∈ wsX5_torn := List.mem_of_getElem? (i := 1) rfl
theorem miX5_torn_X5 : ∀ w ∈ u_ws RX5 TX5 24, w ∈ wsX5_torn := fun w h => List.mem_cons_of_mem _ (List.mem_append_right _ h)
set_option maxHeartbeats 4000000 in
set_option maxRecDepth 100000 in
theorem kX5_torn (ad : xAd) (l : Launch) (D : va_G) (cI cB cZ cG cS : ClassId) (h0 h_state h_readPage h_tape h_ends h_letters h_seen h_lastBy h_isKept h_lanes h_lengths h_cells : Nat) (taped : Int32) (fault : Int32) (broken : Int32) (brokenAt : Int32) (spot : Int32) (here : Int32) (token : Int32) (value : Int32) (moved : Int32) (turned : Int32) (worst : Int32) (seenMany : Int32) (torn : Int32) (r0 : Int32)  (hf : fX5_torn  torn = some r0) : xMi ad l yX5_torn wsX5_torn ({ frames := 0, cells := 0, slots := 0, locals := 0 } : Room) D (xTY cI cB cZ cG cS) [.ref h0] [(h0, .inr (5, [.ref h_state, .ref h_readPage, .ref h_tape, .int taped, .int fault, .int broken, .int brokenAt, .int spot, .int here, .int token, .int value, .ref h_ends, .ref h_letters, .int moved, .int turned, .int worst, .ref h_seen, .int seenMany, .ref h_lastBy, .ref h_isKept, .ref h_lanes, .ref h_lengths, .ref h_cells, .int torn]))] [(h0, .inr (5, [.ref h_state, .ref h_readPage, .ref h_tape, .int taped, .int fault, .int broken, .int brokenAt, .int spot, .int here, .int token, .int value, .ref h_ends, .ref h_letters, .int moved, .int turned, .int worst, .ref h_seen, .int seenMany, .ref h_lastBy, .ref h_isKept, .ref h_lanes, .ref h_lengths, .ref h_cells, .int torn]))] r0 := by
  refine xMi_of (cc := cX5_torn) (maxL := 1) (ty := .int) (by decide) rfl (Nat.le_of_ble_eq_true rfl) ?_
  intro p e s m args below meth c A Q ls C hX hl hret
  have hx := C.1.1
  have hb := C.1.2.1
  have hl : lv_has ls 1 [(0, .ref h0)] := hl
  unfold fX5_torn at hf
  refine lv_aload_n (pc := 0) hx hb dX5_torn_0 rfl (lv_at hl 0 rfl) ?_
  refine x_getf (pc := 1) (Cn := RX5) (T := TX5) (N := 24) C hX 0 rfl rfl miX5_torn_X5 23 (by decide) mmX5_torn_1 rfl dX5_torn_1 ?_
  obtain ⟨rfl⟩ := re1 hf
  exact hret _ _ _ _ _ rfl rfl hX dX5_torn_4
theorem mmX5_count_1 : Cond.fieldLink RX5 7 "SlackArmsModel" "state" "[I" ∈ wsX5_count := List.mem_of_getElem? (i := 1) rfl
theorem miX5_count_X5 : ∀ w ∈ u_ws RX5 TX5 24, w ∈ wsX5_count := fun w h => List.mem_cons_of_mem _ (List.mem_append_right _ h)
theorem mmX5_count_2 : Cond.fieldLink RX5 110 "SlackArmsModel" "seenMany" "I" ∈ wsX5_count := List.mem_of_getElem? (i := 2) rfl
theorem mmX5_count_3 : Cond.fieldLink RX5 31 "SlackArmsModel" "isKept" "[Z" ∈ wsX5_count := List.mem_of_getElem? (i := 3) rfl
theorem mmX5_count_4 : Cond.fieldLink RX5 50 "SlackArmsModel" "taped" "I" ∈ wsX5_count := List.mem_of_getElem? (i := 4) rfl
theorem mmX5_count_5 : Cond.fieldLink RX5 35 "SlackArmsModel" "lanes" "[I" ∈ wsX5_count := List.mem_of_getElem? (i := 5) rfl
theorem mmX5_count_6 : Cond.fieldLink RX5 38 "SlackArmsModel" "lengths" "[I" ∈ wsX5_count := List.mem_of_getElem? (i := 6) rfl
set_option maxHeartbeats 4000000 in
set_option maxRecDepth 100000 in
theorem kX5_count (ad : xAd) (l : Launch) (D : va_G) (cI cB cZ cG cS : ClassId) (h0 h_state h_readPage h_tape h_ends h_letters h_seen h_lastBy h_isKept h_lanes h_lengths h_cells : Nat) (taped : Int32) (fault : Int32) (broken : Int32) (brokenAt : Int32) (spot : Int32) (here : Int32) (token : Int32) (value : Int32) (moved : Int32) (turned : Int32) (worst : Int32) (seenMany : Int32) (torn : Int32) (state : (Nat → Int32)) (isKept : (Nat → Int32)) (lanes : (Nat → Int32)) (lengths : (Nat → Int32)) (r0 : Int32) (p1 : Int32) (hf : fX5_count p1 taped seenMany state isKept lanes lengths = some r0) : xMi ad l yX5_count wsX5_count ({ frames := 0, cells := 0, slots := 0, locals := 0 } : Room) D (xTY cI cB cZ cG cS) [.ref h0, .int p1] [(h0, .inr (5, [.ref h_state, .ref h_readPage, .ref h_tape, .int taped, .int fault, .int broken, .int brokenAt, .int spot, .int here, .int token, .int value, .ref h_ends, .ref h_letters, .int moved, .int turned, .int worst, .ref h_seen, .int seenMany, .ref h_lastBy, .ref h_isKept, .ref h_lanes, .ref h_lengths, .ref h_cells, .int torn])), (h_state, .inl (cI, 240, .inl state)), (h_isKept, .inl (cZ, 2, .inl isKept)), (h_lanes, .inl (cI, 4, .inl lanes)), (h_lengths, .inl (cI, 4, .inl lengths))] [(h0, .inr (5, [.ref h_state, .ref h_readPage, .ref h_tape, .int taped, .int fault, .int broken, .int brokenAt, .int spot, .int here, .int token, .int value, .ref h_ends, .ref h_letters, .int moved, .int turned, .int worst, .ref h_seen, .int seenMany, .ref h_lastBy, .ref h_isKept, .ref h_lanes, .ref h_lengths, .ref h_cells, .int torn])), (h_state, .inl (cI, 240, .inl state)), (h_isKept, .inl (cZ, 2, .inl isKept)), (h_lanes, .inl (cI, 4, .inl lanes)), (h_lengths, .inl (cI, 4, .inl lengths))] r0 := by
  refine xMi_of (cc := cX5_count) (maxL := 5) (ty := .int) (by decide) rfl (Nat.le_of_ble_eq_true rfl) ?_
  intro p e s m args below meth c A Q ls C hX hl hret
  have hx := C.1.1
  have hb := C.1.2.1
  have hl : lv_has ls 5 [(0, .ref h0), (1, .int p1)] := hl
  have L107 : ∀ (y0 : Int32) (H : Heap) (locs : List Loc) (ls : Array Slot), fX5_count_L107 taped seenMany state isKept lanes lengths y0 = some r0 → xSt A s D [(h0, .inr (5, [.ref h_state, .ref h_readPage, .ref h_tape, .int taped, .int fault, .int broken, .int brokenAt, .int spot, .int here, .int token, .int value, .ref h_ends, .ref h_letters, .int moved, .int turned, .int worst, .ref h_seen, .int seenMany, .ref h_lastBy, .ref h_isKept, .ref h_lanes, .ref h_lengths, .ref h_cells, .int torn])), (h_state, .inl (cI, 240, .inl state)), (h_isKept, .inl (cZ, 2, .inl isKept)), (h_lanes, .inl (cI, 4, .inl lanes)), (h_lengths, .inl (cI, 4, .inl lengths))] H locs → lv_has ls 5 [(0, .ref h0)] → W p l e ({ frames := 0, cells := 0, slots := 0, locals := 0 } : Room) s m args below meth c H locs 0 0 Q (F0 m 107 ls [.int y0]) := by
    intro  y0 H locs ls hf hX hl
    unfold fX5_count_L107 at hf
    refine lv_aload_n (pc := 107) hx hb dX5_count_107 rfl (lv_at hl 0 rfl) ?_
    refine x_getf (pc := 108) (Cn := RX5) (T := TX5) (N := 24) C hX 0 rfl rfl miX5_count_X5 19 (by decide) mmX5_count_3 rfl dX5_count_108 ?_
    refine lv_iconst (pc := 111) (v := 1) hx hb dX5_count_111 (by decide) ?_
    replace hf := chk_adv hf
    have i7 := hf.1
    replace hf := hf.2
    refine x_zald (pc := 112) C hX 2 2 rfl rfl i7 dX5_count_112 ?_
    refine lv_if_eq (pc := 113) (tgt := 120) hx hb dX5_count_113 (by decide) (fun c8 => ?_) (fun c8 => ?_)
    · replace hf := ite_t c8 hf
      refine lv_iconst (pc := 120) (v := 0) hx hb dX5_count_120 (by decide) ?_
      refine lv_iadd (pc := 121) hx hb dX5_count_121 ?_
      obtain ⟨rfl⟩ := re1 hf
      exact hret _ _ _ _ _ rfl rfl hX dX5_count_122
    · replace hf := ite_f c8 hf
      refine lv_iconst (pc := 116) (v := 1) hx hb dX5_count_116 (by decide) ?_
      refine lv_goto (pc := 117) (tgt := 121) hx hb dX5_count_117 (by decide) ?_
      refine lv_iadd (pc := 121) hx hb dX5_count_121 ?_
      obtain ⟨rfl⟩ := re1 hf
      exact hret _ _ _ _ _ rfl rfl hX dX5_count_122
  have L7 : ∀ (n : Nat), ∀ (x1 : Int32) (x2 : Int32) (x3 : Int32) (x4 : Int32) (H : Heap) (locs : List Loc) (ls : Array Slot), fX5_count_L7 taped seenMany state isKept lanes lengths n x1 x2 x3 x4 = some r0 → xSt A s D [(h0, .inr (5, [.ref h_state, .ref h_readPage, .ref h_tape, .int taped, .int fault, .int broken, .int brokenAt, .int spot, .int here, .int token, .int value, .ref h_ends, .ref h_letters, .int moved, .int turned, .int worst, .ref h_seen, .int seenMany, .ref h_lastBy, .ref h_isKept, .ref h_lanes, .ref h_lengths, .ref h_cells, .int torn])), (h_state, .inl (cI, 240, .inl state)), (h_isKept, .inl (cZ, 2, .inl isKept)), (h_lanes, .inl (cI, 4, .inl lanes)), (h_lengths, .inl (cI, 4, .inl lengths))] H locs → lv_has ls 5 [(0, .ref h0), (1, .int x1), (2, .int x2), (3, .int x3), (4, .int x4)] → W p l e ({ frames := 0, cells := 0, slots := 0, locals := 0 } : Room) s m args below meth c H locs 0 0 Q (F0 m 7 ls []) := by
    intro n
    induction n with
    | zero =>
      intro x1 x2 x3 x4 H locs ls hf
      rw [fX5_count_L7] at hf
      cases hf
    | succ n ih =>
      intro x1 x2 x3 x4 H locs ls hf hX hl
      rw [fX5_count_L7] at hf
      refine lv_iload (pc := 7) hx hb dX5_count_7 (lv_at hl 4 rfl) ?_
      refine lv_aload_n (pc := 9) hx hb dX5_count_9 rfl (lv_at hl 0 rfl) ?_
      refine x_getf (pc := 10) (Cn := RX5) (T := TX5) (N := 24) C hX 0 rfl rfl miX5_count_X5 0 (by decide) mmX5_count_1 rfl dX5_count_10 ?_
      refine lv_bipush (pc := 13) (v := 20) hx hb dX5_count_13 (by decide) ?_
      replace hf := chk_adv hf
      have i1 := hf.1
      replace hf := hf.2
      refine x_iald (pc := 15) C hX 1 0 rfl rfl i1 dX5_count_15 ?_
      refine lv_icmp_ge (pc := 16) (tgt := 50) hx hb dX5_count_16 (by decide) (fun c2 => ?_) (fun c2 => ?_)
      · replace hf := ite_t c2 hf
        refine lv_iload_n (pc := 50) hx hb dX5_count_50 rfl (lv_at hl 1 rfl) ?_
        rcases Decidable.em (x1 = 0) with c3 | c3
        · replace hf := ite_t c3 hf
          refine lv_tableIn (pc := 51) (off := 37) (tgt := 88) hx hb dX5_count_51 (by rw [c3]; decide) (by rw [c3]; decide) (by rw [c3]; decide) (by decide) ?_
          refine lv_aload_n (pc := 88) hx hb dX5_count_88 rfl (lv_at hl 0 rfl) ?_
          refine x_getf (pc := 89) (Cn := RX5) (T := TX5) (N := 24) C hX 0 rfl rfl miX5_count_X5 17 (by decide) mmX5_count_2 rfl dX5_count_89 ?_
          obtain ⟨rfl⟩ := re1 hf
          exact hret _ _ _ _ _ rfl rfl hX dX5_count_92
        · replace hf := ite_f c3 hf
          rcases Decidable.em (x1 = 1) with c4 | c4
          · replace hf := ite_t c4 hf
            refine lv_tableIn (pc := 51) (off := 42) (tgt := 93) hx hb dX5_count_51 (by rw [c4]; decide) (by rw [c4]; decide) (by rw [c4]; decide) (by decide) ?_
            refine lv_aload_n (pc := 93) hx hb dX5_count_93 rfl (lv_at hl 0 rfl) ?_
            refine x_getf (pc := 94) (Cn := RX5) (T := TX5) (N := 24) C hX 0 rfl rfl miX5_count_X5 19 (by decide) mmX5_count_3 rfl dX5_count_94 ?_
            refine lv_iconst (pc := 97) (v := 0) hx hb dX5_count_97 (by decide) ?_
            replace hf := chk_adv hf
            have i5 := hf.1
            replace hf := hf.2
            refine x_zald (pc := 98) C hX 2 2 rfl rfl i5 dX5_count_98 ?_
            refine lv_if_eq (pc := 99) (tgt := 106) hx hb dX5_count_99 (by decide) (fun c6 => ?_) (fun c6 => ?_)
            · replace hf := ite_t c6 hf
              refine lv_iconst (pc := 106) (v := 0) hx hb dX5_count_106 (by decide) ?_
              exact L107  (0 : Int32) _ _ _ hf hX (lv_sub hl [0] rfl)
            · replace hf := ite_f c6 hf
              refine lv_iconst (pc := 102) (v := 1) hx hb dX5_count_102 (by decide) ?_
              refine lv_goto (pc := 103) (tgt := 107) hx hb dX5_count_103 (by decide) ?_
              exact L107  (1 : Int32) _ _ _ hf hX (lv_sub hl [0] rfl)
          · replace hf := ite_f c4 hf
            rcases Decidable.em (x1 = 2) with c9 | c9
            · replace hf := ite_t c9 hf
              refine lv_tableIn (pc := 51) (off := 72) (tgt := 123) hx hb dX5_count_51 (by rw [c9]; decide) (by rw [c9]; decide) (by rw [c9]; decide) (by decide) ?_
              refine lv_aload_n (pc := 123) hx hb dX5_count_123 rfl (lv_at hl 0 rfl) ?_
              refine x_getf (pc := 124) (Cn := RX5) (T := TX5) (N := 24) C hX 0 rfl rfl miX5_count_X5 3 (by decide) mmX5_count_4 rfl dX5_count_124 ?_
              obtain ⟨rfl⟩ := re1 hf
              exact hret _ _ _ _ _ rfl rfl hX dX5_count_127
            · replace hf := ite_f c9 hf
              rcases Decidable.em (x1 = 3) with c10 | c10
              · replace hf := ite_t c10 hf
                refine lv_tableIn (pc := 51) (off := 77) (tgt := 128) hx hb dX5_count_51 (by rw [c10]; decide) (by rw [c10]; decide) (by rw [c10]; decide) (by decide) ?_
                refine lv_aload_n (pc := 128) hx hb dX5_count_128 rfl (lv_at hl 0 rfl) ?_
                refine x_getf (pc := 129) (Cn := RX5) (T := TX5) (N := 24) C hX 0 rfl rfl miX5_count_X5 20 (by decide) mmX5_count_5 rfl dX5_count_129 ?_
                refine lv_iconst (pc := 132) (v := 0) hx hb dX5_count_132 (by decide) ?_
                replace hf := chk_adv hf
                have i11 := hf.1
                replace hf := hf.2
                refine x_iald (pc := 133) C hX 3 0 rfl rfl i11 dX5_count_133 ?_
                refine lv_bipush (pc := 134) (v := -4) hx hb dX5_count_134 (by decide) ?_
                refine lv_icmp_ne (pc := 136) (tgt := 144) hx hb dX5_count_136 (by decide) (fun c12 => ?_) (fun c12 => ?_)
                · replace hf := ite_f c12 hf
                  refine lv_aload_n (pc := 144) hx hb dX5_count_144 rfl (lv_at hl 0 rfl) ?_
                  refine x_getf (pc := 145) (Cn := RX5) (T := TX5) (N := 24) C hX 0 rfl rfl miX5_count_X5 21 (by decide) mmX5_count_6 rfl dX5_count_145 ?_
                  refine lv_iconst (pc := 148) (v := 0) hx hb dX5_count_148 (by decide) ?_
                  replace hf := chk_adv hf
                  have i13 := hf.1
                  replace hf := hf.2
                  refine x_iald (pc := 149) C hX 4 0 rfl rfl i13 dX5_count_149 ?_
                  obtain ⟨rfl⟩ := re1 hf
                  exact hret _ _ _ _ _ rfl rfl hX dX5_count_150
                · replace hf := ite_t c12 hf
                  refine lv_bipush (pc := 139) (v := -4) hx hb dX5_count_139 (by decide) ?_
                  refine lv_goto (pc := 141) (tgt := 150) hx hb dX5_count_141 (by decide) ?_
                  obtain ⟨rfl⟩ := re1 hf
                  exact hret _ _ _ _ _ rfl rfl hX dX5_count_150
              · replace hf := ite_f c10 hf
                rcases Decidable.em (x1 = 4) with c14 | c14
                · replace hf := ite_t c14 hf
                  refine lv_tableIn (pc := 51) (off := 100) (tgt := 151) hx hb dX5_count_51 (by rw [c14]; decide) (by rw [c14]; decide) (by rw [c14]; decide) (by decide) ?_
                  refine lv_iload_n (pc := 151) hx hb dX5_count_151 rfl (lv_at hl 2 rfl) ?_
                  obtain ⟨rfl⟩ := re1 hf
                  exact hret _ _ _ _ _ rfl rfl hX dX5_count_152
                · replace hf := ite_f c14 hf
                  rcases Decidable.em (x1 = 5) with c15 | c15
                  · replace hf := ite_t c15 hf
                    refine lv_tableIn (pc := 51) (off := 102) (tgt := 153) hx hb dX5_count_51 (by rw [c15]; decide) (by rw [c15]; decide) (by rw [c15]; decide) (by decide) ?_
                    refine lv_iload_n (pc := 153) hx hb dX5_count_153 rfl (lv_at hl 3 rfl) ?_
                    obtain ⟨rfl⟩ := re1 hf
                    exact hret _ _ _ _ _ rfl rfl hX dX5_count_154
                  · replace hf := ite_f c15 hf
                    refine lv_tableOut (pc := 51) (tgt := 155) hx hb dX5_count_51 (by have := tbl_ne (n := 0) (by decide) c3; have := tbl_ne (n := 1) (by decide) c4; have := tbl_ne (n := 2) (by decide) c9; have := tbl_ne (n := 3) (by decide) c10; have := tbl_ne (n := 4) (by decide) c14; have := tbl_ne (n := 5) (by decide) c15; omega) (by decide) ?_
                    refine lv_iconst (pc := 155) (v := -1) hx hb dX5_count_155 (by decide) ?_
                    obtain ⟨rfl⟩ := re1 hf
                    exact hret _ _ _ _ _ rfl rfl hX dX5_count_156
      · replace hf := ite_f c2 hf
        refine lv_iload_n (pc := 19) hx hb dX5_count_19 rfl (lv_at hl 2 rfl) ?_
        refine lv_aload_n (pc := 20) hx hb dX5_count_20 rfl (lv_at hl 0 rfl) ?_
        refine x_getf (pc := 21) (Cn := RX5) (T := TX5) (N := 24) C hX 0 rfl rfl miX5_count_X5 0 (by decide) mmX5_count_1 rfl dX5_count_21 ?_
        refine lv_iconst (pc := 24) (v := 4) hx hb dX5_count_24 (by decide) ?_
        refine lv_iload (pc := 25) hx hb dX5_count_25 (lv_at hl 4 rfl) ?_
        refine lv_iadd (pc := 27) hx hb dX5_count_27 ?_
        replace hf := chk_adv hf
        have i16 := hf.1
        replace hf := hf.2
        refine x_iald (pc := 28) C hX 1 0 rfl rfl i16 dX5_count_28 ?_
        refine lv_iadd (pc := 29) hx hb dX5_count_29 ?_
        refine lv_topi (fun v17 ev17 => ?_)
        replace hf := bnd_use ev17 hf
        refine lv_istore_n (pc := 30) (lv' := [(2, .int v17), (0, .ref h0), (1, .int x1), (3, .int x3), (4, .int x4)]) hx hb dX5_count_30 rfl hl (by decide) rfl (fun ls hl => ?_)
        refine lv_iload_n (pc := 31) hx hb dX5_count_31 rfl (lv_at hl 3 rfl) ?_
        refine lv_aload_n (pc := 32) hx hb dX5_count_32 rfl (lv_at hl 1 rfl) ?_
        refine x_getf (pc := 33) (Cn := RX5) (T := TX5) (N := 24) C hX 0 rfl rfl miX5_count_X5 0 (by decide) mmX5_count_1 rfl dX5_count_33 ?_
        refine lv_bipush (pc := 36) (v := 12) hx hb dX5_count_36 (by decide) ?_
        refine lv_iload (pc := 38) hx hb dX5_count_38 (lv_at hl 4 rfl) ?_
        refine lv_iadd (pc := 40) hx hb dX5_count_40 ?_
        replace hf := chk_adv hf
        have i18 := hf.1
        replace hf := hf.2
        refine x_iald (pc := 41) C hX 1 0 rfl rfl i18 dX5_count_41 ?_
        refine lv_iadd (pc := 42) hx hb dX5_count_42 ?_
        refine lv_topi (fun v19 ev19 => ?_)
        replace hf := bnd_use ev19 hf
        refine lv_istore_n (pc := 43) (lv' := [(3, .int v19), (2, .int v17), (0, .ref h0), (1, .int x1), (4, .int x4)]) hx hb dX5_count_43 rfl hl (by decide) rfl (fun ls hl => ?_)
        obtain ⟨v20, ev20⟩ : ∃ y : Int32, y = (x4 + (1 : Int32)) := ⟨_, rfl⟩
        replace hf := bnd_use ev20 hf
        refine lv_iinc (pc := 44) (v := v20) (lv' := [(4, .int v20), (3, .int v19), (2, .int v17), (0, .ref h0), (1, .int x1)]) hx hb dX5_count_44 hl (k := 4) rfl (by rw [ev20]; rfl) (by decide) rfl (fun ls hl => ?_)
        refine lv_goto (pc := 47) (tgt := 7) hx hb dX5_count_47 (by decide) ?_
        exact ih x1 v17 v19 v20 _ _ _ hf hX (lv_sub hl [3, 4, 2, 1, 0] rfl)
  unfold fX5_count at hf
  refine lv_iconst (pc := 0) (v := 0) hx hb dX5_count_0 (by decide) ?_
  refine lv_istore_n (pc := 1) (lv' := [(2, .int (0 : Int32)), (0, .ref h0), (1, .int p1)]) hx hb dX5_count_1 rfl hl (by decide) rfl (fun ls hl => ?_)
  refine lv_iconst (pc := 2) (v := 0) hx hb dX5_count_2 (by decide) ?_
  refine lv_istore_n (pc := 3) (lv' := [(3, .int (0 : Int32)), (2, .int (0 : Int32)), (0, .ref h0), (1, .int p1)]) hx hb dX5_count_3 rfl hl (by decide) rfl (fun ls hl => ?_)
  refine lv_iconst (pc := 4) (v := 0) hx hb dX5_count_4 (by decide) ?_
  refine lv_istore (pc := 5) (lv' := [(4, .int (0 : Int32)), (3, .int (0 : Int32)), (2, .int (0 : Int32)), (0, .ref h0), (1, .int p1)]) hx hb dX5_count_5 hl (by decide) rfl (fun ls hl => ?_)
  exact L7  xF p1 (0 : Int32) (0 : Int32) (0 : Int32) _ _ _ hf hX (lv_sub hl [3, 4, 2, 1, 0] rfl)
