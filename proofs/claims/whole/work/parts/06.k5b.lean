theorem mmX5_text_1 : Cond.fieldLink RX5 54 "SlackArmsModel" "broken" "I" ∈ wsX5_text := List.mem_of_getElem? (i := 1) rfl
theorem miX5_text_X5 : ∀ w ∈ u_ws RX5 TX5 24, w ∈ wsX5_text := fun w h => List.mem_cons_of_mem _ (List.mem_append_right _ h)
theorem mmX5_text_2 : Cond.fieldLink RX5 66 "SlackArmsModel" "spot" "I" ∈ wsX5_text := List.mem_of_getElem? (i := 2) rfl
theorem mmX5_text_5 : Cond.fieldLink RX5 50 "SlackArmsModel" "taped" "I" ∈ wsX5_text := List.mem_of_getElem? (i := 5) rfl
theorem mmX5_text_6 : Cond.fieldLink RX5 107 "SlackArmsModel" "fault" "I" ∈ wsX5_text := List.mem_of_getElem? (i := 6) rfl
theorem mmX5_text_9 : Cond.fieldLink RX5 110 "SlackArmsModel" "seenMany" "I" ∈ wsX5_text := List.mem_of_getElem? (i := 9) rfl
theorem mmX5_text_10 : Cond.fieldLink RX5 31 "SlackArmsModel" "isKept" "[Z" ∈ wsX5_text := List.mem_of_getElem? (i := 10) rfl
theorem mmX5_text_8 : Cond.fieldLink RX5 7 "SlackArmsModel" "state" "[I" ∈ wsX5_text := List.mem_of_getElem? (i := 8) rfl
theorem mmX5_text_3 : Cond.fieldLink RX5 13 "SlackArmsModel" "readPage" "[I" ∈ wsX5_text := List.mem_of_getElem? (i := 3) rfl
theorem mmX5_text_7 : Cond.fieldLink RX5 60 "SlackArmsModel" "brokenAt" "I" ∈ wsX5_text := List.mem_of_getElem? (i := 7) rfl
theorem mmX5_text_4 : Cond.fieldLink RX5 63 "SlackArmsModel" "token" "I" ∈ wsX5_text := List.mem_of_getElem? (i := 4) rfl
set_option maxHeartbeats 4000000 in
set_option maxRecDepth 100000 in
theorem kX5_text (ad : xAd) (l : Launch) (D : va_G) (cI cB cZ cG cS : ClassId) (h0 h_state h_readPage h_tape h_ends h_letters h_seen h_lastBy h_isKept h_lanes h_lengths h_cells : Nat) (taped : Int32) (fault : Int32) (broken : Int32) (brokenAt : Int32) (spot : Int32) (here : Int32) (token : Int32) (value : Int32) (moved : Int32) (turned : Int32) (worst : Int32) (seenMany : Int32) (torn : Int32) (state : (Nat → Int32)) (readPage : (Nat → Int32)) (tape : (Nat → Int32)) (ends : (Nat → Int32)) (letters : (Nat → Int32)) (isKept : (Nat → Int32)) (r0 : Int32) (o_taped' : Int32) (o_fault' : Int32) (o_broken' : Int32) (o_brokenAt' : Int32) (o_spot' : Int32) (o_here' : Int32) (o_token' : Int32) (o_value' : Int32) (o_seenMany' : Int32) (o_state' : (Nat → Int32)) (o_readPage' : (Nat → Int32)) (o_isKept' : (Nat → Int32))  (hf : fX5_text  taped fault broken brokenAt spot here token value seenMany state readPage tape ends letters isKept = some (r0, o_taped', o_fault', o_broken', o_brokenAt', o_spot', o_here', o_token', o_value', o_seenMany', o_state', o_readPage', o_isKept')) : xMi ad l yX5_text wsX5_text ({ frames := 5, cells := 0, slots := 0, locals := 112 } : Room) D (xTY cI cB cZ cG cS) [.ref h0] [(h0, .inr (5, [.ref h_state, .ref h_readPage, .ref h_tape, .int taped, .int fault, .int broken, .int brokenAt, .int spot, .int here, .int token, .int value, .ref h_ends, .ref h_letters, .int moved, .int turned, .int worst, .ref h_seen, .int seenMany, .ref h_lastBy, .ref h_isKept, .ref h_lanes, .ref h_lengths, .ref h_cells, .int torn])), (h_state, .inl (cI, 240, .inl state)), (h_readPage, .inl (cI, 40, .inl readPage)), (h_tape, .inl (cI, 160, .inl tape)), (h_ends, .inl (cI, 7, .inl ends)), (h_letters, .inl (cI, 23, .inl letters)), (h_isKept, .inl (cZ, 2, .inl isKept))] [(h0, .inr (5, [.ref h_state, .ref h_readPage, .ref h_tape, .int o_taped', .int o_fault', .int o_broken', .int o_brokenAt', .int o_spot', .int o_here', .int o_token', .int o_value', .ref h_ends, .ref h_letters, .int moved, .int turned, .int worst, .ref h_seen, .int o_seenMany', .ref h_lastBy, .ref h_isKept, .ref h_lanes, .ref h_lengths, .ref h_cells, .int torn])), (h_state, .inl (cI, 240, .inl o_state')), (h_readPage, .inl (cI, 40, .inl o_readPage')), (h_tape, .inl (cI, 160, .inl tape)), (h_ends, .inl (cI, 7, .inl ends)), (h_letters, .inl (cI, 23, .inl letters)), (h_isKept, .inl (cZ, 2, .inl o_isKept'))] r0 := by
  refine xMi_of (cc := cX5_text) (maxL := 3) (ty := .int) (by decide) rfl (Nat.le_of_ble_eq_true rfl) ?_
  intro p e s m args below meth c A Q ls C hX hl hret
  have hx := C.1.1
  have hb := C.1.2.1
  have hl : lv_has ls 3 [(0, .ref h0)] := hl
  have L91 : ∀ (n : Nat), ∀ (x1 : Int32) (x2 : Int32) (taped : Int32) (fault : Int32) (broken : Int32) (brokenAt : Int32) (spot : Int32) (here : Int32) (token : Int32) (value : Int32) (seenMany : Int32) (state : (Nat → Int32)) (readPage : (Nat → Int32)) (isKept : (Nat → Int32)) (H : Heap) (locs : List Loc) (ls : Array Slot), fX5_text_L91 tape ends letters n x1 x2 taped fault broken brokenAt spot here token value seenMany state readPage isKept = some (r0, o_taped', o_fault', o_broken', o_brokenAt', o_spot', o_here', o_token', o_value', o_seenMany', o_state', o_readPage', o_isKept') → xSt A s D [(h0, .inr (5, [.ref h_state, .ref h_readPage, .ref h_tape, .int taped, .int fault, .int broken, .int brokenAt, .int spot, .int here, .int token, .int value, .ref h_ends, .ref h_letters, .int moved, .int turned, .int worst, .ref h_seen, .int seenMany, .ref h_lastBy, .ref h_isKept, .ref h_lanes, .ref h_lengths, .ref h_cells, .int torn])), (h_state, .inl (cI, 240, .inl state)), (h_readPage, .inl (cI, 40, .inl readPage)), (h_tape, .inl (cI, 160, .inl tape)), (h_ends, .inl (cI, 7, .inl ends)), (h_letters, .inl (cI, 23, .inl letters)), (h_isKept, .inl (cZ, 2, .inl isKept))] H locs → lv_has ls 3 [(0, .ref h0), (1, .int x1), (2, .int x2)] → W p l e ({ frames := 5, cells := 0, slots := 0, locals := 112 } : Room) s m args below meth c H locs 0 0 Q (F0 m 91 ls []) := by
    intro n
    induction n with
    | zero =>
      intro x1 x2 taped fault broken brokenAt spot here token value seenMany state readPage isKept H locs ls hf
      rw [fX5_text_L91] at hf
      cases hf
    | succ n ih =>
      intro x1 x2 taped fault broken brokenAt spot here token value seenMany state readPage isKept H locs ls hf hX hl
      rw [fX5_text_L91] at hf
      refine lv_iload_n (pc := 91) hx hb dX5_text_91 rfl (lv_at hl 2 rfl) ?_
      refine lv_bipush (pc := 92) (v := 40) hx hb dX5_text_92 (by decide) ?_
      refine lv_icmp_ge (pc := 94) (tgt := 115) hx hb dX5_text_94 (by decide) (fun c11 => ?_) (fun c11 => ?_)
      · replace hf := ite_t c11 hf
        refine lv_aload_n (pc := 115) hx hb dX5_text_115 rfl (lv_at hl 0 rfl) ?_
        refine lv_iconst (pc := 116) (v := 0) hx hb dX5_text_116 (by decide) ?_
        refine x_putf (pc := 117) (Cn := RX5) (T := TX5) (N := 24) C hX tyX5 tyX5_ok nmX5 0 rfl rfl miX5_text_X5 17 (by decide) mmX5_text_9 rfl rfl (Nat.le_of_ble_eq_true rfl) [(h0, .inr (5, [.ref h_state, .ref h_readPage, .ref h_tape, .int taped, .int fault, .int broken, .int brokenAt, .int spot, .int here, .int token, .int value, .ref h_ends, .ref h_letters, .int moved, .int turned, .int worst, .ref h_seen, .int (0 : Int32), .ref h_lastBy, .ref h_isKept, .ref h_lanes, .ref h_lengths, .ref h_cells, .int torn])), (h_state, .inl (cI, 240, .inl state)), (h_readPage, .inl (cI, 40, .inl readPage)), (h_tape, .inl (cI, 160, .inl tape)), (h_ends, .inl (cI, 7, .inl ends)), (h_letters, .inl (cI, 23, .inl letters)), (h_isKept, .inl (cZ, 2, .inl isKept))] rfl dX5_text_117 (fun H locs hX => ?_)
        refine lv_aload_n (pc := 120) hx hb dX5_text_120 rfl (lv_at hl 0 rfl) ?_
        refine x_getf (pc := 121) (Cn := RX5) (T := TX5) (N := 24) C hX 0 rfl rfl miX5_text_X5 19 (by decide) mmX5_text_10 rfl dX5_text_121 ?_
        refine lv_iconst (pc := 124) (v := 0) hx hb dX5_text_124 (by decide) ?_
        refine lv_iconst (pc := 125) (v := 0) hx hb dX5_text_125 (by decide) ?_
        replace hf := chk_adv hf
        have i12 := hf.1
        replace hf := hf.2
        obtain ⟨f13, ef13⟩ : ∃ y : Nat → Int32, y = (upd isKept ((0 : Int32)).toNatClampNeg (vp_nar .boolean (0 : Int32))) := ⟨_, rfl⟩
        replace hf := bnd_use ef13 hf
        refine x_zast (pc := 126) C hX 6 2 rfl rfl i12 [(h0, .inr (5, [.ref h_state, .ref h_readPage, .ref h_tape, .int taped, .int fault, .int broken, .int brokenAt, .int spot, .int here, .int token, .int value, .ref h_ends, .ref h_letters, .int moved, .int turned, .int worst, .ref h_seen, .int (0 : Int32), .ref h_lastBy, .ref h_isKept, .ref h_lanes, .ref h_lengths, .ref h_cells, .int torn])), (h_state, .inl (cI, 240, .inl state)), (h_readPage, .inl (cI, 40, .inl readPage)), (h_tape, .inl (cI, 160, .inl tape)), (h_ends, .inl (cI, 7, .inl ends)), (h_letters, .inl (cI, 23, .inl letters)), (h_isKept, .inl (cZ, 2, .inl f13))] (by subst ef13; rfl) dX5_text_126 (fun H locs hX => ?_)
        refine lv_aload_n (pc := 127) hx hb dX5_text_127 rfl (lv_at hl 0 rfl) ?_
        refine x_getf (pc := 128) (Cn := RX5) (T := TX5) (N := 24) C hX 0 rfl rfl miX5_text_X5 19 (by decide) mmX5_text_10 rfl dX5_text_128 ?_
        refine lv_iconst (pc := 131) (v := 1) hx hb dX5_text_131 (by decide) ?_
        refine lv_iconst (pc := 132) (v := 0) hx hb dX5_text_132 (by decide) ?_
        replace hf := chk_adv hf
        have i14 := hf.1
        replace hf := hf.2
        obtain ⟨f15, ef15⟩ : ∃ y : Nat → Int32, y = (upd f13 ((1 : Int32)).toNatClampNeg (vp_nar .boolean (0 : Int32))) := ⟨_, rfl⟩
        replace hf := bnd_use ef15 hf
        refine x_zast (pc := 133) C hX 6 2 rfl rfl i14 [(h0, .inr (5, [.ref h_state, .ref h_readPage, .ref h_tape, .int taped, .int fault, .int broken, .int brokenAt, .int spot, .int here, .int token, .int value, .ref h_ends, .ref h_letters, .int moved, .int turned, .int worst, .ref h_seen, .int (0 : Int32), .ref h_lastBy, .ref h_isKept, .ref h_lanes, .ref h_lengths, .ref h_cells, .int torn])), (h_state, .inl (cI, 240, .inl state)), (h_readPage, .inl (cI, 40, .inl readPage)), (h_tape, .inl (cI, 160, .inl tape)), (h_ends, .inl (cI, 7, .inl ends)), (h_letters, .inl (cI, 23, .inl letters)), (h_isKept, .inl (cZ, 2, .inl f15))] (by subst ef15; rfl) dX5_text_133 (fun H locs hX => ?_)
        refine lv_iload_n (pc := 134) hx hb dX5_text_134 rfl (lv_at hl 1 rfl) ?_
        obtain ⟨rfl, rfl, rfl, rfl, rfl, rfl, rfl, rfl, rfl, rfl, rfl, rfl, rfl⟩ := re13 hf
        exact hret _ _ _ _ _ rfl rfl hX dX5_text_135
      · replace hf := ite_f c11 hf
        refine lv_aload_n (pc := 97) hx hb dX5_text_97 rfl (lv_at hl 0 rfl) ?_
        refine x_getf (pc := 98) (Cn := RX5) (T := TX5) (N := 24) C hX 0 rfl rfl miX5_text_X5 0 (by decide) mmX5_text_8 rfl dX5_text_98 ?_
        refine lv_iload_n (pc := 101) hx hb dX5_text_101 rfl (lv_at hl 2 rfl) ?_
        refine lv_aload_n (pc := 102) hx hb dX5_text_102 rfl (lv_at hl 0 rfl) ?_
        refine x_getf (pc := 103) (Cn := RX5) (T := TX5) (N := 24) C hX 0 rfl rfl miX5_text_X5 1 (by decide) mmX5_text_3 rfl dX5_text_103 ?_
        refine lv_iload_n (pc := 106) hx hb dX5_text_106 rfl (lv_at hl 2 rfl) ?_
        replace hf := chk_adv hf
        have i16 := hf.1
        replace hf := hf.2
        refine x_iald (pc := 107) C hX 2 0 rfl rfl i16 dX5_text_107 ?_
        refine lv_topi (fun v17 ev17 => ?_)
        replace hf := bnd_use ev17 hf
        replace hf := chk_adv hf
        have i18 := hf.1
        replace hf := hf.2
        obtain ⟨f19, ef19⟩ : ∃ y : Nat → Int32, y = (upd state (x2).toNatClampNeg v17) := ⟨_, rfl⟩
        replace hf := bnd_use ef19 hf
        refine x_iast (pc := 108) C hX 1 0 rfl rfl i18 [(h0, .inr (5, [.ref h_state, .ref h_readPage, .ref h_tape, .int taped, .int fault, .int broken, .int brokenAt, .int spot, .int here, .int token, .int value, .ref h_ends, .ref h_letters, .int moved, .int turned, .int worst, .ref h_seen, .int seenMany, .ref h_lastBy, .ref h_isKept, .ref h_lanes, .ref h_lengths, .ref h_cells, .int torn])), (h_state, .inl (cI, 240, .inl f19)), (h_readPage, .inl (cI, 40, .inl readPage)), (h_tape, .inl (cI, 160, .inl tape)), (h_ends, .inl (cI, 7, .inl ends)), (h_letters, .inl (cI, 23, .inl letters)), (h_isKept, .inl (cZ, 2, .inl isKept))] (by subst ef19; rfl) dX5_text_108 (fun H locs hX => ?_)
        obtain ⟨v20, ev20⟩ : ∃ y : Int32, y = (x2 + (1 : Int32)) := ⟨_, rfl⟩
        replace hf := bnd_use ev20 hf
        refine lv_iinc (pc := 109) (v := v20) (lv' := [(2, .int v20), (0, .ref h0), (1, .int x1)]) hx hb dX5_text_109 hl (k := 2) rfl (by rw [ev20]; rfl) (by decide) rfl (fun ls hl => ?_)
        refine lv_goto (pc := 112) (tgt := 91) hx hb dX5_text_112 (by decide) ?_
        exact ih x1 v20 taped fault broken brokenAt spot here token value seenMany f19 readPage isKept _ _ _ hf hX (lv_sub hl [1, 2, 0] rfl)
  have L61 : ∀ (x1 : Int32) (taped : Int32) (fault : Int32) (broken : Int32) (brokenAt : Int32) (spot : Int32) (here : Int32) (token : Int32) (value : Int32) (seenMany : Int32) (state : (Nat → Int32)) (readPage : (Nat → Int32)) (isKept : (Nat → Int32)) (H : Heap) (locs : List Loc) (ls : Array Slot), fX5_text_L61 tape ends letters x1 taped fault broken brokenAt spot here token value seenMany state readPage isKept = some (r0, o_taped', o_fault', o_broken', o_brokenAt', o_spot', o_here', o_token', o_value', o_seenMany', o_state', o_readPage', o_isKept') → xSt A s D [(h0, .inr (5, [.ref h_state, .ref h_readPage, .ref h_tape, .int taped, .int fault, .int broken, .int brokenAt, .int spot, .int here, .int token, .int value, .ref h_ends, .ref h_letters, .int moved, .int turned, .int worst, .ref h_seen, .int seenMany, .ref h_lastBy, .ref h_isKept, .ref h_lanes, .ref h_lengths, .ref h_cells, .int torn])), (h_state, .inl (cI, 240, .inl state)), (h_readPage, .inl (cI, 40, .inl readPage)), (h_tape, .inl (cI, 160, .inl tape)), (h_ends, .inl (cI, 7, .inl ends)), (h_letters, .inl (cI, 23, .inl letters)), (h_isKept, .inl (cZ, 2, .inl isKept))] H locs → lv_has ls 3 [(0, .ref h0), (1, .int x1)] → W p l e ({ frames := 5, cells := 0, slots := 0, locals := 112 } : Room) s m args below meth c H locs 0 0 Q (F0 m 61 ls []) := by
    intro  x1 taped fault broken brokenAt spot here token value seenMany state readPage isKept H locs ls hf hX hl
    unfold fX5_text_L61 at hf
    refine lv_aload_n (pc := 61) hx hb dX5_text_61 rfl (lv_at hl 0 rfl) ?_
    refine lv_iconst (pc := 62) (v := 0) hx hb dX5_text_62 (by decide) ?_
    refine x_putf (pc := 63) (Cn := RX5) (T := TX5) (N := 24) C hX tyX5 tyX5_ok nmX5 0 rfl rfl miX5_text_X5 3 (by decide) mmX5_text_5 rfl rfl (Nat.le_of_ble_eq_true rfl) [(h0, .inr (5, [.ref h_state, .ref h_readPage, .ref h_tape, .int (0 : Int32), .int fault, .int broken, .int brokenAt, .int spot, .int here, .int token, .int value, .ref h_ends, .ref h_letters, .int moved, .int turned, .int worst, .ref h_seen, .int seenMany, .ref h_lastBy, .ref h_isKept, .ref h_lanes, .ref h_lengths, .ref h_cells, .int torn])), (h_state, .inl (cI, 240, .inl state)), (h_readPage, .inl (cI, 40, .inl readPage)), (h_tape, .inl (cI, 160, .inl tape)), (h_ends, .inl (cI, 7, .inl ends)), (h_letters, .inl (cI, 23, .inl letters)), (h_isKept, .inl (cZ, 2, .inl isKept))] rfl dX5_text_63 (fun H locs hX => ?_)
    refine lv_aload_n (pc := 66) hx hb dX5_text_66 rfl (lv_at hl 0 rfl) ?_
    refine lv_aload_n (pc := 67) hx hb dX5_text_67 rfl (lv_at hl 0 rfl) ?_
    refine x_getf (pc := 68) (Cn := RX5) (T := TX5) (N := 24) C hX 0 rfl rfl miX5_text_X5 5 (by decide) mmX5_text_1 rfl dX5_text_68 ?_
    refine x_putf (pc := 71) (Cn := RX5) (T := TX5) (N := 24) C hX tyX5 tyX5_ok nmX5 0 rfl rfl miX5_text_X5 4 (by decide) mmX5_text_6 rfl rfl (Nat.le_of_ble_eq_true rfl) [(h0, .inr (5, [.ref h_state, .ref h_readPage, .ref h_tape, .int (0 : Int32), .int broken, .int broken, .int brokenAt, .int spot, .int here, .int token, .int value, .ref h_ends, .ref h_letters, .int moved, .int turned, .int worst, .ref h_seen, .int seenMany, .ref h_lastBy, .ref h_isKept, .ref h_lanes, .ref h_lengths, .ref h_cells, .int torn])), (h_state, .inl (cI, 240, .inl state)), (h_readPage, .inl (cI, 40, .inl readPage)), (h_tape, .inl (cI, 160, .inl tape)), (h_ends, .inl (cI, 7, .inl ends)), (h_letters, .inl (cI, 23, .inl letters)), (h_isKept, .inl (cZ, 2, .inl isKept))] rfl dX5_text_71 (fun H locs hX => ?_)
    refine lv_aload_n (pc := 74) hx hb dX5_text_74 rfl (lv_at hl 0 rfl) ?_
    refine x_getf (pc := 75) (Cn := RX5) (T := TX5) (N := 24) C hX 0 rfl rfl miX5_text_X5 5 (by decide) mmX5_text_1 rfl dX5_text_75 ?_
    refine lv_if_le (pc := 78) (tgt := 89) hx hb dX5_text_78 (by decide) (fun c10 => ?_) (fun c10 => ?_)
    · replace hf := ite_t c10 hf
      refine lv_iconst (pc := 89) (v := 0) hx hb dX5_text_89 (by decide) ?_
      refine lv_istore_n (pc := 90) (lv' := [(2, .int (0 : Int32)), (0, .ref h0), (1, .int x1)]) hx hb dX5_text_90 rfl hl (by decide) rfl (fun ls hl => ?_)
      exact L91  xF x1 (0 : Int32) (0 : Int32) broken broken brokenAt spot here token value seenMany state readPage isKept _ _ _ hf hX (lv_sub hl [1, 2, 0] rfl)
    · replace hf := ite_f c10 hf
      refine lv_bipush (pc := 81) (v := -10) hx hb dX5_text_81 (by decide) ?_
      refine lv_aload_n (pc := 83) hx hb dX5_text_83 rfl (lv_at hl 0 rfl) ?_
      refine x_getf (pc := 84) (Cn := RX5) (T := TX5) (N := 24) C hX 0 rfl rfl miX5_text_X5 6 (by decide) mmX5_text_7 rfl dX5_text_84 ?_
      refine lv_isub (pc := 87) hx hb dX5_text_87 ?_
      obtain ⟨rfl, rfl, rfl, rfl, rfl, rfl, rfl, rfl, rfl, rfl, rfl, rfl, rfl⟩ := re13 hf
      exact hret _ _ _ _ _ rfl rfl hX dX5_text_88
  have L37 : ∀ (n : Nat), ∀ (x1 : Int32) (taped : Int32) (fault : Int32) (broken : Int32) (brokenAt : Int32) (spot : Int32) (here : Int32) (token : Int32) (value : Int32) (seenMany : Int32) (state : (Nat → Int32)) (readPage : (Nat → Int32)) (isKept : (Nat → Int32)) (H : Heap) (locs : List Loc) (ls : Array Slot), fX5_text_L37 tape ends letters n x1 taped fault broken brokenAt spot here token value seenMany state readPage isKept = some (r0, o_taped', o_fault', o_broken', o_brokenAt', o_spot', o_here', o_token', o_value', o_seenMany', o_state', o_readPage', o_isKept') → xSt A s D [(h0, .inr (5, [.ref h_state, .ref h_readPage, .ref h_tape, .int taped, .int fault, .int broken, .int brokenAt, .int spot, .int here, .int token, .int value, .ref h_ends, .ref h_letters, .int moved, .int turned, .int worst, .ref h_seen, .int seenMany, .ref h_lastBy, .ref h_isKept, .ref h_lanes, .ref h_lengths, .ref h_cells, .int torn])), (h_state, .inl (cI, 240, .inl state)), (h_readPage, .inl (cI, 40, .inl readPage)), (h_tape, .inl (cI, 160, .inl tape)), (h_ends, .inl (cI, 7, .inl ends)), (h_letters, .inl (cI, 23, .inl letters)), (h_isKept, .inl (cZ, 2, .inl isKept))] H locs → lv_has ls 3 [(0, .ref h0), (1, .int x1)] → W p l e ({ frames := 5, cells := 0, slots := 0, locals := 112 } : Room) s m args below meth c H locs 0 0 Q (F0 m 37 ls []) := by
    intro n
    induction n with
    | zero =>
      intro x1 taped fault broken brokenAt spot here token value seenMany state readPage isKept H locs ls hf
      rw [fX5_text_L37] at hf
      cases hf
    | succ n ih =>
      intro x1 taped fault broken brokenAt spot here token value seenMany state readPage isKept H locs ls hf hX hl
      rw [fX5_text_L37] at hf
      refine lv_aload_n (pc := 37) hx hb dX5_text_37 rfl (lv_at hl 0 rfl) ?_
      refine x_getf (pc := 38) (Cn := RX5) (T := TX5) (N := 24) C hX 0 rfl rfl miX5_text_X5 5 (by decide) mmX5_text_1 rfl dX5_text_38 ?_
      refine lv_if_ne (pc := 41) (tgt := 61) hx hb dX5_text_41 (by decide) (fun c9 => ?_) (fun c9 => ?_)
      · replace hf := ite_f c9 hf
        exact L61  x1 taped fault broken brokenAt spot here token value seenMany state readPage isKept _ _ _ hf hX (lv_sub hl [0, 1] rfl)
      · replace hf := ite_t c9 hf
        refine lv_aload_n (pc := 44) hx hb dX5_text_44 rfl (lv_at hl 0 rfl) ?_
        refine x_getf (pc := 45) (Cn := RX5) (T := TX5) (N := 24) C hX 0 rfl rfl miX5_text_X5 9 (by decide) mmX5_text_4 rfl dX5_text_45 ?_
        refine lv_if_eq (pc := 48) (tgt := 61) hx hb dX5_text_48 (by decide) (fun c21 => ?_) (fun c21 => ?_)
        · replace hf := ite_t c21 hf
          exact L61  x1 taped fault broken brokenAt spot here token value seenMany state readPage isKept _ _ _ hf hX (lv_sub hl [0, 1] rfl)
        · replace hf := ite_f c21 hf
          refine lv_aload_n (pc := 51) hx hb dX5_text_51 rfl (lv_at hl 0 rfl) ?_
          obtain ⟨u22, u23, u24, u25, u26, u27, u28, g29, hf⟩ := cl7_adv hf
          refine x_callVv (pc := 52) (rest := []) (w2 := [(h0, .inr (5, [.ref h_state, .ref h_readPage, .ref h_tape, .int taped, .int fault, .int u22, .int u23, .int u24, .int u25, .int u26, .int u27, .ref h_ends, .ref h_letters, .int moved, .int turned, .int worst, .ref h_seen, .int seenMany, .ref h_lastBy, .ref h_isKept, .ref h_lanes, .ref h_lengths, .ref h_cells, .int torn])), (h_state, .inl (cI, 240, .inl state)), (h_readPage, .inl (cI, 40, .inl u28)), (h_tape, .inl (cI, 160, .inl tape)), (h_ends, .inl (cI, 7, .inl ends)), (h_letters, .inl (cI, 23, .inl letters)), (h_isKept, .inl (cZ, 2, .inl isKept))]) C hX (kX5_readLine ad l D cI cB cZ cG cS h0 h_state h_readPage h_tape h_ends h_letters h_seen h_lastBy h_isKept h_lanes h_lengths h_cells taped fault broken brokenAt spot here token value moved turned worst seenMany torn readPage tape ends letters u22 u23 u24 u25 u26 u27 u28 g29) (cwV 0 C.1.2.2.2.2 gX5_text_X5_readLine rfl rfl rfl (by decide +kernel) ⟨Nat.le_of_ble_eq_true rfl, Nat.le_of_ble_eq_true rfl⟩) [0, 2, 3, 4, 5] [1, 6] [2, 0, 3, 4, 5, 6, 1] rfl rfl rfl rfl (by decide) rfl rfl 0 rfl rfl rfl hl.1 rfl rfl (Nat.le_of_ble_eq_true rfl) dX5_text_52 (fun H locs hX => ?_)
          obtain ⟨v30, ev30⟩ : ∃ y : Int32, y = (x1 + (1 : Int32)) := ⟨_, rfl⟩
          replace hf := bnd_use ev30 hf
          refine lv_iinc (pc := 55) (v := v30) (lv' := [(1, .int v30), (0, .ref h0)]) hx hb dX5_text_55 hl (k := 1) rfl (by rw [ev30]; rfl) (by decide) rfl (fun ls hl => ?_)
          refine lv_goto (pc := 58) (tgt := 37) hx hb dX5_text_58 (by decide) ?_
          exact ih v30 taped fault u22 u23 u24 u25 u26 u27 seenMany state u28 isKept _ _ _ hf hX (lv_sub hl [1, 0] rfl)
  have L14 : ∀ (n : Nat), ∀ (x1 : Int32) (x2 : Int32) (taped : Int32) (fault : Int32) (broken : Int32) (brokenAt : Int32) (spot : Int32) (here : Int32) (token : Int32) (value : Int32) (seenMany : Int32) (state : (Nat → Int32)) (readPage : (Nat → Int32)) (isKept : (Nat → Int32)) (H : Heap) (locs : List Loc) (ls : Array Slot), fX5_text_L14 tape ends letters n x1 x2 taped fault broken brokenAt spot here token value seenMany state readPage isKept = some (r0, o_taped', o_fault', o_broken', o_brokenAt', o_spot', o_here', o_token', o_value', o_seenMany', o_state', o_readPage', o_isKept') → xSt A s D [(h0, .inr (5, [.ref h_state, .ref h_readPage, .ref h_tape, .int taped, .int fault, .int broken, .int brokenAt, .int spot, .int here, .int token, .int value, .ref h_ends, .ref h_letters, .int moved, .int turned, .int worst, .ref h_seen, .int seenMany, .ref h_lastBy, .ref h_isKept, .ref h_lanes, .ref h_lengths, .ref h_cells, .int torn])), (h_state, .inl (cI, 240, .inl state)), (h_readPage, .inl (cI, 40, .inl readPage)), (h_tape, .inl (cI, 160, .inl tape)), (h_ends, .inl (cI, 7, .inl ends)), (h_letters, .inl (cI, 23, .inl letters)), (h_isKept, .inl (cZ, 2, .inl isKept))] H locs → lv_has ls 3 [(0, .ref h0), (1, .int x1), (2, .int x2)] → W p l e ({ frames := 5, cells := 0, slots := 0, locals := 112 } : Room) s m args below meth c H locs 0 0 Q (F0 m 14 ls []) := by
    intro n
    induction n with
    | zero =>
      intro x1 x2 taped fault broken brokenAt spot here token value seenMany state readPage isKept H locs ls hf
      rw [fX5_text_L14] at hf
      cases hf
    | succ n ih =>
      intro x1 x2 taped fault broken brokenAt spot here token value seenMany state readPage isKept H locs ls hf hX hl
      rw [fX5_text_L14] at hf
      refine lv_iload_n (pc := 14) hx hb dX5_text_14 rfl (lv_at hl 2 rfl) ?_
      refine lv_bipush (pc := 15) (v := 40) hx hb dX5_text_15 (by decide) ?_
      refine lv_icmp_ge (pc := 17) (tgt := 33) hx hb dX5_text_17 (by decide) (fun c1 => ?_) (fun c1 => ?_)
      · replace hf := ite_t c1 hf
        refine lv_aload_n (pc := 33) hx hb dX5_text_33 rfl (lv_at hl 0 rfl) ?_
        obtain ⟨u2, u3, u4, u5, u6, u7, g8, hf⟩ := cl6_adv hf
        refine x_callVv (pc := 34) (rest := []) (w2 := [(h0, .inr (5, [.ref h_state, .ref h_readPage, .ref h_tape, .int taped, .int fault, .int u2, .int u3, .int u4, .int u5, .int u6, .int u7, .ref h_ends, .ref h_letters, .int moved, .int turned, .int worst, .ref h_seen, .int seenMany, .ref h_lastBy, .ref h_isKept, .ref h_lanes, .ref h_lengths, .ref h_cells, .int torn])), (h_state, .inl (cI, 240, .inl state)), (h_readPage, .inl (cI, 40, .inl readPage)), (h_tape, .inl (cI, 160, .inl tape)), (h_ends, .inl (cI, 7, .inl ends)), (h_letters, .inl (cI, 23, .inl letters)), (h_isKept, .inl (cZ, 2, .inl isKept))]) C hX (kX5_readsOn ad l D cI cB cZ cG cS h0 h_state h_readPage h_tape h_ends h_letters h_seen h_lastBy h_isKept h_lanes h_lengths h_cells taped fault broken brokenAt spot here token value moved turned worst seenMany torn tape u2 u3 u4 u5 u6 u7 g8) (cwV 0 C.1.2.2.2.2 gX5_text_X5_readsOn rfl rfl rfl (by decide +kernel) ⟨Nat.le_of_ble_eq_true rfl, Nat.le_of_ble_eq_true rfl⟩) [0, 3] [1, 2, 4, 5, 6] [5, 0, 1, 6, 2, 3, 4] rfl rfl rfl rfl (by decide) rfl rfl 0 rfl rfl rfl hl.1 rfl rfl (Nat.le_of_ble_eq_true rfl) dX5_text_34 (fun H locs hX => ?_)
        exact L37  xF x1 taped fault u2 u3 u4 u5 u6 u7 seenMany state readPage isKept _ _ _ hf hX (lv_sub hl [0, 1] rfl)
      · replace hf := ite_f c1 hf
        refine lv_aload_n (pc := 20) hx hb dX5_text_20 rfl (lv_at hl 0 rfl) ?_
        refine x_getf (pc := 21) (Cn := RX5) (T := TX5) (N := 24) C hX 0 rfl rfl miX5_text_X5 1 (by decide) mmX5_text_3 rfl dX5_text_21 ?_
        refine lv_iload_n (pc := 24) hx hb dX5_text_24 rfl (lv_at hl 2 rfl) ?_
        refine lv_iconst (pc := 25) (v := 0) hx hb dX5_text_25 (by decide) ?_
        replace hf := chk_adv hf
        have i31 := hf.1
        replace hf := hf.2
        obtain ⟨f32, ef32⟩ : ∃ y : Nat → Int32, y = (upd readPage (x2).toNatClampNeg (0 : Int32)) := ⟨_, rfl⟩
        replace hf := bnd_use ef32 hf
        refine x_iast (pc := 26) C hX 2 0 rfl rfl i31 [(h0, .inr (5, [.ref h_state, .ref h_readPage, .ref h_tape, .int taped, .int fault, .int broken, .int brokenAt, .int spot, .int here, .int token, .int value, .ref h_ends, .ref h_letters, .int moved, .int turned, .int worst, .ref h_seen, .int seenMany, .ref h_lastBy, .ref h_isKept, .ref h_lanes, .ref h_lengths, .ref h_cells, .int torn])), (h_state, .inl (cI, 240, .inl state)), (h_readPage, .inl (cI, 40, .inl f32)), (h_tape, .inl (cI, 160, .inl tape)), (h_ends, .inl (cI, 7, .inl ends)), (h_letters, .inl (cI, 23, .inl letters)), (h_isKept, .inl (cZ, 2, .inl isKept))] (by subst ef32; rfl) dX5_text_26 (fun H locs hX => ?_)
        obtain ⟨v33, ev33⟩ : ∃ y : Int32, y = (x2 + (1 : Int32)) := ⟨_, rfl⟩
        replace hf := bnd_use ev33 hf
        refine lv_iinc (pc := 27) (v := v33) (lv' := [(2, .int v33), (0, .ref h0), (1, .int x1)]) hx hb dX5_text_27 hl (k := 2) rfl (by rw [ev33]; rfl) (by decide) rfl (fun ls hl => ?_)
        refine lv_goto (pc := 30) (tgt := 14) hx hb dX5_text_30 (by decide) ?_
        exact ih x1 v33 taped fault broken brokenAt spot here token value seenMany state f32 isKept _ _ _ hf hX (lv_sub hl [1, 2, 0] rfl)
  unfold fX5_text at hf
  refine lv_aload_n (pc := 0) hx hb dX5_text_0 rfl (lv_at hl 0 rfl) ?_
  refine lv_iconst (pc := 1) (v := 0) hx hb dX5_text_1 (by decide) ?_
  refine x_putf (pc := 2) (Cn := RX5) (T := TX5) (N := 24) C hX tyX5 tyX5_ok nmX5 0 rfl rfl miX5_text_X5 5 (by decide) mmX5_text_1 rfl rfl (Nat.le_of_ble_eq_true rfl) [(h0, .inr (5, [.ref h_state, .ref h_readPage, .ref h_tape, .int taped, .int fault, .int (0 : Int32), .int brokenAt, .int spot, .int here, .int token, .int value, .ref h_ends, .ref h_letters, .int moved, .int turned, .int worst, .ref h_seen, .int seenMany, .ref h_lastBy, .ref h_isKept, .ref h_lanes, .ref h_lengths, .ref h_cells, .int torn])), (h_state, .inl (cI, 240, .inl state)), (h_readPage, .inl (cI, 40, .inl readPage)), (h_tape, .inl (cI, 160, .inl tape)), (h_ends, .inl (cI, 7, .inl ends)), (h_letters, .inl (cI, 23, .inl letters)), (h_isKept, .inl (cZ, 2, .inl isKept))] rfl dX5_text_2 (fun H locs hX => ?_)
  refine lv_aload_n (pc := 5) hx hb dX5_text_5 rfl (lv_at hl 0 rfl) ?_
  refine lv_iconst (pc := 6) (v := 0) hx hb dX5_text_6 (by decide) ?_
  refine x_putf (pc := 7) (Cn := RX5) (T := TX5) (N := 24) C hX tyX5 tyX5_ok nmX5 0 rfl rfl miX5_text_X5 7 (by decide) mmX5_text_2 rfl rfl (Nat.le_of_ble_eq_true rfl) [(h0, .inr (5, [.ref h_state, .ref h_readPage, .ref h_tape, .int taped, .int fault, .int (0 : Int32), .int brokenAt, .int (0 : Int32), .int here, .int token, .int value, .ref h_ends, .ref h_letters, .int moved, .int turned, .int worst, .ref h_seen, .int seenMany, .ref h_lastBy, .ref h_isKept, .ref h_lanes, .ref h_lengths, .ref h_cells, .int torn])), (h_state, .inl (cI, 240, .inl state)), (h_readPage, .inl (cI, 40, .inl readPage)), (h_tape, .inl (cI, 160, .inl tape)), (h_ends, .inl (cI, 7, .inl ends)), (h_letters, .inl (cI, 23, .inl letters)), (h_isKept, .inl (cZ, 2, .inl isKept))] rfl dX5_text_7 (fun H locs hX => ?_)
  refine lv_iconst (pc := 10) (v := 0) hx hb dX5_text_10 (by decide) ?_
  refine lv_istore_n (pc := 11) (lv' := [(1, .int (0 : Int32)), (0, .ref h0)]) hx hb dX5_text_11 rfl hl (by decide) rfl (fun ls hl => ?_)
  refine lv_iconst (pc := 12) (v := 0) hx hb dX5_text_12 (by decide) ?_
  refine lv_istore_n (pc := 13) (lv' := [(2, .int (0 : Int32)), (1, .int (0 : Int32)), (0, .ref h0)]) hx hb dX5_text_13 rfl hl (by decide) rfl (fun ls hl => ?_)
  exact L14  xF (0 : Int32) (0 : Int32) taped fault (0 : Int32) brokenAt (0 : Int32) here token value seenMany state readPage isKept _ _ _ hf hX (lv_sub hl [2, 1, 0] rfl)
theorem mmX5_fault_1 : Cond.fieldLink RX5 107 "SlackArmsModel" "fault" "I" ∈ wsX5_fault := List.mem_of_getElem? (i := 1) rfl
theorem miX5_fault_X5 : ∀ w ∈ u_ws RX5 TX5 24, w ∈ wsX5_fault := fun w h => List.mem_cons_of_mem _ (List.mem_append_right _ h)
set_option maxHeartbeats 4000000 in
set_option maxRecDepth 100000 in
theorem kX5_fault (ad : xAd) (l : Launch) (D : va_G) (cI cB cZ cG cS : ClassId) (h0 h_state h_readPage h_tape h_ends h_letters h_seen h_lastBy h_isKept h_lanes h_lengths h_cells : Nat) (taped : Int32) (fault : Int32) (broken : Int32) (brokenAt : Int32) (spot : Int32) (here : Int32) (token : Int32) (value : Int32) (moved : Int32) (turned : Int32) (worst : Int32) (seenMany : Int32) (torn : Int32) (r0 : Int32)  (hf : fX5_fault  fault = some r0) : xMi ad l yX5_fault wsX5_fault ({ frames := 0, cells := 0, slots := 0, locals := 0 } : Room) D (xTY cI cB cZ cG cS) [.ref h0] [(h0, .inr (5, [.ref h_state, .ref h_readPage, .ref h_tape, .int taped, .int fault, .int broken, .int brokenAt, .int spot, .int here, .int token, .int value, .ref h_ends, .ref h_letters, .int moved, .int turned, .int worst, .ref h_seen, .int seenMany, .ref h_lastBy, .ref h_isKept, .ref h_lanes, .ref h_lengths, .ref h_cells, .int torn]))] [(h0, .inr (5, [.ref h_state, .ref h_readPage, .ref h_tape, .int taped, .int fault, .int broken, .int brokenAt, .int spot, .int here, .int token, .int value, .ref h_ends, .ref h_letters, .int moved, .int turned, .int worst, .ref h_seen, .int seenMany, .ref h_lastBy, .ref h_isKept, .ref h_lanes, .ref h_lengths, .ref h_cells, .int torn]))] r0 := by
  refine xMi_of (cc := cX5_fault) (maxL := 1) (ty := .int) (by decide) rfl (Nat.le_of_ble_eq_true rfl) ?_
  intro p e s m args below meth c A Q ls C hX hl hret
  have hx := C.1.1
  have hb := C.1.2.1
  have hl : lv_has ls 1 [(0, .ref h0)] := hl
  unfold fX5_fault at hf
  refine lv_aload_n (pc := 0) hx hb dX5_fault_0 rfl (lv_at hl 0 rfl) ?_
  refine x_getf (pc := 1) (Cn := RX5) (T := TX5) (N := 24) C hX 0 rfl rfl miX5_fault_X5 4 (by decide) mmX5_fault_1 rfl dX5_fault_1 ?_
  obtain ⟨rfl⟩ := re1 hf
  exact hret _ _ _ _ _ rfl rfl hX dX5_fault_4
theorem mmX5_isArm_1 : Cond.fieldLink RX5 7 "SlackArmsModel" "state" "[I" ∈ wsX5_isArm := List.mem_of_getElem? (i := 1) rfl
theorem miX5_isArm_X5 : ∀ w ∈ u_ws RX5 TX5 24, w ∈ wsX5_isArm := fun w h => List.mem_cons_of_mem _ (List.mem_append_right _ h)
set_option maxHeartbeats 4000000 in
set_option maxRecDepth 100000 in
theorem kX5_isArm (ad : xAd) (l : Launch) (D : va_G) (cI cB cZ cG cS : ClassId) (h0 h_state h_readPage h_tape h_ends h_letters h_seen h_lastBy h_isKept h_lanes h_lengths h_cells : Nat) (taped : Int32) (fault : Int32) (broken : Int32) (brokenAt : Int32) (spot : Int32) (here : Int32) (token : Int32) (value : Int32) (moved : Int32) (turned : Int32) (worst : Int32) (seenMany : Int32) (torn : Int32) (state : (Nat → Int32)) (r0 : Int32) (p1 : Int32) (hf : fX5_isArm p1 state = some r0) : xMi ad l yX5_isArm wsX5_isArm ({ frames := 1, cells := 0, slots := 0, locals := 25 } : Room) D (xTY cI cB cZ cG cS) [.ref h0, .int p1] [(h0, .inr (5, [.ref h_state, .ref h_readPage, .ref h_tape, .int taped, .int fault, .int broken, .int brokenAt, .int spot, .int here, .int token, .int value, .ref h_ends, .ref h_letters, .int moved, .int turned, .int worst, .ref h_seen, .int seenMany, .ref h_lastBy, .ref h_isKept, .ref h_lanes, .ref h_lengths, .ref h_cells, .int torn])), (h_state, .inl (cI, 240, .inl state))] [(h0, .inr (5, [.ref h_state, .ref h_readPage, .ref h_tape, .int taped, .int fault, .int broken, .int brokenAt, .int spot, .int here, .int token, .int value, .ref h_ends, .ref h_letters, .int moved, .int turned, .int worst, .ref h_seen, .int seenMany, .ref h_lastBy, .ref h_isKept, .ref h_lanes, .ref h_lengths, .ref h_cells, .int torn])), (h_state, .inl (cI, 240, .inl state))] r0 := by
  refine xMi_of (cc := cX5_isArm) (maxL := 2) (ty := .boolean) (by decide) rfl (Nat.le_of_ble_eq_true rfl) ?_
  intro p e s m args below meth c A Q ls C hX hl hret
  have hx := C.1.1
  have hb := C.1.2.1
  have hl : lv_has ls 2 [(0, .ref h0), (1, .int p1)] := hl
  unfold fX5_isArm at hf
  refine lv_iload_n (pc := 0) hx hb dX5_isArm_0 rfl (lv_at hl 1 rfl) ?_
  refine lv_i2l (pc := 1) (v := ((p1).toInt64)) hx hb dX5_isArm_1 rfl ?_
  refine lv_lconst (pc := 2) (v := 0) hx hb dX5_isArm_2 (by decide) ?_
  refine lv_aload_n (pc := 3) hx hb dX5_isArm_3 rfl (lv_at hl 0 rfl) ?_
  refine x_getf (pc := 4) (Cn := RX5) (T := TX5) (N := 24) C hX 0 rfl rfl miX5_isArm_X5 0 (by decide) mmX5_isArm_1 rfl dX5_isArm_4 ?_
  refine lv_bipush (pc := 7) (v := 20) hx hb dX5_isArm_7 (by decide) ?_
  replace hf := chk_adv hf
  have i1 := hf.1
  replace hf := hf.2
  refine x_iald (pc := 9) C hX 1 0 rfl rfl i1 dX5_isArm_9 ?_
  refine lv_iconst (pc := 10) (v := 1) hx hb dX5_isArm_10 (by decide) ?_
  refine lv_isub (pc := 11) hx hb dX5_isArm_11 ?_
  refine lv_i2l (pc := 12) (v := ((((state ((20 : Int32)).toNatClampNeg) - (1 : Int32))).toInt64)) hx hb dX5_isArm_12 rfl ?_
  obtain ⟨r2, g3, hf⟩ := cl1_adv hf
  refine x_callSi (pc := 13) (rest := []) C hX (kX5_in ad l D cI cB cZ cG cS r2 ((p1).toInt64) (0 : Int64) ((((state ((20 : Int32)).toNatClampNeg) - (1 : Int32))).toInt64) g3) (va_cwS 3 C.1.2.2.2.2 gX5_isArm_X5_in rfl rfl rfl (by decide +kernel) ⟨Nat.le_of_ble_eq_true rfl, Nat.le_of_ble_eq_true rfl⟩) hl.1 rfl rfl (Nat.le_of_ble_eq_true rfl) dX5_isArm_13 (fun H locs hX => ?_)
  replace hf := chk_adv hf
  have i4 := hf.1
  replace hf := hf.2
  obtain ⟨rfl⟩ := re1 hf
  exact hret _ _ _ _ _ rfl (xbz_nar i4) hX dX5_isArm_16
theorem mmX5_isStroke_1 : Cond.fieldLink RX5 7 "SlackArmsModel" "state" "[I" ∈ wsX5_isStroke := List.mem_of_getElem? (i := 1) rfl
theorem miX5_isStroke_X5 : ∀ w ∈ u_ws RX5 TX5 24, w ∈ wsX5_isStroke := fun w h => List.mem_cons_of_mem _ (List.mem_append_right _ h)
set_option maxHeartbeats 4000000 in
set_option maxRecDepth 100000 in
theorem kX5_isStroke (ad : xAd) (l : Launch) (D : va_G) (cI cB cZ cG cS : ClassId) (h0 h_state h_readPage h_tape h_ends h_letters h_seen h_lastBy h_isKept h_lanes h_lengths h_cells : Nat) (taped : Int32) (fault : Int32) (broken : Int32) (brokenAt : Int32) (spot : Int32) (here : Int32) (token : Int32) (value : Int32) (moved : Int32) (turned : Int32) (worst : Int32) (seenMany : Int32) (torn : Int32) (state : (Nat → Int32)) (r0 : Int32) (p1 : Int32) (hf : fX5_isStroke p1 state = some r0) : xMi ad l yX5_isStroke wsX5_isStroke ({ frames := 1, cells := 0, slots := 0, locals := 25 } : Room) D (xTY cI cB cZ cG cS) [.ref h0, .int p1] [(h0, .inr (5, [.ref h_state, .ref h_readPage, .ref h_tape, .int taped, .int fault, .int broken, .int brokenAt, .int spot, .int here, .int token, .int value, .ref h_ends, .ref h_letters, .int moved, .int turned, .int worst, .ref h_seen, .int seenMany, .ref h_lastBy, .ref h_isKept, .ref h_lanes, .ref h_lengths, .ref h_cells, .int torn])), (h_state, .inl (cI, 240, .inl state))] [(h0, .inr (5, [.ref h_state, .ref h_readPage, .ref h_tape, .int taped, .int fault, .int broken, .int brokenAt, .int spot, .int here, .int token, .int value, .ref h_ends, .ref h_letters, .int moved, .int turned, .int worst, .ref h_seen, .int seenMany, .ref h_lastBy, .ref h_isKept, .ref h_lanes, .ref h_lengths, .ref h_cells, .int torn])), (h_state, .inl (cI, 240, .inl state))] r0 := by
  refine xMi_of (cc := cX5_isStroke) (maxL := 2) (ty := .boolean) (by decide) rfl (Nat.le_of_ble_eq_true rfl) ?_
  intro p e s m args below meth c A Q ls C hX hl hret
  have hx := C.1.1
  have hb := C.1.2.1
  have hl : lv_has ls 2 [(0, .ref h0), (1, .int p1)] := hl
  unfold fX5_isStroke at hf
  refine lv_iload_n (pc := 0) hx hb dX5_isStroke_0 rfl (lv_at hl 1 rfl) ?_
  refine lv_i2l (pc := 1) (v := ((p1).toInt64)) hx hb dX5_isStroke_1 rfl ?_
  refine lv_lconst (pc := 2) (v := 0) hx hb dX5_isStroke_2 (by decide) ?_
  refine lv_aload_n (pc := 3) hx hb dX5_isStroke_3 rfl (lv_at hl 0 rfl) ?_
  refine x_getf (pc := 4) (Cn := RX5) (T := TX5) (N := 24) C hX 0 rfl rfl miX5_isStroke_X5 0 (by decide) mmX5_isStroke_1 rfl dX5_isStroke_4 ?_
  refine lv_bipush (pc := 7) (v := 37) hx hb dX5_isStroke_7 (by decide) ?_
  replace hf := chk_adv hf
  have i1 := hf.1
  replace hf := hf.2
  refine x_iald (pc := 9) C hX 1 0 rfl rfl i1 dX5_isStroke_9 ?_
  refine lv_iconst (pc := 10) (v := 1) hx hb dX5_isStroke_10 (by decide) ?_
  refine lv_isub (pc := 11) hx hb dX5_isStroke_11 ?_
  refine lv_i2l (pc := 12) (v := ((((state ((37 : Int32)).toNatClampNeg) - (1 : Int32))).toInt64)) hx hb dX5_isStroke_12 rfl ?_
  obtain ⟨r2, g3, hf⟩ := cl1_adv hf
  refine x_callSi (pc := 13) (rest := []) C hX (kX5_in ad l D cI cB cZ cG cS r2 ((p1).toInt64) (0 : Int64) ((((state ((37 : Int32)).toNatClampNeg) - (1 : Int32))).toInt64) g3) (va_cwS 3 C.1.2.2.2.2 gX5_isStroke_X5_in rfl rfl rfl (by decide +kernel) ⟨Nat.le_of_ble_eq_true rfl, Nat.le_of_ble_eq_true rfl⟩) hl.1 rfl rfl (Nat.le_of_ble_eq_true rfl) dX5_isStroke_13 (fun H locs hX => ?_)
  replace hf := chk_adv hf
  have i4 := hf.1
  replace hf := hf.2
  obtain ⟨rfl⟩ := re1 hf
  exact hret _ _ _ _ _ rfl (xbz_nar i4) hX dX5_isStroke_16
theorem mmX5_isLong_1 : Cond.constantLong RX5 113 (200) ∈ wsX5_isLong := List.mem_of_getElem? (i := 1) rfl
set_option maxHeartbeats 4000000 in
set_option maxRecDepth 100000 in
theorem kX5_isLong (ad : xAd) (l : Launch) (D : va_G) (cI cB cZ cG cS : ClassId)   (r0 : Int32) (p1 : Int32) (hf : fX5_isLong p1  = some r0) : xMi ad l yX5_isLong wsX5_isLong ({ frames := 1, cells := 0, slots := 0, locals := 25 } : Room) D (xTY cI cB cZ cG cS) [.int p1] [] [] r0 := by
  refine xMi_of (cc := cX5_isLong) (maxL := 1) (ty := .boolean) (by decide) rfl (Nat.le_of_ble_eq_true rfl) ?_
  intro p e s m args below meth c A Q ls C hX hl hret
  have hx := C.1.1
  have hb := C.1.2.1
  have hl : lv_has ls 1 [(0, .int p1)] := hl
  unfold fX5_isLong at hf
  refine lv_iload_n (pc := 0) hx hb dX5_isLong_0 rfl (lv_at hl 0 rfl) ?_
  refine lv_i2l (pc := 1) (v := ((p1).toInt64)) hx hb dX5_isLong_1 rfl ?_
  refine lv_lconst (pc := 2) (v := 0) hx hb dX5_isLong_2 (by decide) ?_
  refine lv_ldc2 (pc := 3) hx hb C.1.2.2.2.1 (C.1.2.2.2.2 _ mmX5_isLong_1) dX5_isLong_3 ?_
  obtain ⟨r1, g2, hf⟩ := cl1_adv hf
  refine x_callSi (pc := 6) (rest := []) C hX (kX5_in ad l D cI cB cZ cG cS r1 ((p1).toInt64) (0 : Int64) (200 : Int64) g2) (va_cwS 3 C.1.2.2.2.2 gX5_isLong_X5_in rfl rfl rfl (by decide +kernel) ⟨Nat.le_of_ble_eq_true rfl, Nat.le_of_ble_eq_true rfl⟩) hl.1 rfl rfl (Nat.le_of_ble_eq_true rfl) dX5_isLong_6 (fun H locs hX => ?_)
  replace hf := chk_adv hf
  have i3 := hf.1
  replace hf := hf.2
  obtain ⟨rfl⟩ := re1 hf
  exact hret _ _ _ _ _ rfl (xbz_nar i3) hX dX5_isLong_9
theorem mmX5_isPlace_1 : Cond.constantLong RX5 115 (100000) ∈ wsX5_isPlace := List.mem_of_getElem? (i := 1) rfl
theorem mmX5_isPlace_2 : Cond.constantLong RX5 117 (300000) ∈ wsX5_isPlace := List.mem_of_getElem? (i := 2) rfl
set_option maxHeartbeats 4000000 in
set_option maxRecDepth 100000 in
theorem kX5_isPlace (ad : xAd) (l : Launch) (D : va_G) (cI cB cZ cG cS : ClassId)   (r0 : Int32) (p1 : Int32) (hf : fX5_isPlace p1  = some r0) : xMi ad l yX5_isPlace wsX5_isPlace ({ frames := 1, cells := 0, slots := 0, locals := 25 } : Room) D (xTY cI cB cZ cG cS) [.int p1] [] [] r0 := by
  refine xMi_of (cc := cX5_isPlace) (maxL := 1) (ty := .boolean) (by decide) rfl (Nat.le_of_ble_eq_true rfl) ?_
  intro p e s m args below meth c A Q ls C hX hl hret
  have hx := C.1.1
  have hb := C.1.2.1
  have hl : lv_has ls 1 [(0, .int p1)] := hl
  unfold fX5_isPlace at hf
  refine lv_iload_n (pc := 0) hx hb dX5_isPlace_0 rfl (lv_at hl 0 rfl) ?_
  refine lv_i2l (pc := 1) (v := ((p1).toInt64)) hx hb dX5_isPlace_1 rfl ?_
  refine lv_ldc2 (pc := 2) hx hb C.1.2.2.2.1 (C.1.2.2.2.2 _ mmX5_isPlace_1) dX5_isPlace_2 ?_
  refine lv_ldc2 (pc := 5) hx hb C.1.2.2.2.1 (C.1.2.2.2.2 _ mmX5_isPlace_2) dX5_isPlace_5 ?_
  obtain ⟨r1, g2, hf⟩ := cl1_adv hf
  refine x_callSi (pc := 8) (rest := []) C hX (kX5_in ad l D cI cB cZ cG cS r1 ((p1).toInt64) (100000 : Int64) (300000 : Int64) g2) (va_cwS 3 C.1.2.2.2.2 gX5_isPlace_X5_in rfl rfl rfl (by decide +kernel) ⟨Nat.le_of_ble_eq_true rfl, Nat.le_of_ble_eq_true rfl⟩) hl.1 rfl rfl (Nat.le_of_ble_eq_true rfl) dX5_isPlace_8 (fun H locs hX => ?_)
  replace hf := chk_adv hf
  have i3 := hf.1
  replace hf := hf.2
  obtain ⟨rfl⟩ := re1 hf
  exact hret _ _ _ _ _ rfl (xbz_nar i3) hX dX5_isPlace_11
theorem mmX5_playOn_1 : Cond.fieldLink RX5 7 "SlackArmsModel" "state" "[I" ∈ wsX5_playOn := List.mem_of_getElem? (i := 1) rfl
theorem miX5_playOn_X5 : ∀ w ∈ u_ws RX5 TX5 24, w ∈ wsX5_playOn := fun w h => List.mem_cons_of_mem _ (List.mem_append_right _ h)
set_option maxHeartbeats 4000000 in
set_option maxRecDepth 100000 in
theorem kX5_playOn (ad : xAd) (l : Launch) (D : va_G) (cI cB cZ cG cS : ClassId) (h0 h_state h_readPage h_tape h_ends h_letters h_seen h_lastBy h_isKept h_lanes h_lengths h_cells : Nat) (taped : Int32) (fault : Int32) (broken : Int32) (brokenAt : Int32) (spot : Int32) (here : Int32) (token : Int32) (value : Int32) (moved : Int32) (turned : Int32) (worst : Int32) (seenMany : Int32) (torn : Int32) (state : (Nat → Int32)) (r0 : Int32) (p1 : Int32) (p2 : Int32) (hf : fX5_playOn p1 p2 state = some r0) : xMi ad l yX5_playOn wsX5_playOn ({ frames := 0, cells := 0, slots := 0, locals := 0 } : Room) D (xTY cI cB cZ cG cS) [.ref h0, .int p1, .int p2] [(h0, .inr (5, [.ref h_state, .ref h_readPage, .ref h_tape, .int taped, .int fault, .int broken, .int brokenAt, .int spot, .int here, .int token, .int value, .ref h_ends, .ref h_letters, .int moved, .int turned, .int worst, .ref h_seen, .int seenMany, .ref h_lastBy, .ref h_isKept, .ref h_lanes, .ref h_lengths, .ref h_cells, .int torn])), (h_state, .inl (cI, 240, .inl state))] [(h0, .inr (5, [.ref h_state, .ref h_readPage, .ref h_tape, .int taped, .int fault, .int broken, .int brokenAt, .int spot, .int here, .int token, .int value, .ref h_ends, .ref h_letters, .int moved, .int turned, .int worst, .ref h_seen, .int seenMany, .ref h_lastBy, .ref h_isKept, .ref h_lanes, .ref h_lengths, .ref h_cells, .int torn])), (h_state, .inl (cI, 240, .inl state))] r0 := by
  refine xMi_of (cc := cX5_playOn) (maxL := 3) (ty := .int) (by decide) rfl (Nat.le_of_ble_eq_true rfl) ?_
  intro p e s m args below meth c A Q ls C hX hl hret
  have hx := C.1.1
  have hb := C.1.2.1
  have hl : lv_has ls 3 [(0, .ref h0), (1, .int p1), (2, .int p2)] := hl
  unfold fX5_playOn at hf
  refine lv_aload_n (pc := 0) hx hb dX5_playOn_0 rfl (lv_at hl 0 rfl) ?_
  refine x_getf (pc := 1) (Cn := RX5) (T := TX5) (N := 24) C hX 0 rfl rfl miX5_playOn_X5 0 (by decide) mmX5_playOn_1 rfl dX5_playOn_1 ?_
  refine lv_iload_n (pc := 4) hx hb dX5_playOn_4 rfl (lv_at hl 1 rfl) ?_
  refine lv_iconst (pc := 5) (v := 4) hx hb dX5_playOn_5 (by decide) ?_
  refine lv_iadd (pc := 6) hx hb dX5_playOn_6 ?_
  refine lv_iload_n (pc := 7) hx hb dX5_playOn_7 rfl (lv_at hl 2 rfl) ?_
  refine lv_iadd (pc := 8) hx hb dX5_playOn_8 ?_
  replace hf := chk_adv hf
  have i1 := hf.1
  replace hf := hf.2
  refine x_iald (pc := 9) C hX 1 0 rfl rfl i1 dX5_playOn_9 ?_
  refine lv_aload_n (pc := 10) hx hb dX5_playOn_10 rfl (lv_at hl 0 rfl) ?_
  refine x_getf (pc := 11) (Cn := RX5) (T := TX5) (N := 24) C hX 0 rfl rfl miX5_playOn_X5 0 (by decide) mmX5_playOn_1 rfl dX5_playOn_11 ?_
  refine lv_iload_n (pc := 14) hx hb dX5_playOn_14 rfl (lv_at hl 1 rfl) ?_
  refine lv_iload_n (pc := 15) hx hb dX5_playOn_15 rfl (lv_at hl 2 rfl) ?_
  refine lv_iadd (pc := 16) hx hb dX5_playOn_16 ?_
  replace hf := chk_adv hf
  have i2 := hf.1
  replace hf := hf.2
  refine x_iald (pc := 17) C hX 1 0 rfl rfl i2 dX5_playOn_17 ?_
  refine lv_iconst (pc := 18) (v := 3) hx hb dX5_playOn_18 (by decide) ?_
  refine lv_icmp_ne (pc := 19) (tgt := 36) hx hb dX5_playOn_19 (by decide) (fun c3 => ?_) (fun c3 => ?_)
  · replace hf := ite_f c3 hf
    refine lv_iconst (pc := 36) (v := 0) hx hb dX5_playOn_36 (by decide) ?_
    refine lv_iadd (pc := 37) hx hb dX5_playOn_37 ?_
    obtain ⟨rfl⟩ := re1 hf
    exact hret _ _ _ _ _ rfl rfl hX dX5_playOn_38
  · replace hf := ite_t c3 hf
    refine lv_aload_n (pc := 22) hx hb dX5_playOn_22 rfl (lv_at hl 0 rfl) ?_
    refine x_getf (pc := 23) (Cn := RX5) (T := TX5) (N := 24) C hX 0 rfl rfl miX5_playOn_X5 0 (by decide) mmX5_playOn_1 rfl dX5_playOn_23 ?_
    refine lv_iload_n (pc := 26) hx hb dX5_playOn_26 rfl (lv_at hl 1 rfl) ?_
    refine lv_bipush (pc := 27) (v := 12) hx hb dX5_playOn_27 (by decide) ?_
    refine lv_iadd (pc := 29) hx hb dX5_playOn_29 ?_
    refine lv_iload_n (pc := 30) hx hb dX5_playOn_30 rfl (lv_at hl 2 rfl) ?_
    refine lv_iadd (pc := 31) hx hb dX5_playOn_31 ?_
    replace hf := chk_adv hf
    have i4 := hf.1
    replace hf := hf.2
    refine x_iald (pc := 32) C hX 1 0 rfl rfl i4 dX5_playOn_32 ?_
    refine lv_goto (pc := 33) (tgt := 37) hx hb dX5_playOn_33 (by decide) ?_
    refine lv_iadd (pc := 37) hx hb dX5_playOn_37 ?_
    obtain ⟨rfl⟩ := re1 hf
    exact hret _ _ _ _ _ rfl rfl hX dX5_playOn_38
theorem mmX5_leaderOn_1 : Cond.fieldLink RX5 7 "SlackArmsModel" "state" "[I" ∈ wsX5_leaderOn := List.mem_of_getElem? (i := 1) rfl
theorem miX5_leaderOn_X5 : ∀ w ∈ u_ws RX5 TX5 24, w ∈ wsX5_leaderOn := fun w h => List.mem_cons_of_mem _ (List.mem_append_right _ h)
set_option maxHeartbeats 4000000 in
set_option maxRecDepth 100000 in
theorem kX5_leaderOn (ad : xAd) (l : Launch) (D : va_G) (cI cB cZ cG cS : ClassId) (h0 h_state h_readPage h_tape h_ends h_letters h_seen h_lastBy h_isKept h_lanes h_lengths h_cells : Nat) (taped : Int32) (fault : Int32) (broken : Int32) (brokenAt : Int32) (spot : Int32) (here : Int32) (token : Int32) (value : Int32) (moved : Int32) (turned : Int32) (worst : Int32) (seenMany : Int32) (torn : Int32) (state : (Nat → Int32)) (r0 : Int32) (p1 : Int32) (p2 : Int32) (hf : fX5_leaderOn p1 p2 state = some r0) : xMi ad l yX5_leaderOn wsX5_leaderOn ({ frames := 0, cells := 0, slots := 0, locals := 0 } : Room) D (xTY cI cB cZ cG cS) [.ref h0, .int p1, .int p2] [(h0, .inr (5, [.ref h_state, .ref h_readPage, .ref h_tape, .int taped, .int fault, .int broken, .int brokenAt, .int spot, .int here, .int token, .int value, .ref h_ends, .ref h_letters, .int moved, .int turned, .int worst, .ref h_seen, .int seenMany, .ref h_lastBy, .ref h_isKept, .ref h_lanes, .ref h_lengths, .ref h_cells, .int torn])), (h_state, .inl (cI, 240, .inl state))] [(h0, .inr (5, [.ref h_state, .ref h_readPage, .ref h_tape, .int taped, .int fault, .int broken, .int brokenAt, .int spot, .int here, .int token, .int value, .ref h_ends, .ref h_letters, .int moved, .int turned, .int worst, .ref h_seen, .int seenMany, .ref h_lastBy, .ref h_isKept, .ref h_lanes, .ref h_lengths, .ref h_cells, .int torn])), (h_state, .inl (cI, 240, .inl state))] r0 := by
  refine xMi_of (cc := cX5_leaderOn) (maxL := 3) (ty := .int) (by decide) rfl (Nat.le_of_ble_eq_true rfl) ?_
  intro p e s m args below meth c A Q ls C hX hl hret
  have hx := C.1.1
  have hb := C.1.2.1
  have hl : lv_has ls 3 [(0, .ref h0), (1, .int p1), (2, .int p2)] := hl
  unfold fX5_leaderOn at hf
  refine lv_iload_n (pc := 0) hx hb dX5_leaderOn_0 rfl (lv_at hl 2 rfl) ?_
  refine lv_if_ne (pc := 1) (tgt := 16) hx hb dX5_leaderOn_1 (by decide) (fun c1 => ?_) (fun c1 => ?_)
  · replace hf := ite_f c1 hf
    refine lv_aload_n (pc := 16) hx hb dX5_leaderOn_16 rfl (lv_at hl 0 rfl) ?_
    refine x_getf (pc := 17) (Cn := RX5) (T := TX5) (N := 24) C hX 0 rfl rfl miX5_leaderOn_X5 0 (by decide) mmX5_leaderOn_1 rfl dX5_leaderOn_17 ?_
    refine lv_iload_n (pc := 20) hx hb dX5_leaderOn_20 rfl (lv_at hl 1 rfl) ?_
    refine lv_bipush (pc := 21) (v := 8) hx hb dX5_leaderOn_21 (by decide) ?_
    refine lv_iadd (pc := 23) hx hb dX5_leaderOn_23 ?_
    refine lv_iload_n (pc := 24) hx hb dX5_leaderOn_24 rfl (lv_at hl 2 rfl) ?_
    refine lv_iadd (pc := 25) hx hb dX5_leaderOn_25 ?_
    refine lv_iconst (pc := 26) (v := 1) hx hb dX5_leaderOn_26 (by decide) ?_
    refine lv_isub (pc := 27) hx hb dX5_leaderOn_27 ?_
    replace hf := chk_adv hf
    have i2 := hf.1
    replace hf := hf.2
    refine x_iald (pc := 28) C hX 1 0 rfl rfl i2 dX5_leaderOn_28 ?_
    obtain ⟨rfl⟩ := re1 hf
    exact hret _ _ _ _ _ rfl rfl hX dX5_leaderOn_29
  · replace hf := ite_t c1 hf
    refine lv_aload_n (pc := 4) hx hb dX5_leaderOn_4 rfl (lv_at hl 0 rfl) ?_
    refine x_getf (pc := 5) (Cn := RX5) (T := TX5) (N := 24) C hX 0 rfl rfl miX5_leaderOn_X5 0 (by decide) mmX5_leaderOn_1 rfl dX5_leaderOn_5 ?_
    refine lv_iload_n (pc := 8) hx hb dX5_leaderOn_8 rfl (lv_at hl 1 rfl) ?_
    refine lv_bipush (pc := 9) (v := 38) hx hb dX5_leaderOn_9 (by decide) ?_
    refine lv_iadd (pc := 11) hx hb dX5_leaderOn_11 ?_
    replace hf := chk_adv hf
    have i3 := hf.1
    replace hf := hf.2
    refine x_iald (pc := 12) C hX 1 0 rfl rfl i3 dX5_leaderOn_12 ?_
    refine lv_goto (pc := 13) (tgt := 29) hx hb dX5_leaderOn_13 (by decide) ?_
    obtain ⟨rfl⟩ := re1 hf
    exact hret _ _ _ _ _ rfl rfl hX dX5_leaderOn_29
theorem mmX5_movesOn_1 : Cond.fieldLink RX5 7 "SlackArmsModel" "state" "[I" ∈ wsX5_movesOn := List.mem_of_getElem? (i := 1) rfl
theorem miX5_movesOn_X5 : ∀ w ∈ u_ws RX5 TX5 24, w ∈ wsX5_movesOn := fun w h => List.mem_cons_of_mem _ (List.mem_append_right _ h)
set_option maxHeartbeats 4000000 in
set_option maxRecDepth 100000 in
theorem kX5_movesOn (ad : xAd) (l : Launch) (D : va_G) (cI cB cZ cG cS : ClassId) (h0 h_state h_readPage h_tape h_ends h_letters h_seen h_lastBy h_isKept h_lanes h_lengths h_cells : Nat) (taped : Int32) (fault : Int32) (broken : Int32) (brokenAt : Int32) (spot : Int32) (here : Int32) (token : Int32) (value : Int32) (moved : Int32) (turned : Int32) (worst : Int32) (seenMany : Int32) (torn : Int32) (state : (Nat → Int32)) (r0 : Int32) (p1 : Int32) (p2 : Int32) (hf : fX5_movesOn p1 p2 state = some r0) : xMi ad l yX5_movesOn wsX5_movesOn ({ frames := 1, cells := 0, slots := 0, locals := 22 } : Room) D (xTY cI cB cZ cG cS) [.ref h0, .int p1, .int p2] [(h0, .inr (5, [.ref h_state, .ref h_readPage, .ref h_tape, .int taped, .int fault, .int broken, .int brokenAt, .int spot, .int here, .int token, .int value, .ref h_ends, .ref h_letters, .int moved, .int turned, .int worst, .ref h_seen, .int seenMany, .ref h_lastBy, .ref h_isKept, .ref h_lanes, .ref h_lengths, .ref h_cells, .int torn])), (h_state, .inl (cI, 240, .inl state))] [(h0, .inr (5, [.ref h_state, .ref h_readPage, .ref h_tape, .int taped, .int fault, .int broken, .int brokenAt, .int spot, .int here, .int token, .int value, .ref h_ends, .ref h_letters, .int moved, .int turned, .int worst, .ref h_seen, .int seenMany, .ref h_lastBy, .ref h_isKept, .ref h_lanes, .ref h_lengths, .ref h_cells, .int torn])), (h_state, .inl (cI, 240, .inl state))] r0 := by
  refine xMi_of (cc := cX5_movesOn) (maxL := 7) (ty := .int) (by decide) rfl (Nat.le_of_ble_eq_true rfl) ?_
  intro p e s m args below meth c A Q ls C hX hl hret
  have hx := C.1.1
  have hb := C.1.2.1
  have hl : lv_has ls 7 [(0, .ref h0), (1, .int p1), (2, .int p2)] := hl
  have L55 : ∀ (x1 : Int32) (x2 : Int32) (y0 : Int32) (H : Heap) (locs : List Loc) (ls : Array Slot), fX5_movesOn_L55 state x1 x2 y0 = some r0 → xSt A s D [(h0, .inr (5, [.ref h_state, .ref h_readPage, .ref h_tape, .int taped, .int fault, .int broken, .int brokenAt, .int spot, .int here, .int token, .int value, .ref h_ends, .ref h_letters, .int moved, .int turned, .int worst, .ref h_seen, .int seenMany, .ref h_lastBy, .ref h_isKept, .ref h_lanes, .ref h_lengths, .ref h_cells, .int torn])), (h_state, .inl (cI, 240, .inl state))] H locs → lv_has ls 7 [(0, .ref h0), (1, .int x1), (2, .int x2)] → W p l e ({ frames := 1, cells := 0, slots := 0, locals := 22 } : Room) s m args below meth c H locs 0 0 Q (F0 m 55 ls [.int y0]) := by
    intro  x1 x2 y0 H locs ls hf hX hl
    unfold fX5_movesOn_L55 at hf
    refine lv_istore (pc := 55) (lv' := [(5, .int y0), (0, .ref h0), (1, .int x1), (2, .int x2)]) hx hb dX5_movesOn_55 hl (by decide) rfl (fun ls hl => ?_)
    refine lv_aload_n (pc := 57) hx hb dX5_movesOn_57 rfl (lv_at hl 1 rfl) ?_
    refine x_getf (pc := 58) (Cn := RX5) (T := TX5) (N := 24) C hX 0 rfl rfl miX5_movesOn_X5 0 (by decide) mmX5_movesOn_1 rfl dX5_movesOn_58 ?_
    refine lv_iload_n (pc := 61) hx hb dX5_movesOn_61 rfl (lv_at hl 2 rfl) ?_
    refine lv_iload_n (pc := 62) hx hb dX5_movesOn_62 rfl (lv_at hl 3 rfl) ?_
    refine lv_iadd (pc := 63) hx hb dX5_movesOn_63 ?_
    replace hf := chk_adv hf
    have i9 := hf.1
    replace hf := hf.2
    refine x_iald (pc := 64) C hX 1 0 rfl rfl i9 dX5_movesOn_64 ?_
    refine lv_topi (fun v10 ev10 => ?_)
    replace hf := bnd_use ev10 hf
    refine lv_istore (pc := 65) (lv' := [(6, .int v10), (5, .int y0), (0, .ref h0), (1, .int x1), (2, .int x2)]) hx hb dX5_movesOn_65 hl (by decide) rfl (fun ls hl => ?_)
    refine lv_iload (pc := 67) hx hb dX5_movesOn_67 (lv_at hl 0 rfl) ?_
    refine lv_iconst (pc := 69) (v := 1) hx hb dX5_movesOn_69 (by decide) ?_
    refine lv_icmp_ne (pc := 70) (tgt := 99) hx hb dX5_movesOn_70 (by decide) (fun c11 => ?_) (fun c11 => ?_)
    · replace hf := ite_f c11 hf
      refine lv_iload (pc := 99) hx hb dX5_movesOn_99 (lv_at hl 0 rfl) ?_
      refine lv_iconst (pc := 101) (v := 1) hx hb dX5_movesOn_101 (by decide) ?_
      refine lv_icmp_le (pc := 102) (tgt := 118) hx hb dX5_movesOn_102 (by decide) (fun c12 => ?_) (fun c12 => ?_)
      · replace hf := ite_t c12 hf
        refine lv_iload (pc := 118) hx hb dX5_movesOn_118 (lv_at hl 1 rfl) ?_
        obtain ⟨rfl⟩ := re1 hf
        exact hret _ _ _ _ _ rfl rfl hX dX5_movesOn_120
      · replace hf := ite_f c12 hf
        refine lv_iload (pc := 105) hx hb dX5_movesOn_105 (lv_at hl 1 rfl) ?_
        obtain ⟨r13, g14, hf⟩ := cl1_adv hf
        refine x_callSi (pc := 107) (rest := []) C hX (kX5_amount ad l D cI cB cZ cG cS r13 y0 g14) (va_cwS 1 C.1.2.2.2.2 gX5_movesOn_X5_amount rfl rfl rfl (by decide +kernel) ⟨Nat.le_of_ble_eq_true rfl, Nat.le_of_ble_eq_true rfl⟩) hl.1 rfl rfl (Nat.le_of_ble_eq_true rfl) dX5_movesOn_107 (fun H locs hX => ?_)
        refine lv_iconst (pc := 110) (v := 1) hx hb dX5_movesOn_110 (by decide) ?_
        refine lv_icmp_ne (pc := 111) (tgt := 118) hx hb dX5_movesOn_111 (by decide) (fun c15 => ?_) (fun c15 => ?_)
        · replace hf := ite_f c15 hf
          refine lv_iload (pc := 118) hx hb dX5_movesOn_118 (lv_at hl 1 rfl) ?_
          obtain ⟨rfl⟩ := re1 hf
          exact hret _ _ _ _ _ rfl rfl hX dX5_movesOn_120
        · replace hf := ite_t c15 hf
          refine lv_iconst (pc := 114) (v := 0) hx hb dX5_movesOn_114 (by decide) ?_
          refine lv_goto (pc := 115) (tgt := 120) hx hb dX5_movesOn_115 (by decide) ?_
          obtain ⟨rfl⟩ := re1 hf
          exact hret _ _ _ _ _ rfl rfl hX dX5_movesOn_120
    · replace hf := ite_t c11 hf
      refine lv_iload (pc := 73) hx hb dX5_movesOn_73 (lv_at hl 1 rfl) ?_
      refine lv_if_le (pc := 75) (tgt := 85) hx hb dX5_movesOn_75 (by decide) (fun c16 => ?_) (fun c16 => ?_)
      · replace hf := ite_t c16 hf
        refine lv_iload (pc := 85) hx hb dX5_movesOn_85 (lv_at hl 1 rfl) ?_
        refine lv_if_ge (pc := 87) (tgt := 97) hx hb dX5_movesOn_87 (by decide) (fun c17 => ?_) (fun c17 => ?_)
        · replace hf := ite_t c17 hf
          refine lv_iconst (pc := 97) (v := 0) hx hb dX5_movesOn_97 (by decide) ?_
          obtain ⟨rfl⟩ := re1 hf
          exact hret _ _ _ _ _ rfl rfl hX dX5_movesOn_98
        · replace hf := ite_f c17 hf
          refine lv_iload (pc := 90) hx hb dX5_movesOn_90 (lv_at hl 1 rfl) ?_
          refine lv_iconst (pc := 92) (v := 1) hx hb dX5_movesOn_92 (by decide) ?_
          refine lv_iadd (pc := 93) hx hb dX5_movesOn_93 ?_
          refine lv_goto (pc := 94) (tgt := 98) hx hb dX5_movesOn_94 (by decide) ?_
          obtain ⟨rfl⟩ := re1 hf
          exact hret _ _ _ _ _ rfl rfl hX dX5_movesOn_98
      · replace hf := ite_f c16 hf
        refine lv_iload (pc := 78) hx hb dX5_movesOn_78 (lv_at hl 1 rfl) ?_
        refine lv_iconst (pc := 80) (v := 1) hx hb dX5_movesOn_80 (by decide) ?_
        refine lv_isub (pc := 81) hx hb dX5_movesOn_81 ?_
        refine lv_goto (pc := 82) (tgt := 98) hx hb dX5_movesOn_82 (by decide) ?_
        obtain ⟨rfl⟩ := re1 hf
        exact hret _ _ _ _ _ rfl rfl hX dX5_movesOn_98
  unfold fX5_movesOn at hf
  refine lv_aload_n (pc := 0) hx hb dX5_movesOn_0 rfl (lv_at hl 0 rfl) ?_
  refine lv_iload_n (pc := 1) hx hb dX5_movesOn_1 rfl (lv_at hl 1 rfl) ?_
  refine lv_iload_n (pc := 2) hx hb dX5_movesOn_2 rfl (lv_at hl 2 rfl) ?_
  obtain ⟨r1, g2, hf⟩ := cl1_adv hf
  refine x_callVi (pc := 3) (rest := []) (w2 := [(h0, .inr (5, [.ref h_state, .ref h_readPage, .ref h_tape, .int taped, .int fault, .int broken, .int brokenAt, .int spot, .int here, .int token, .int value, .ref h_ends, .ref h_letters, .int moved, .int turned, .int worst, .ref h_seen, .int seenMany, .ref h_lastBy, .ref h_isKept, .ref h_lanes, .ref h_lengths, .ref h_cells, .int torn])), (h_state, .inl (cI, 240, .inl state))]) C hX (kX5_leaderOn ad l D cI cB cZ cG cS h0 h_state h_readPage h_tape h_ends h_letters h_seen h_lastBy h_isKept h_lanes h_lengths h_cells taped fault broken brokenAt spot here token value moved turned worst seenMany torn state r1 p1 p2 g2) (cwV 2 C.1.2.2.2.2 gX5_movesOn_X5_leaderOn rfl rfl rfl (by decide +kernel) ⟨Nat.le_of_ble_eq_true rfl, Nat.le_of_ble_eq_true rfl⟩) [0, 1] [] [0, 1] rfl rfl rfl rfl (by decide) rfl rfl 0 rfl rfl rfl hl.1 rfl rfl (Nat.le_of_ble_eq_true rfl) dX5_movesOn_3 (fun H locs hX => ?_)
  refine lv_aload_n (pc := 6) hx hb dX5_movesOn_6 rfl (lv_at hl 0 rfl) ?_
  refine x_getf (pc := 7) (Cn := RX5) (T := TX5) (N := 24) C hX 0 rfl rfl miX5_movesOn_X5 0 (by decide) mmX5_movesOn_1 rfl dX5_movesOn_7 ?_
  refine lv_iload_n (pc := 10) hx hb dX5_movesOn_10 rfl (lv_at hl 1 rfl) ?_
  refine lv_bipush (pc := 11) (v := 8) hx hb dX5_movesOn_11 (by decide) ?_
  refine lv_iadd (pc := 13) hx hb dX5_movesOn_13 ?_
  refine lv_iload_n (pc := 14) hx hb dX5_movesOn_14 rfl (lv_at hl 2 rfl) ?_
  refine lv_iadd (pc := 15) hx hb dX5_movesOn_15 ?_
  replace hf := chk_adv hf
  have i3 := hf.1
  replace hf := hf.2
  refine x_iald (pc := 16) C hX 1 0 rfl rfl i3 dX5_movesOn_16 ?_
  refine lv_isub (pc := 17) hx hb dX5_movesOn_17 ?_
  refine lv_topi (fun v4 ev4 => ?_)
  replace hf := bnd_use ev4 hf
  refine lv_istore_n (pc := 18) (lv' := [(3, .int v4), (0, .ref h0), (1, .int p1), (2, .int p2)]) hx hb dX5_movesOn_18 rfl hl (by decide) rfl (fun ls hl => ?_)
  refine lv_aload_n (pc := 19) hx hb dX5_movesOn_19 rfl (lv_at hl 1 rfl) ?_
  refine lv_iload_n (pc := 20) hx hb dX5_movesOn_20 rfl (lv_at hl 2 rfl) ?_
  refine lv_iload_n (pc := 21) hx hb dX5_movesOn_21 rfl (lv_at hl 3 rfl) ?_
  obtain ⟨r5, g6, hf⟩ := cl1_adv hf
  refine x_callVi (pc := 22) (rest := []) (w2 := [(h0, .inr (5, [.ref h_state, .ref h_readPage, .ref h_tape, .int taped, .int fault, .int broken, .int brokenAt, .int spot, .int here, .int token, .int value, .ref h_ends, .ref h_letters, .int moved, .int turned, .int worst, .ref h_seen, .int seenMany, .ref h_lastBy, .ref h_isKept, .ref h_lanes, .ref h_lengths, .ref h_cells, .int torn])), (h_state, .inl (cI, 240, .inl state))]) C hX (kX5_playOn ad l D cI cB cZ cG cS h0 h_state h_readPage h_tape h_ends h_letters h_seen h_lastBy h_isKept h_lanes h_lengths h_cells taped fault broken brokenAt spot here token value moved turned worst seenMany torn state r5 p1 p2 g6) (cwV 2 C.1.2.2.2.2 gX5_movesOn_X5_playOn rfl rfl rfl (by decide +kernel) ⟨Nat.le_of_ble_eq_true rfl, Nat.le_of_ble_eq_true rfl⟩) [0, 1] [] [0, 1] rfl rfl rfl rfl (by decide) rfl rfl 0 rfl rfl rfl hl.1 rfl rfl (Nat.le_of_ble_eq_true rfl) dX5_movesOn_22 (fun H locs hX => ?_)
  refine lv_istore (pc := 25) (lv' := [(4, .int r5), (3, .int v4), (0, .ref h0), (1, .int p1), (2, .int p2)]) hx hb dX5_movesOn_25 hl (by decide) rfl (fun ls hl => ?_)
  refine lv_iload_n (pc := 27) hx hb dX5_movesOn_27 rfl (lv_at hl 1 rfl) ?_
  refine lv_iload (pc := 28) hx hb dX5_movesOn_28 (lv_at hl 0 rfl) ?_
  refine lv_icmp_le (pc := 30) (tgt := 40) hx hb dX5_movesOn_30 (by decide) (fun c7 => ?_) (fun c7 => ?_)
  · replace hf := ite_t c7 hf
    refine lv_iload_n (pc := 40) hx hb dX5_movesOn_40 rfl (lv_at hl 1 rfl) ?_
    refine lv_iload (pc := 41) hx hb dX5_movesOn_41 (lv_at hl 0 rfl) ?_
    refine lv_ineg (pc := 43) hx hb dX5_movesOn_43 ?_
    refine lv_icmp_ge (pc := 44) (tgt := 54) hx hb dX5_movesOn_44 (by decide) (fun c8 => ?_) (fun c8 => ?_)
    · replace hf := ite_t c8 hf
      refine lv_iconst (pc := 54) (v := 0) hx hb dX5_movesOn_54 (by decide) ?_
      exact L55  p1 p2 (0 : Int32) _ _ _ hf hX (lv_sub hl [2, 3, 4] rfl)
    · replace hf := ite_f c8 hf
      refine lv_iload_n (pc := 47) hx hb dX5_movesOn_47 rfl (lv_at hl 1 rfl) ?_
      refine lv_iload (pc := 48) hx hb dX5_movesOn_48 (lv_at hl 0 rfl) ?_
      refine lv_iadd (pc := 50) hx hb dX5_movesOn_50 ?_
      refine lv_goto (pc := 51) (tgt := 55) hx hb dX5_movesOn_51 (by decide) ?_
      exact L55  p1 p2 (v4 + r5) _ _ _ hf hX (lv_sub hl [2, 3, 4] rfl)
  · replace hf := ite_f c7 hf
    refine lv_iload_n (pc := 33) hx hb dX5_movesOn_33 rfl (lv_at hl 1 rfl) ?_
    refine lv_iload (pc := 34) hx hb dX5_movesOn_34 (lv_at hl 0 rfl) ?_
    refine lv_isub (pc := 36) hx hb dX5_movesOn_36 ?_
    refine lv_goto (pc := 37) (tgt := 55) hx hb dX5_movesOn_37 (by decide) ?_
    exact L55  p1 p2 (v4 - r5) _ _ _ hf hX (lv_sub hl [2, 3, 4] rfl)
theorem mmX5_armsOn_1 : Cond.fieldLink RX5 7 "SlackArmsModel" "state" "[I" ∈ wsX5_armsOn := List.mem_of_getElem? (i := 1) rfl
theorem miX5_armsOn_X5 : ∀ w ∈ u_ws RX5 TX5 24, w ∈ wsX5_armsOn := fun w h => List.mem_cons_of_mem _ (List.mem_append_right _ h)
theorem mmX5_armsOn_3 : Cond.fieldLink RX5 134 "SlackArmsModel" "moved" "I" ∈ wsX5_armsOn := List.mem_of_getElem? (i := 3) rfl
theorem mmX5_armsOn_2 : Cond.fieldLink RX5 131 "SlackArmsModel" "turned" "I" ∈ wsX5_armsOn := List.mem_of_getElem? (i := 2) rfl
set_option maxHeartbeats 4000000 in
set_option maxRecDepth 100000 in
theorem kX5_armsOn (ad : xAd) (l : Launch) (D : va_G) (cI cB cZ cG cS : ClassId) (h0 h_state h_readPage h_tape h_ends h_letters h_seen h_lastBy h_isKept h_lanes h_lengths h_cells : Nat) (taped : Int32) (fault : Int32) (broken : Int32) (brokenAt : Int32) (spot : Int32) (here : Int32) (token : Int32) (value : Int32) (moved : Int32) (turned : Int32) (worst : Int32) (seenMany : Int32) (torn : Int32) (state : (Nat → Int32)) (o_moved' : Int32) (o_turned' : Int32) (o_state' : (Nat → Int32)) (p1 : Int32) (hf : fX5_armsOn p1 moved turned state = some (o_moved', o_turned', o_state')) : xMv ad l yX5_armsOn wsX5_armsOn ({ frames := 2, cells := 0, slots := 0, locals := 48 } : Room) D (xTY cI cB cZ cG cS) [.ref h0, .int p1] [(h0, .inr (5, [.ref h_state, .ref h_readPage, .ref h_tape, .int taped, .int fault, .int broken, .int brokenAt, .int spot, .int here, .int token, .int value, .ref h_ends, .ref h_letters, .int moved, .int turned, .int worst, .ref h_seen, .int seenMany, .ref h_lastBy, .ref h_isKept, .ref h_lanes, .ref h_lengths, .ref h_cells, .int torn])), (h_state, .inl (cI, 240, .inl state))] [(h0, .inr (5, [.ref h_state, .ref h_readPage, .ref h_tape, .int taped, .int fault, .int broken, .int brokenAt, .int spot, .int here, .int token, .int value, .ref h_ends, .ref h_letters, .int o_moved', .int o_turned', .int worst, .ref h_seen, .int seenMany, .ref h_lastBy, .ref h_isKept, .ref h_lanes, .ref h_lengths, .ref h_cells, .int torn])), (h_state, .inl (cI, 240, .inl o_state'))] := by
  refine xMv_of (cc := cX5_armsOn) (maxL := 5) (by decide) rfl (Nat.le_of_ble_eq_true rfl) ?_
  intro p e s m args below meth c A Q ls C hX hl hret
  have hx := C.1.1
  have hb := C.1.2.1
  have hl : lv_has ls 5 [(0, .ref h0), (1, .int p1)] := hl
  have L140 : ∀ (k2 : Int32 → Int32 → Int32 → Int32 → (Nat → Int32) → Option (Int32 × Int32 × (Nat → Int32))) (hk2 : ∀ (x1 : Int32) (x2 : Int32) (moved : Int32) (turned : Int32) (state : (Nat → Int32)) (H : Heap) (locs : List Loc) (ls : Array Slot), k2 x1 x2 moved turned state = some (o_moved', o_turned', o_state') → xSt A s D [(h0, .inr (5, [.ref h_state, .ref h_readPage, .ref h_tape, .int taped, .int fault, .int broken, .int brokenAt, .int spot, .int here, .int token, .int value, .ref h_ends, .ref h_letters, .int moved, .int turned, .int worst, .ref h_seen, .int seenMany, .ref h_lastBy, .ref h_isKept, .ref h_lanes, .ref h_lengths, .ref h_cells, .int torn])), (h_state, .inl (cI, 240, .inl state))] H locs → lv_has ls 5 [(0, .ref h0), (1, .int x1), (2, .int x2)] → W p l e ({ frames := 2, cells := 0, slots := 0, locals := 48 } : Room) s m args below meth c H locs 0 0 Q (F0 m 2 ls [])), ∀ (x1 : Int32) (x2 : Int32) (moved : Int32) (turned : Int32) (state : (Nat → Int32)) (H : Heap) (locs : List Loc) (ls : Array Slot), fX5_armsOn_L140  k2 x1 x2 moved turned state = some (o_moved', o_turned', o_state') → xSt A s D [(h0, .inr (5, [.ref h_state, .ref h_readPage, .ref h_tape, .int taped, .int fault, .int broken, .int brokenAt, .int spot, .int here, .int token, .int value, .ref h_ends, .ref h_letters, .int moved, .int turned, .int worst, .ref h_seen, .int seenMany, .ref h_lastBy, .ref h_isKept, .ref h_lanes, .ref h_lengths, .ref h_cells, .int torn])), (h_state, .inl (cI, 240, .inl state))] H locs → lv_has ls 5 [(0, .ref h0), (1, .int x1), (2, .int x2)] → W p l e ({ frames := 2, cells := 0, slots := 0, locals := 48 } : Room) s m args below meth c H locs 0 0 Q (F0 m 140 ls []) := by
    intro k2 hk2 x1 x2 moved turned state H locs ls hf hX hl
    unfold fX5_armsOn_L140 at hf
    obtain ⟨v6, ev6⟩ : ∃ y : Int32, y = (x2 + (1 : Int32)) := ⟨_, rfl⟩
    replace hf := bnd_use ev6 hf
    refine lv_iinc (pc := 140) (v := v6) (lv' := [(2, .int v6), (0, .ref h0), (1, .int x1)]) hx hb dX5_armsOn_140 hl (k := 2) rfl (by rw [ev6]; rfl) (by decide) rfl (fun ls hl => ?_)
    refine lv_goto (pc := 143) (tgt := 2) hx hb dX5_armsOn_143 (by decide) ?_
    exact hk2 x1 v6 moved turned state _ _ _ hf hX (lv_sub hl [1, 2, 0] rfl)
  have L99 : ∀ (k2 : Int32 → Int32 → Int32 → Int32 → (Nat → Int32) → Option (Int32 × Int32 × (Nat → Int32))) (hk2 : ∀ (x1 : Int32) (x2 : Int32) (moved : Int32) (turned : Int32) (state : (Nat → Int32)) (H : Heap) (locs : List Loc) (ls : Array Slot), k2 x1 x2 moved turned state = some (o_moved', o_turned', o_state') → xSt A s D [(h0, .inr (5, [.ref h_state, .ref h_readPage, .ref h_tape, .int taped, .int fault, .int broken, .int brokenAt, .int spot, .int here, .int token, .int value, .ref h_ends, .ref h_letters, .int moved, .int turned, .int worst, .ref h_seen, .int seenMany, .ref h_lastBy, .ref h_isKept, .ref h_lanes, .ref h_lengths, .ref h_cells, .int torn])), (h_state, .inl (cI, 240, .inl state))] H locs → lv_has ls 5 [(0, .ref h0), (1, .int x1), (2, .int x2)] → W p l e ({ frames := 2, cells := 0, slots := 0, locals := 48 } : Room) s m args below meth c H locs 0 0 Q (F0 m 2 ls [])), ∀ (x1 : Int32) (x2 : Int32) (x3 : Int32) (x4 : Int32) (moved : Int32) (turned : Int32) (state : (Nat → Int32)) (H : Heap) (locs : List Loc) (ls : Array Slot), fX5_armsOn_L99  k2 x1 x2 x3 x4 moved turned state = some (o_moved', o_turned', o_state') → xSt A s D [(h0, .inr (5, [.ref h_state, .ref h_readPage, .ref h_tape, .int taped, .int fault, .int broken, .int brokenAt, .int spot, .int here, .int token, .int value, .ref h_ends, .ref h_letters, .int moved, .int turned, .int worst, .ref h_seen, .int seenMany, .ref h_lastBy, .ref h_isKept, .ref h_lanes, .ref h_lengths, .ref h_cells, .int torn])), (h_state, .inl (cI, 240, .inl state))] H locs → lv_has ls 5 [(0, .ref h0), (1, .int x1), (2, .int x2), (3, .int x3), (4, .int x4)] → W p l e ({ frames := 2, cells := 0, slots := 0, locals := 48 } : Room) s m args below meth c H locs 0 0 Q (F0 m 99 ls []) := by
    intro k2 hk2 x1 x2 x3 x4 moved turned state H locs ls hf hX hl
    unfold fX5_armsOn_L99 at hf
    refine lv_aload_n (pc := 99) hx hb dX5_armsOn_99 rfl (lv_at hl 0 rfl) ?_
    refine x_getf (pc := 100) (Cn := RX5) (T := TX5) (N := 24) C hX 0 rfl rfl miX5_armsOn_X5 0 (by decide) mmX5_armsOn_1 rfl dX5_armsOn_100 ?_
    refine lv_iload_n (pc := 103) hx hb dX5_armsOn_103 rfl (lv_at hl 1 rfl) ?_
    refine lv_bipush (pc := 104) (v := 16) hx hb dX5_armsOn_104 (by decide) ?_
    refine lv_iadd (pc := 106) hx hb dX5_armsOn_106 ?_
    refine lv_iload_n (pc := 107) hx hb dX5_armsOn_107 rfl (lv_at hl 2 rfl) ?_
    refine lv_iadd (pc := 108) hx hb dX5_armsOn_108 ?_
    refine lv_iload (pc := 109) hx hb dX5_armsOn_109 (lv_at hl 4 rfl) ?_
    replace hf := chk_adv hf
    have i10 := hf.1
    replace hf := hf.2
    obtain ⟨f11, ef11⟩ : ∃ y : Nat → Int32, y = (upd state (((x1 + (16 : Int32)) + x2)).toNatClampNeg x4) := ⟨_, rfl⟩
    replace hf := bnd_use ef11 hf
    refine x_iast (pc := 111) C hX 1 0 rfl rfl i10 [(h0, .inr (5, [.ref h_state, .ref h_readPage, .ref h_tape, .int taped, .int fault, .int broken, .int brokenAt, .int spot, .int here, .int token, .int value, .ref h_ends, .ref h_letters, .int moved, .int turned, .int worst, .ref h_seen, .int seenMany, .ref h_lastBy, .ref h_isKept, .ref h_lanes, .ref h_lengths, .ref h_cells, .int torn])), (h_state, .inl (cI, 240, .inl f11))] (by subst ef11; rfl) dX5_armsOn_111 (fun H locs hX => ?_)
    refine lv_aload_n (pc := 112) hx hb dX5_armsOn_112 rfl (lv_at hl 0 rfl) ?_
    refine x_getf (pc := 113) (Cn := RX5) (T := TX5) (N := 24) C hX 0 rfl rfl miX5_armsOn_X5 0 (by decide) mmX5_armsOn_1 rfl dX5_armsOn_113 ?_
    refine lv_iload_n (pc := 116) hx hb dX5_armsOn_116 rfl (lv_at hl 1 rfl) ?_
    refine lv_bipush (pc := 117) (v := 8) hx hb dX5_armsOn_117 (by decide) ?_
    refine lv_iadd (pc := 119) hx hb dX5_armsOn_119 ?_
    refine lv_iload_n (pc := 120) hx hb dX5_armsOn_120 rfl (lv_at hl 2 rfl) ?_
    refine lv_iadd (pc := 121) hx hb dX5_armsOn_121 ?_
    refine lv_dup2_11 (pc := 122) hx hb dX5_armsOn_122 rfl rfl ?_
    replace hf := chk_adv hf
    have i12 := hf.1
    replace hf := hf.2
    refine x_iald (pc := 123) C hX 1 0 rfl rfl i12 dX5_armsOn_123 ?_
    refine lv_iload_n (pc := 124) hx hb dX5_armsOn_124 rfl (lv_at hl 3 rfl) ?_
    refine lv_iadd (pc := 125) hx hb dX5_armsOn_125 ?_
    refine lv_topi (fun v13 ev13 => ?_)
    replace hf := bnd_use ev13 hf
    replace hf := chk_adv hf
    have i14 := hf.1
    replace hf := hf.2
    obtain ⟨f15, ef15⟩ : ∃ y : Nat → Int32, y = (upd f11 (((x1 + (8 : Int32)) + x2)).toNatClampNeg v13) := ⟨_, rfl⟩
    replace hf := bnd_use ef15 hf
    refine x_iast (pc := 126) C hX 1 0 rfl rfl i14 [(h0, .inr (5, [.ref h_state, .ref h_readPage, .ref h_tape, .int taped, .int fault, .int broken, .int brokenAt, .int spot, .int here, .int token, .int value, .ref h_ends, .ref h_letters, .int moved, .int turned, .int worst, .ref h_seen, .int seenMany, .ref h_lastBy, .ref h_isKept, .ref h_lanes, .ref h_lengths, .ref h_cells, .int torn])), (h_state, .inl (cI, 240, .inl f15))] (by subst ef15; rfl) dX5_armsOn_126 (fun H locs hX => ?_)
    refine lv_aload_n (pc := 127) hx hb dX5_armsOn_127 rfl (lv_at hl 0 rfl) ?_
    refine lv_dup (pc := 128) hx hb dX5_armsOn_128 rfl ?_
    refine x_getf (pc := 129) (Cn := RX5) (T := TX5) (N := 24) C hX 0 rfl rfl miX5_armsOn_X5 13 (by decide) mmX5_armsOn_3 rfl dX5_armsOn_129 ?_
    refine lv_iload_n (pc := 132) hx hb dX5_armsOn_132 rfl (lv_at hl 3 rfl) ?_
    obtain ⟨r16, g17, hf⟩ := cl1_adv hf
    refine x_callSi (pc := 133) (rest := [.int moved, .ref h0]) C hX (kX5_amount ad l D cI cB cZ cG cS r16 x3 g17) (va_cwS 1 C.1.2.2.2.2 gX5_armsOn_X5_amount rfl rfl rfl (by decide +kernel) ⟨Nat.le_of_ble_eq_true rfl, Nat.le_of_ble_eq_true rfl⟩) hl.1 rfl rfl (Nat.le_of_ble_eq_true rfl) dX5_armsOn_133 (fun H locs hX => ?_)
    refine lv_iadd (pc := 136) hx hb dX5_armsOn_136 ?_
    refine lv_topi (fun v18 ev18 => ?_)
    replace hf := bnd_use ev18 hf
    refine x_putf (pc := 137) (Cn := RX5) (T := TX5) (N := 24) C hX tyX5 tyX5_ok nmX5 0 rfl rfl miX5_armsOn_X5 13 (by decide) mmX5_armsOn_3 rfl rfl (Nat.le_of_ble_eq_true rfl) [(h0, .inr (5, [.ref h_state, .ref h_readPage, .ref h_tape, .int taped, .int fault, .int broken, .int brokenAt, .int spot, .int here, .int token, .int value, .ref h_ends, .ref h_letters, .int v18, .int turned, .int worst, .ref h_seen, .int seenMany, .ref h_lastBy, .ref h_isKept, .ref h_lanes, .ref h_lengths, .ref h_cells, .int torn])), (h_state, .inl (cI, 240, .inl f15))] rfl dX5_armsOn_137 (fun H locs hX => ?_)
    exact L140 (k2) hk2 x1 x2 v18 turned f15 _ _ _ hf hX (lv_sub hl [0, 1, 2] rfl)
  have L97 : ∀ (k2 : Int32 → Int32 → Int32 → Int32 → (Nat → Int32) → Option (Int32 × Int32 × (Nat → Int32))) (hk2 : ∀ (x1 : Int32) (x2 : Int32) (moved : Int32) (turned : Int32) (state : (Nat → Int32)) (H : Heap) (locs : List Loc) (ls : Array Slot), k2 x1 x2 moved turned state = some (o_moved', o_turned', o_state') → xSt A s D [(h0, .inr (5, [.ref h_state, .ref h_readPage, .ref h_tape, .int taped, .int fault, .int broken, .int brokenAt, .int spot, .int here, .int token, .int value, .ref h_ends, .ref h_letters, .int moved, .int turned, .int worst, .ref h_seen, .int seenMany, .ref h_lastBy, .ref h_isKept, .ref h_lanes, .ref h_lengths, .ref h_cells, .int torn])), (h_state, .inl (cI, 240, .inl state))] H locs → lv_has ls 5 [(0, .ref h0), (1, .int x1), (2, .int x2)] → W p l e ({ frames := 2, cells := 0, slots := 0, locals := 48 } : Room) s m args below meth c H locs 0 0 Q (F0 m 2 ls [])), ∀ (x1 : Int32) (x2 : Int32) (x3 : Int32) (x4 : Int32) (y0 : Int32) (y1 : Int32) (y2 : Int32) (moved : Int32) (turned : Int32) (state : (Nat → Int32)) (H : Heap) (locs : List Loc) (ls : Array Slot), fX5_armsOn_L97  k2 x1 x2 x3 x4 y0 y1 y2 moved turned state = some (o_moved', o_turned', o_state') → xSt A s D [(h0, .inr (5, [.ref h_state, .ref h_readPage, .ref h_tape, .int taped, .int fault, .int broken, .int brokenAt, .int spot, .int here, .int token, .int value, .ref h_ends, .ref h_letters, .int moved, .int turned, .int worst, .ref h_seen, .int seenMany, .ref h_lastBy, .ref h_isKept, .ref h_lanes, .ref h_lengths, .ref h_cells, .int torn])), (h_state, .inl (cI, 240, .inl state))] H locs → lv_has ls 5 [(0, .ref h0), (1, .int x1), (2, .int x2), (3, .int x3), (4, .int x4)] → W p l e ({ frames := 2, cells := 0, slots := 0, locals := 48 } : Room) s m args below meth c H locs 0 0 Q (F0 m 97 ls [.int y2, .int y1, .int y0, .ref h_state]) := by
    intro k2 hk2 x1 x2 x3 x4 y0 y1 y2 moved turned state H locs ls hf hX hl
    unfold fX5_armsOn_L97 at hf
    refine lv_iadd (pc := 97) hx hb dX5_armsOn_97 ?_
    refine lv_topi (fun v23 ev23 => ?_)
    replace hf := bnd_use ev23 hf
    replace hf := chk_adv hf
    have i24 := hf.1
    replace hf := hf.2
    obtain ⟨f25, ef25⟩ : ∃ y : Nat → Int32, y = (upd state (y0).toNatClampNeg v23) := ⟨_, rfl⟩
    replace hf := bnd_use ef25 hf
    refine x_iast (pc := 98) C hX 1 0 rfl rfl i24 [(h0, .inr (5, [.ref h_state, .ref h_readPage, .ref h_tape, .int taped, .int fault, .int broken, .int brokenAt, .int spot, .int here, .int token, .int value, .ref h_ends, .ref h_letters, .int moved, .int turned, .int worst, .ref h_seen, .int seenMany, .ref h_lastBy, .ref h_isKept, .ref h_lanes, .ref h_lengths, .ref h_cells, .int torn])), (h_state, .inl (cI, 240, .inl f25))] (by subst ef25; rfl) dX5_armsOn_98 (fun H locs hX => ?_)
    exact L99 (k2) hk2 x1 x2 x3 x4 moved turned f25 _ _ _ hf hX (lv_sub hl [0, 1, 2, 3, 4] rfl)
  have L35 : ∀ (k2 : Int32 → Int32 → Int32 → Int32 → (Nat → Int32) → Option (Int32 × Int32 × (Nat → Int32))) (hk2 : ∀ (x1 : Int32) (x2 : Int32) (moved : Int32) (turned : Int32) (state : (Nat → Int32)) (H : Heap) (locs : List Loc) (ls : Array Slot), k2 x1 x2 moved turned state = some (o_moved', o_turned', o_state') → xSt A s D [(h0, .inr (5, [.ref h_state, .ref h_readPage, .ref h_tape, .int taped, .int fault, .int broken, .int brokenAt, .int spot, .int here, .int token, .int value, .ref h_ends, .ref h_letters, .int moved, .int turned, .int worst, .ref h_seen, .int seenMany, .ref h_lastBy, .ref h_isKept, .ref h_lanes, .ref h_lengths, .ref h_cells, .int torn])), (h_state, .inl (cI, 240, .inl state))] H locs → lv_has ls 5 [(0, .ref h0), (1, .int x1), (2, .int x2)] → W p l e ({ frames := 2, cells := 0, slots := 0, locals := 48 } : Room) s m args below meth c H locs 0 0 Q (F0 m 2 ls [])), ∀ (x1 : Int32) (x2 : Int32) (x3 : Int32) (y0 : Int32) (moved : Int32) (turned : Int32) (state : (Nat → Int32)) (H : Heap) (locs : List Loc) (ls : Array Slot), fX5_armsOn_L35  k2 x1 x2 x3 y0 moved turned state = some (o_moved', o_turned', o_state') → xSt A s D [(h0, .inr (5, [.ref h_state, .ref h_readPage, .ref h_tape, .int taped, .int fault, .int broken, .int brokenAt, .int spot, .int here, .int token, .int value, .ref h_ends, .ref h_letters, .int moved, .int turned, .int worst, .ref h_seen, .int seenMany, .ref h_lastBy, .ref h_isKept, .ref h_lanes, .ref h_lengths, .ref h_cells, .int torn])), (h_state, .inl (cI, 240, .inl state))] H locs → lv_has ls 5 [(0, .ref h0), (1, .int x1), (2, .int x2), (3, .int x3)] → W p l e ({ frames := 2, cells := 0, slots := 0, locals := 48 } : Room) s m args below meth c H locs 0 0 Q (F0 m 35 ls [.int y0]) := by
    intro k2 hk2 x1 x2 x3 y0 moved turned state H locs ls hf hX hl
    unfold fX5_armsOn_L35 at hf
    refine lv_istore (pc := 35) (lv' := [(4, .int y0), (0, .ref h0), (1, .int x1), (2, .int x2), (3, .int x3)]) hx hb dX5_armsOn_35 hl (by decide) rfl (fun ls hl => ?_)
    refine lv_aload_n (pc := 37) hx hb dX5_armsOn_37 rfl (lv_at hl 1 rfl) ?_
    refine x_getf (pc := 38) (Cn := RX5) (T := TX5) (N := 24) C hX 0 rfl rfl miX5_armsOn_X5 0 (by decide) mmX5_armsOn_1 rfl dX5_armsOn_38 ?_
    refine lv_iload_n (pc := 41) hx hb dX5_armsOn_41 rfl (lv_at hl 2 rfl) ?_
    refine lv_bipush (pc := 42) (v := 16) hx hb dX5_armsOn_42 (by decide) ?_
    refine lv_iadd (pc := 44) hx hb dX5_armsOn_44 ?_
    refine lv_iload_n (pc := 45) hx hb dX5_armsOn_45 rfl (lv_at hl 3 rfl) ?_
    refine lv_iadd (pc := 46) hx hb dX5_armsOn_46 ?_
    replace hf := chk_adv hf
    have i8 := hf.1
    replace hf := hf.2
    refine x_iald (pc := 47) C hX 1 0 rfl rfl i8 dX5_armsOn_47 ?_
    refine lv_iload (pc := 48) hx hb dX5_armsOn_48 (lv_at hl 0 rfl) ?_
    refine lv_ineg (pc := 50) hx hb dX5_armsOn_50 ?_
    refine lv_icmp_ne (pc := 51) (tgt := 99) hx hb dX5_armsOn_51 (by decide) (fun c9 => ?_) (fun c9 => ?_)
    · replace hf := ite_f c9 hf
      exact L99 (k2) hk2 x1 x2 x3 y0 moved turned state _ _ _ hf hX (lv_sub hl [1, 2, 3, 4, 0] rfl)
    · replace hf := ite_t c9 hf
      refine lv_aload_n (pc := 54) hx hb dX5_armsOn_54 rfl (lv_at hl 1 rfl) ?_
      refine lv_dup (pc := 55) hx hb dX5_armsOn_55 rfl ?_
      refine x_getf (pc := 56) (Cn := RX5) (T := TX5) (N := 24) C hX 0 rfl rfl miX5_armsOn_X5 14 (by decide) mmX5_armsOn_2 rfl dX5_armsOn_56 ?_
      refine lv_iconst (pc := 59) (v := 1) hx hb dX5_armsOn_59 (by decide) ?_
      refine lv_iadd (pc := 60) hx hb dX5_armsOn_60 ?_
      refine lv_topi (fun v19 ev19 => ?_)
      replace hf := bnd_use ev19 hf
      refine x_putf (pc := 61) (Cn := RX5) (T := TX5) (N := 24) C hX tyX5 tyX5_ok nmX5 0 rfl rfl miX5_armsOn_X5 14 (by decide) mmX5_armsOn_2 rfl rfl (Nat.le_of_ble_eq_true rfl) [(h0, .inr (5, [.ref h_state, .ref h_readPage, .ref h_tape, .int taped, .int fault, .int broken, .int brokenAt, .int spot, .int here, .int token, .int value, .ref h_ends, .ref h_letters, .int moved, .int v19, .int worst, .ref h_seen, .int seenMany, .ref h_lastBy, .ref h_isKept, .ref h_lanes, .ref h_lengths, .ref h_cells, .int torn])), (h_state, .inl (cI, 240, .inl state))] rfl dX5_armsOn_61 (fun H locs hX => ?_)
      refine lv_aload_n (pc := 64) hx hb dX5_armsOn_64 rfl (lv_at hl 1 rfl) ?_
      refine x_getf (pc := 65) (Cn := RX5) (T := TX5) (N := 24) C hX 0 rfl rfl miX5_armsOn_X5 0 (by decide) mmX5_armsOn_1 rfl dX5_armsOn_65 ?_
      refine lv_iload_n (pc := 68) hx hb dX5_armsOn_68 rfl (lv_at hl 2 rfl) ?_
      refine lv_bipush (pc := 69) (v := 12) hx hb dX5_armsOn_69 (by decide) ?_
      refine lv_iadd (pc := 71) hx hb dX5_armsOn_71 ?_
      refine lv_iload_n (pc := 72) hx hb dX5_armsOn_72 rfl (lv_at hl 3 rfl) ?_
      refine lv_iadd (pc := 73) hx hb dX5_armsOn_73 ?_
      refine lv_dup2_11 (pc := 74) hx hb dX5_armsOn_74 rfl rfl ?_
      replace hf := chk_adv hf
      have i20 := hf.1
      replace hf := hf.2
      refine x_iald (pc := 75) C hX 1 0 rfl rfl i20 dX5_armsOn_75 ?_
      refine lv_aload_n (pc := 76) hx hb dX5_armsOn_76 rfl (lv_at hl 1 rfl) ?_
      refine x_getf (pc := 77) (Cn := RX5) (T := TX5) (N := 24) C hX 0 rfl rfl miX5_armsOn_X5 0 (by decide) mmX5_armsOn_1 rfl dX5_armsOn_77 ?_
      refine lv_iload_n (pc := 80) hx hb dX5_armsOn_80 rfl (lv_at hl 2 rfl) ?_
      refine lv_bipush (pc := 81) (v := 12) hx hb dX5_armsOn_81 (by decide) ?_
      refine lv_iadd (pc := 83) hx hb dX5_armsOn_83 ?_
      refine lv_iload_n (pc := 84) hx hb dX5_armsOn_84 rfl (lv_at hl 3 rfl) ?_
      refine lv_iadd (pc := 85) hx hb dX5_armsOn_85 ?_
      replace hf := chk_adv hf
      have i21 := hf.1
      replace hf := hf.2
      refine x_iald (pc := 86) C hX 1 0 rfl rfl i21 dX5_armsOn_86 ?_
      refine lv_bipush (pc := 87) (v := 9) hx hb dX5_armsOn_87 (by decide) ?_
      refine lv_icmp_ge (pc := 89) (tgt := 96) hx hb dX5_armsOn_89 (by decide) (fun c22 => ?_) (fun c22 => ?_)
      · replace hf := ite_t c22 hf
        refine lv_iconst (pc := 96) (v := 0) hx hb dX5_armsOn_96 (by decide) ?_
        exact L97 (k2) hk2 x1 x2 x3 y0 ((x1 + (12 : Int32)) + x2) (state (((x1 + (12 : Int32)) + x2)).toNatClampNeg) (0 : Int32) moved v19 state _ _ _ hf hX (lv_sub hl [1, 2, 3, 4, 0] rfl)
      · replace hf := ite_f c22 hf
        refine lv_iconst (pc := 92) (v := 1) hx hb dX5_armsOn_92 (by decide) ?_
        refine lv_goto (pc := 93) (tgt := 97) hx hb dX5_armsOn_93 (by decide) ?_
        exact L97 (k2) hk2 x1 x2 x3 y0 ((x1 + (12 : Int32)) + x2) (state (((x1 + (12 : Int32)) + x2)).toNatClampNeg) (1 : Int32) moved v19 state _ _ _ hf hX (lv_sub hl [1, 2, 3, 4, 0] rfl)
  have L2 : ∀ (n : Nat), ∀ (x1 : Int32) (x2 : Int32) (moved : Int32) (turned : Int32) (state : (Nat → Int32)) (H : Heap) (locs : List Loc) (ls : Array Slot), fX5_armsOn_L2  n x1 x2 moved turned state = some (o_moved', o_turned', o_state') → xSt A s D [(h0, .inr (5, [.ref h_state, .ref h_readPage, .ref h_tape, .int taped, .int fault, .int broken, .int brokenAt, .int spot, .int here, .int token, .int value, .ref h_ends, .ref h_letters, .int moved, .int turned, .int worst, .ref h_seen, .int seenMany, .ref h_lastBy, .ref h_isKept, .ref h_lanes, .ref h_lengths, .ref h_cells, .int torn])), (h_state, .inl (cI, 240, .inl state))] H locs → lv_has ls 5 [(0, .ref h0), (1, .int x1), (2, .int x2)] → W p l e ({ frames := 2, cells := 0, slots := 0, locals := 48 } : Room) s m args below meth c H locs 0 0 Q (F0 m 2 ls []) := by
    intro n
    induction n with
    | zero =>
      intro x1 x2 moved turned state H locs ls hf
      rw [fX5_armsOn_L2] at hf
      cases hf
    | succ n ih =>
      intro x1 x2 moved turned state H locs ls hf hX hl
      rw [fX5_armsOn_L2] at hf
      refine lv_iload_n (pc := 2) hx hb dX5_armsOn_2 rfl (lv_at hl 2 rfl) ?_
      refine lv_aload_n (pc := 3) hx hb dX5_armsOn_3 rfl (lv_at hl 0 rfl) ?_
      refine x_getf (pc := 4) (Cn := RX5) (T := TX5) (N := 24) C hX 0 rfl rfl miX5_armsOn_X5 0 (by decide) mmX5_armsOn_1 rfl dX5_armsOn_4 ?_
      refine lv_iload_n (pc := 7) hx hb dX5_armsOn_7 rfl (lv_at hl 1 rfl) ?_
      refine lv_bipush (pc := 8) (v := 20) hx hb dX5_armsOn_8 (by decide) ?_
      refine lv_iadd (pc := 10) hx hb dX5_armsOn_10 ?_
      replace hf := chk_adv hf
      have i1 := hf.1
      replace hf := hf.2
      refine x_iald (pc := 11) C hX 1 0 rfl rfl i1 dX5_armsOn_11 ?_
      refine lv_icmp_ge (pc := 12) (tgt := 146) hx hb dX5_armsOn_12 (by decide) (fun c2 => ?_) (fun c2 => ?_)
      · replace hf := ite_t c2 hf
        obtain ⟨rfl, rfl, rfl⟩ := re3 hf
        exact hret _ _ _ _ hX dX5_armsOn_146
      · replace hf := ite_f c2 hf
        refine lv_aload_n (pc := 15) hx hb dX5_armsOn_15 rfl (lv_at hl 0 rfl) ?_
        refine lv_iload_n (pc := 16) hx hb dX5_armsOn_16 rfl (lv_at hl 1 rfl) ?_
        refine lv_iload_n (pc := 17) hx hb dX5_armsOn_17 rfl (lv_at hl 2 rfl) ?_
        obtain ⟨r3, g4, hf⟩ := cl1_adv hf
        refine x_callVi (pc := 18) (rest := []) (w2 := [(h0, .inr (5, [.ref h_state, .ref h_readPage, .ref h_tape, .int taped, .int fault, .int broken, .int brokenAt, .int spot, .int here, .int token, .int value, .ref h_ends, .ref h_letters, .int moved, .int turned, .int worst, .ref h_seen, .int seenMany, .ref h_lastBy, .ref h_isKept, .ref h_lanes, .ref h_lengths, .ref h_cells, .int torn])), (h_state, .inl (cI, 240, .inl state))]) C hX (kX5_movesOn ad l D cI cB cZ cG cS h0 h_state h_readPage h_tape h_ends h_letters h_seen h_lastBy h_isKept h_lanes h_lengths h_cells taped fault broken brokenAt spot here token value moved turned worst seenMany torn state r3 x1 x2 g4) (cwV 2 C.1.2.2.2.2 gX5_armsOn_X5_movesOn rfl rfl rfl (by decide +kernel) ⟨Nat.le_of_ble_eq_true rfl, Nat.le_of_ble_eq_true rfl⟩) [0, 1] [] [0, 1] rfl rfl rfl rfl (by decide) rfl rfl 0 rfl rfl rfl hl.1 rfl rfl (Nat.le_of_ble_eq_true rfl) dX5_armsOn_18 (fun H locs hX => ?_)
        refine lv_istore_n (pc := 21) (lv' := [(3, .int r3), (0, .ref h0), (1, .int x1), (2, .int x2)]) hx hb dX5_armsOn_21 rfl hl (by decide) rfl (fun ls hl => ?_)
        refine lv_iload_n (pc := 22) hx hb dX5_armsOn_22 rfl (lv_at hl 0 rfl) ?_
        refine lv_if_eq (pc := 23) (tgt := 140) hx hb dX5_armsOn_23 (by decide) (fun c5 => ?_) (fun c5 => ?_)
        · replace hf := ite_t c5 hf
          exact L140 (fX5_armsOn_L2  n) ih x1 x2 moved turned state _ _ _ hf hX (lv_sub hl [1, 2, 3] rfl)
        · replace hf := ite_f c5 hf
          refine lv_iload_n (pc := 26) hx hb dX5_armsOn_26 rfl (lv_at hl 0 rfl) ?_
          refine lv_if_le (pc := 27) (tgt := 34) hx hb dX5_armsOn_27 (by decide) (fun c7 => ?_) (fun c7 => ?_)
          · replace hf := ite_t c7 hf
            refine lv_iconst (pc := 34) (v := -1) hx hb dX5_armsOn_34 (by decide) ?_
            exact L35 (fX5_armsOn_L2  n) ih x1 x2 r3 (-1 : Int32) moved turned state _ _ _ hf hX (lv_sub hl [1, 2, 3, 0] rfl)
          · replace hf := ite_f c7 hf
            refine lv_iconst (pc := 30) (v := 1) hx hb dX5_armsOn_30 (by decide) ?_
            refine lv_goto (pc := 31) (tgt := 35) hx hb dX5_armsOn_31 (by decide) ?_
            exact L35 (fX5_armsOn_L2  n) ih x1 x2 r3 (1 : Int32) moved turned state _ _ _ hf hX (lv_sub hl [1, 2, 3, 0] rfl)
  unfold fX5_armsOn at hf
  refine lv_iconst (pc := 0) (v := 0) hx hb dX5_armsOn_0 (by decide) ?_
  refine lv_istore_n (pc := 1) (lv' := [(2, .int (0 : Int32)), (0, .ref h0), (1, .int p1)]) hx hb dX5_armsOn_1 rfl hl (by decide) rfl (fun ls hl => ?_)
  exact L2  xF p1 (0 : Int32) moved turned state _ _ _ hf hX (lv_sub hl [1, 2, 0] rfl)
theorem mmX5_handOn_1 : Cond.fieldLink RX5 7 "SlackArmsModel" "state" "[I" ∈ wsX5_handOn := List.mem_of_getElem? (i := 1) rfl
theorem miX5_handOn_X5 : ∀ w ∈ u_ws RX5 TX5 24, w ∈ wsX5_handOn := fun w h => List.mem_cons_of_mem _ (List.mem_append_right _ h)
set_option maxHeartbeats 4000000 in
set_option maxRecDepth 100000 in
theorem kX5_handOn (ad : xAd) (l : Launch) (D : va_G) (cI cB cZ cG cS : ClassId) (h0 h_state h_readPage h_tape h_ends h_letters h_seen h_lastBy h_isKept h_lanes h_lengths h_cells : Nat) (taped : Int32) (fault : Int32) (broken : Int32) (brokenAt : Int32) (spot : Int32) (here : Int32) (token : Int32) (value : Int32) (moved : Int32) (turned : Int32) (worst : Int32) (seenMany : Int32) (torn : Int32) (state : (Nat → Int32)) (o_moved' : Int32) (o_turned' : Int32) (o_state' : (Nat → Int32)) (p1 : Int32) (p2 : Int32) (hf : fX5_handOn p1 p2 moved turned state = some (o_moved', o_turned', o_state')) : xMv ad l yX5_handOn wsX5_handOn ({ frames := 3, cells := 0, slots := 0, locals := 72 } : Room) D (xTY cI cB cZ cG cS) [.ref h0, .int p1, .int p2] [(h0, .inr (5, [.ref h_state, .ref h_readPage, .ref h_tape, .int taped, .int fault, .int broken, .int brokenAt, .int spot, .int here, .int token, .int value, .ref h_ends, .ref h_letters, .int moved, .int turned, .int worst, .ref h_seen, .int seenMany, .ref h_lastBy, .ref h_isKept, .ref h_lanes, .ref h_lengths, .ref h_cells, .int torn])), (h_state, .inl (cI, 240, .inl state))] [(h0, .inr (5, [.ref h_state, .ref h_readPage, .ref h_tape, .int taped, .int fault, .int broken, .int brokenAt, .int spot, .int here, .int token, .int value, .ref h_ends, .ref h_letters, .int o_moved', .int o_turned', .int worst, .ref h_seen, .int seenMany, .ref h_lastBy, .ref h_isKept, .ref h_lanes, .ref h_lengths, .ref h_cells, .int torn])), (h_state, .inl (cI, 240, .inl o_state'))] := by
  refine xMv_of (cc := cX5_handOn) (maxL := 3) (by decide) rfl (Nat.le_of_ble_eq_true rfl) ?_
  intro p e s m args below meth c A Q ls C hX hl hret
  have hx := C.1.1
  have hb := C.1.2.1
  have hl : lv_has ls 3 [(0, .ref h0), (1, .int p1), (2, .int p2)] := hl
  unfold fX5_handOn at hf
  refine lv_aload_n (pc := 0) hx hb dX5_handOn_0 rfl (lv_at hl 0 rfl) ?_
  refine x_getf (pc := 1) (Cn := RX5) (T := TX5) (N := 24) C hX 0 rfl rfl miX5_handOn_X5 0 (by decide) mmX5_handOn_1 rfl dX5_handOn_1 ?_
  refine lv_iload_n (pc := 4) hx hb dX5_handOn_4 rfl (lv_at hl 1 rfl) ?_
  refine lv_bipush (pc := 5) (v := 38) hx hb dX5_handOn_5 (by decide) ?_
  refine lv_iadd (pc := 7) hx hb dX5_handOn_7 ?_
  refine lv_dup2_11 (pc := 8) hx hb dX5_handOn_8 rfl rfl ?_
  replace hf := chk_adv hf
  have i1 := hf.1
  replace hf := hf.2
  refine x_iald (pc := 9) C hX 1 0 rfl rfl i1 dX5_handOn_9 ?_
  refine lv_iload_n (pc := 10) hx hb dX5_handOn_10 rfl (lv_at hl 2 rfl) ?_
  refine lv_iadd (pc := 11) hx hb dX5_handOn_11 ?_
  refine lv_topi (fun v2 ev2 => ?_)
  replace hf := bnd_use ev2 hf
  replace hf := chk_adv hf
  have i3 := hf.1
  replace hf := hf.2
  obtain ⟨f4, ef4⟩ : ∃ y : Nat → Int32, y = (upd state ((p1 + (38 : Int32))).toNatClampNeg v2) := ⟨_, rfl⟩
  replace hf := bnd_use ef4 hf
  refine x_iast (pc := 12) C hX 1 0 rfl rfl i3 [(h0, .inr (5, [.ref h_state, .ref h_readPage, .ref h_tape, .int taped, .int fault, .int broken, .int brokenAt, .int spot, .int here, .int token, .int value, .ref h_ends, .ref h_letters, .int moved, .int turned, .int worst, .ref h_seen, .int seenMany, .ref h_lastBy, .ref h_isKept, .ref h_lanes, .ref h_lengths, .ref h_cells, .int torn])), (h_state, .inl (cI, 240, .inl f4))] (by subst ef4; rfl) dX5_handOn_12 (fun H locs hX => ?_)
  refine lv_aload_n (pc := 13) hx hb dX5_handOn_13 rfl (lv_at hl 0 rfl) ?_
  refine lv_iload_n (pc := 14) hx hb dX5_handOn_14 rfl (lv_at hl 1 rfl) ?_
  obtain ⟨u5, u6, u7, g8, hf⟩ := cl3_adv hf
  refine x_callVv (pc := 15) (rest := []) (w2 := [(h0, .inr (5, [.ref h_state, .ref h_readPage, .ref h_tape, .int taped, .int fault, .int broken, .int brokenAt, .int spot, .int here, .int token, .int value, .ref h_ends, .ref h_letters, .int u5, .int u6, .int worst, .ref h_seen, .int seenMany, .ref h_lastBy, .ref h_isKept, .ref h_lanes, .ref h_lengths, .ref h_cells, .int torn])), (h_state, .inl (cI, 240, .inl u7))]) C hX (kX5_armsOn ad l D cI cB cZ cG cS h0 h_state h_readPage h_tape h_ends h_letters h_seen h_lastBy h_isKept h_lanes h_lengths h_cells taped fault broken brokenAt spot here token value moved turned worst seenMany torn f4 u5 u6 u7 p1 g8) (cwV 1 C.1.2.2.2.2 gX5_handOn_X5_armsOn rfl rfl rfl (by decide +kernel) ⟨Nat.le_of_ble_eq_true rfl, Nat.le_of_ble_eq_true rfl⟩) [0, 1] [] [0, 1] rfl rfl rfl rfl (by decide) rfl rfl 0 rfl rfl rfl hl.1 rfl rfl (Nat.le_of_ble_eq_true rfl) dX5_handOn_15 (fun H locs hX => ?_)
  obtain ⟨rfl, rfl, rfl⟩ := re3 hf
  exact hret _ _ _ _ hX dX5_handOn_18
theorem mmX5_stepOn_1 : Cond.fieldLink RX5 7 "SlackArmsModel" "state" "[I" ∈ wsX5_stepOn := List.mem_of_getElem? (i := 1) rfl
theorem miX5_stepOn_X5 : ∀ w ∈ u_ws RX5 TX5 24, w ∈ wsX5_stepOn := fun w h => List.mem_cons_of_mem _ (List.mem_append_right _ h)
set_option maxHeartbeats 4000000 in
set_option maxRecDepth 100000 in
theorem kX5_stepOn (ad : xAd) (l : Launch) (D : va_G) (cI cB cZ cG cS : ClassId) (h0 h_state h_readPage h_tape h_ends h_letters h_seen h_lastBy h_isKept h_lanes h_lengths h_cells : Nat) (taped : Int32) (fault : Int32) (broken : Int32) (brokenAt : Int32) (spot : Int32) (here : Int32) (token : Int32) (value : Int32) (moved : Int32) (turned : Int32) (worst : Int32) (seenMany : Int32) (torn : Int32) (state : (Nat → Int32)) (o_moved' : Int32) (o_turned' : Int32) (o_state' : (Nat → Int32)) (p1 : Int32) (p2 : Int32) (hf : fX5_stepOn p1 p2 moved turned state = some (o_moved', o_turned', o_state')) : xMv ad l yX5_stepOn wsX5_stepOn ({ frames := 4, cells := 0, slots := 0, locals := 94 } : Room) D (xTY cI cB cZ cG cS) [.ref h0, .int p1, .int p2] [(h0, .inr (5, [.ref h_state, .ref h_readPage, .ref h_tape, .int taped, .int fault, .int broken, .int brokenAt, .int spot, .int here, .int token, .int value, .ref h_ends, .ref h_letters, .int moved, .int turned, .int worst, .ref h_seen, .int seenMany, .ref h_lastBy, .ref h_isKept, .ref h_lanes, .ref h_lengths, .ref h_cells, .int torn])), (h_state, .inl (cI, 240, .inl state))] [(h0, .inr (5, [.ref h_state, .ref h_readPage, .ref h_tape, .int taped, .int fault, .int broken, .int brokenAt, .int spot, .int here, .int token, .int value, .ref h_ends, .ref h_letters, .int o_moved', .int o_turned', .int worst, .ref h_seen, .int seenMany, .ref h_lastBy, .ref h_isKept, .ref h_lanes, .ref h_lengths, .ref h_cells, .int torn])), (h_state, .inl (cI, 240, .inl o_state'))] := by
  refine xMv_of (cc := cX5_stepOn) (maxL := 4) (by decide) rfl (Nat.le_of_ble_eq_true rfl) ?_
  intro p e s m args below meth c A Q ls C hX hl hret
  have hx := C.1.1
  have hb := C.1.2.1
  have hl : lv_has ls 4 [(0, .ref h0), (1, .int p1), (2, .int p2)] := hl
  have L44 : ∀ (x1 : Int32) (moved : Int32) (turned : Int32) (state : (Nat → Int32)) (H : Heap) (locs : List Loc) (ls : Array Slot), fX5_stepOn_L44  x1 moved turned state = some (o_moved', o_turned', o_state') → xSt A s D [(h0, .inr (5, [.ref h_state, .ref h_readPage, .ref h_tape, .int taped, .int fault, .int broken, .int brokenAt, .int spot, .int here, .int token, .int value, .ref h_ends, .ref h_letters, .int moved, .int turned, .int worst, .ref h_seen, .int seenMany, .ref h_lastBy, .ref h_isKept, .ref h_lanes, .ref h_lengths, .ref h_cells, .int torn])), (h_state, .inl (cI, 240, .inl state))] H locs → lv_has ls 4 [(0, .ref h0), (1, .int x1)] → W p l e ({ frames := 4, cells := 0, slots := 0, locals := 94 } : Room) s m args below meth c H locs 0 0 Q (F0 m 44 ls []) := by
    intro  x1 moved turned state H locs ls hf hX hl
    unfold fX5_stepOn_L44 at hf
    refine lv_aload_n (pc := 44) hx hb dX5_stepOn_44 rfl (lv_at hl 0 rfl) ?_
    refine x_getf (pc := 45) (Cn := RX5) (T := TX5) (N := 24) C hX 0 rfl rfl miX5_stepOn_X5 0 (by decide) mmX5_stepOn_1 rfl dX5_stepOn_45 ?_
    refine lv_iload_n (pc := 48) hx hb dX5_stepOn_48 rfl (lv_at hl 1 rfl) ?_
    refine lv_bipush (pc := 49) (v := 39) hx hb dX5_stepOn_49 (by decide) ?_
    refine lv_iadd (pc := 51) hx hb dX5_stepOn_51 ?_
    refine lv_dup2_11 (pc := 52) hx hb dX5_stepOn_52 rfl rfl ?_
    replace hf := chk_adv hf
    have i4 := hf.1
    replace hf := hf.2
    refine x_iald (pc := 53) C hX 1 0 rfl rfl i4 dX5_stepOn_53 ?_
    refine lv_iconst (pc := 54) (v := 1) hx hb dX5_stepOn_54 (by decide) ?_
    refine lv_iadd (pc := 55) hx hb dX5_stepOn_55 ?_
    refine lv_topi (fun v5 ev5 => ?_)
    replace hf := bnd_use ev5 hf
    replace hf := chk_adv hf
    have i6 := hf.1
    replace hf := hf.2
    obtain ⟨f7, ef7⟩ : ∃ y : Nat → Int32, y = (upd state ((x1 + (39 : Int32))).toNatClampNeg v5) := ⟨_, rfl⟩
    replace hf := bnd_use ef7 hf
    refine x_iast (pc := 56) C hX 1 0 rfl rfl i6 [(h0, .inr (5, [.ref h_state, .ref h_readPage, .ref h_tape, .int taped, .int fault, .int broken, .int brokenAt, .int spot, .int here, .int token, .int value, .ref h_ends, .ref h_letters, .int moved, .int turned, .int worst, .ref h_seen, .int seenMany, .ref h_lastBy, .ref h_isKept, .ref h_lanes, .ref h_lengths, .ref h_cells, .int torn])), (h_state, .inl (cI, 240, .inl f7))] (by subst ef7; rfl) dX5_stepOn_56 (fun H locs hX => ?_)
    obtain ⟨rfl, rfl, rfl⟩ := re3 hf
    exact hret _ _ _ _ hX dX5_stepOn_57
  unfold fX5_stepOn at hf
  refine lv_aload_n (pc := 0) hx hb dX5_stepOn_0 rfl (lv_at hl 0 rfl) ?_
  refine x_getf (pc := 1) (Cn := RX5) (T := TX5) (N := 24) C hX 0 rfl rfl miX5_stepOn_X5 0 (by decide) mmX5_stepOn_1 rfl dX5_stepOn_1 ?_
  refine lv_iload_n (pc := 4) hx hb dX5_stepOn_4 rfl (lv_at hl 1 rfl) ?_
  refine lv_bipush (pc := 5) (v := 37) hx hb dX5_stepOn_5 (by decide) ?_
  refine lv_iadd (pc := 7) hx hb dX5_stepOn_7 ?_
  replace hf := chk_adv hf
  have i1 := hf.1
  replace hf := hf.2
  refine x_iald (pc := 8) C hX 1 0 rfl rfl i1 dX5_stepOn_8 ?_
  refine lv_topi (fun v2 ev2 => ?_)
  replace hf := bnd_use ev2 hf
  refine lv_istore_n (pc := 9) (lv' := [(3, .int v2), (0, .ref h0), (1, .int p1), (2, .int p2)]) hx hb dX5_stepOn_9 rfl hl (by decide) rfl (fun ls hl => ?_)
  refine lv_iload_n (pc := 10) hx hb dX5_stepOn_10 rfl (lv_at hl 0 rfl) ?_
  refine lv_if_le (pc := 11) (tgt := 44) hx hb dX5_stepOn_11 (by decide) (fun c3 => ?_) (fun c3 => ?_)
  · replace hf := ite_t c3 hf
    exact L44  p1 moved turned state _ _ _ hf hX (lv_sub hl [1, 2] rfl)
  · replace hf := ite_f c3 hf
    refine lv_iload_n (pc := 14) hx hb dX5_stepOn_14 rfl (lv_at hl 3 rfl) ?_
    refine lv_if_ne (pc := 15) (tgt := 44) hx hb dX5_stepOn_15 (by decide) (fun c8 => ?_) (fun c8 => ?_)
    · replace hf := ite_f c8 hf
      exact L44  p1 moved turned state _ _ _ hf hX (lv_sub hl [1, 2] rfl)
    · replace hf := ite_t c8 hf
      refine lv_aload_n (pc := 18) hx hb dX5_stepOn_18 rfl (lv_at hl 1 rfl) ?_
      refine lv_iload_n (pc := 19) hx hb dX5_stepOn_19 rfl (lv_at hl 2 rfl) ?_
      refine lv_aload_n (pc := 20) hx hb dX5_stepOn_20 rfl (lv_at hl 1 rfl) ?_
      refine x_getf (pc := 21) (Cn := RX5) (T := TX5) (N := 24) C hX 0 rfl rfl miX5_stepOn_X5 0 (by decide) mmX5_stepOn_1 rfl dX5_stepOn_21 ?_
      refine lv_iload_n (pc := 24) hx hb dX5_stepOn_24 rfl (lv_at hl 2 rfl) ?_
      refine lv_bipush (pc := 25) (v := 21) hx hb dX5_stepOn_25 (by decide) ?_
      refine lv_iadd (pc := 27) hx hb dX5_stepOn_27 ?_
      refine lv_aload_n (pc := 28) hx hb dX5_stepOn_28 rfl (lv_at hl 1 rfl) ?_
      refine x_getf (pc := 29) (Cn := RX5) (T := TX5) (N := 24) C hX 0 rfl rfl miX5_stepOn_X5 0 (by decide) mmX5_stepOn_1 rfl dX5_stepOn_29 ?_
      refine lv_iload_n (pc := 32) hx hb dX5_stepOn_32 rfl (lv_at hl 2 rfl) ?_
      refine lv_bipush (pc := 33) (v := 39) hx hb dX5_stepOn_33 (by decide) ?_
      refine lv_iadd (pc := 35) hx hb dX5_stepOn_35 ?_
      replace hf := chk_adv hf
      have i9 := hf.1
      replace hf := hf.2
      refine x_iald (pc := 36) C hX 1 0 rfl rfl i9 dX5_stepOn_36 ?_
      refine lv_iload_n (pc := 37) hx hb dX5_stepOn_37 rfl (lv_at hl 0 rfl) ?_
      replace hf := chk_adv hf
      have i10 := hf.1
      replace hf := hf.2
      refine lv_irem (pc := 38) hx hb dX5_stepOn_38 i10 ?_
      refine lv_iadd (pc := 39) hx hb dX5_stepOn_39 ?_
      replace hf := chk_adv hf
      have i11 := hf.1
      replace hf := hf.2
      refine x_iald (pc := 40) C hX 1 0 rfl rfl i11 dX5_stepOn_40 ?_
      obtain ⟨u12, u13, u14, g15, hf⟩ := cl3_adv hf
      refine x_callVv (pc := 41) (rest := []) (w2 := [(h0, .inr (5, [.ref h_state, .ref h_readPage, .ref h_tape, .int taped, .int fault, .int broken, .int brokenAt, .int spot, .int here, .int token, .int value, .ref h_ends, .ref h_letters, .int u12, .int u13, .int worst, .ref h_seen, .int seenMany, .ref h_lastBy, .ref h_isKept, .ref h_lanes, .ref h_lengths, .ref h_cells, .int torn])), (h_state, .inl (cI, 240, .inl u14))]) C hX (kX5_handOn ad l D cI cB cZ cG cS h0 h_state h_readPage h_tape h_ends h_letters h_seen h_lastBy h_isKept h_lanes h_lengths h_cells taped fault broken brokenAt spot here token value moved turned worst seenMany torn state u12 u13 u14 p1 (state (((p1 + (21 : Int32)) + ((state ((p1 + (39 : Int32))).toNatClampNeg) - (state ((p1 + (39 : Int32))).toNatClampNeg) / v2 * v2))).toNatClampNeg) g15) (cwV 2 C.1.2.2.2.2 gX5_stepOn_X5_handOn rfl rfl rfl (by decide +kernel) ⟨Nat.le_of_ble_eq_true rfl, Nat.le_of_ble_eq_true rfl⟩) [0, 1] [] [0, 1] rfl rfl rfl rfl (by decide) rfl rfl 0 rfl rfl rfl hl.1 rfl rfl (Nat.le_of_ble_eq_true rfl) dX5_stepOn_41 (fun H locs hX => ?_)
      exact L44  p1 u12 u13 u14 _ _ _ hf hX (lv_sub hl [1, 2] rfl)
theorem mmX5_errorOn_1 : Cond.fieldLink RX5 7 "SlackArmsModel" "state" "[I" ∈ wsX5_errorOn := List.mem_of_getElem? (i := 1) rfl
theorem miX5_errorOn_X5 : ∀ w ∈ u_ws RX5 TX5 24, w ∈ wsX5_errorOn := fun w h => List.mem_cons_of_mem _ (List.mem_append_right _ h)
set_option maxHeartbeats 4000000 in
set_option maxRecDepth 100000 in
theorem kX5_errorOn (ad : xAd) (l : Launch) (D : va_G) (cI cB cZ cG cS : ClassId) (h0 h_state h_readPage h_tape h_ends h_letters h_seen h_lastBy h_isKept h_lanes h_lengths h_cells : Nat) (taped : Int32) (fault : Int32) (broken : Int32) (brokenAt : Int32) (spot : Int32) (here : Int32) (token : Int32) (value : Int32) (moved : Int32) (turned : Int32) (worst : Int32) (seenMany : Int32) (torn : Int32) (state : (Nat → Int32)) (r0 : Int32) (p1 : Int32) (hf : fX5_errorOn p1 state = some r0) : xMi ad l yX5_errorOn wsX5_errorOn ({ frames := 1, cells := 0, slots := 0, locals := 20 } : Room) D (xTY cI cB cZ cG cS) [.ref h0, .int p1] [(h0, .inr (5, [.ref h_state, .ref h_readPage, .ref h_tape, .int taped, .int fault, .int broken, .int brokenAt, .int spot, .int here, .int token, .int value, .ref h_ends, .ref h_letters, .int moved, .int turned, .int worst, .ref h_seen, .int seenMany, .ref h_lastBy, .ref h_isKept, .ref h_lanes, .ref h_lengths, .ref h_cells, .int torn])), (h_state, .inl (cI, 240, .inl state))] [(h0, .inr (5, [.ref h_state, .ref h_readPage, .ref h_tape, .int taped, .int fault, .int broken, .int brokenAt, .int spot, .int here, .int token, .int value, .ref h_ends, .ref h_letters, .int moved, .int turned, .int worst, .ref h_seen, .int seenMany, .ref h_lastBy, .ref h_isKept, .ref h_lanes, .ref h_lengths, .ref h_cells, .int torn])), (h_state, .inl (cI, 240, .inl state))] r0 := by
  refine xMi_of (cc := cX5_errorOn) (maxL := 3) (ty := .int) (by decide) rfl (Nat.le_of_ble_eq_true rfl) ?_
  intro p e s m args below meth c A Q ls C hX hl hret
  have hx := C.1.1
  have hb := C.1.2.1
  have hl : lv_has ls 3 [(0, .ref h0), (1, .int p1)] := hl
  unfold fX5_errorOn at hf
  refine lv_aload_n (pc := 0) hx hb dX5_errorOn_0 rfl (lv_at hl 0 rfl) ?_
  refine x_getf (pc := 1) (Cn := RX5) (T := TX5) (N := 24) C hX 0 rfl rfl miX5_errorOn_X5 0 (by decide) mmX5_errorOn_1 rfl dX5_errorOn_1 ?_
  refine lv_iload_n (pc := 4) hx hb dX5_errorOn_4 rfl (lv_at hl 1 rfl) ?_
  refine lv_bipush (pc := 5) (v := 20) hx hb dX5_errorOn_5 (by decide) ?_
  refine lv_iadd (pc := 7) hx hb dX5_errorOn_7 ?_
  replace hf := chk_adv hf
  have i1 := hf.1
  replace hf := hf.2
  refine x_iald (pc := 8) C hX 1 0 rfl rfl i1 dX5_errorOn_8 ?_
  refine lv_topi (fun v2 ev2 => ?_)
  replace hf := bnd_use ev2 hf
  refine lv_istore_n (pc := 9) (lv' := [(2, .int v2), (0, .ref h0), (1, .int p1)]) hx hb dX5_errorOn_9 rfl hl (by decide) rfl (fun ls hl => ?_)
  refine lv_iload_n (pc := 10) hx hb dX5_errorOn_10 rfl (lv_at hl 0 rfl) ?_
  refine lv_if_ne (pc := 11) (tgt := 18) hx hb dX5_errorOn_11 (by decide) (fun c3 => ?_) (fun c3 => ?_)
  · replace hf := ite_f c3 hf
    refine lv_aload_n (pc := 18) hx hb dX5_errorOn_18 rfl (lv_at hl 1 rfl) ?_
    refine x_getf (pc := 19) (Cn := RX5) (T := TX5) (N := 24) C hX 0 rfl rfl miX5_errorOn_X5 0 (by decide) mmX5_errorOn_1 rfl dX5_errorOn_19 ?_
    refine lv_iload_n (pc := 22) hx hb dX5_errorOn_22 rfl (lv_at hl 2 rfl) ?_
    refine lv_bipush (pc := 23) (v := 8) hx hb dX5_errorOn_23 (by decide) ?_
    refine lv_iadd (pc := 25) hx hb dX5_errorOn_25 ?_
    refine lv_iload_n (pc := 26) hx hb dX5_errorOn_26 rfl (lv_at hl 0 rfl) ?_
    refine lv_iadd (pc := 27) hx hb dX5_errorOn_27 ?_
    refine lv_iconst (pc := 28) (v := 1) hx hb dX5_errorOn_28 (by decide) ?_
    refine lv_isub (pc := 29) hx hb dX5_errorOn_29 ?_
    replace hf := chk_adv hf
    have i4 := hf.1
    replace hf := hf.2
    refine x_iald (pc := 30) C hX 1 0 rfl rfl i4 dX5_errorOn_30 ?_
    refine lv_aload_n (pc := 31) hx hb dX5_errorOn_31 rfl (lv_at hl 1 rfl) ?_
    refine x_getf (pc := 32) (Cn := RX5) (T := TX5) (N := 24) C hX 0 rfl rfl miX5_errorOn_X5 0 (by decide) mmX5_errorOn_1 rfl dX5_errorOn_32 ?_
    refine lv_iload_n (pc := 35) hx hb dX5_errorOn_35 rfl (lv_at hl 2 rfl) ?_
    refine lv_bipush (pc := 36) (v := 38) hx hb dX5_errorOn_36 (by decide) ?_
    refine lv_iadd (pc := 38) hx hb dX5_errorOn_38 ?_
    replace hf := chk_adv hf
    have i5 := hf.1
    replace hf := hf.2
    refine x_iald (pc := 39) C hX 1 0 rfl rfl i5 dX5_errorOn_39 ?_
    refine lv_isub (pc := 40) hx hb dX5_errorOn_40 ?_
    obtain ⟨r6, g7, hf⟩ := cl1_adv hf
    refine x_callSi (pc := 41) (rest := []) C hX (kX5_amount ad l D cI cB cZ cG cS r6 ((state ((((p1 + (8 : Int32)) + v2) - (1 : Int32))).toNatClampNeg) - (state ((p1 + (38 : Int32))).toNatClampNeg)) g7) (va_cwS 1 C.1.2.2.2.2 gX5_errorOn_X5_amount rfl rfl rfl (by decide +kernel) ⟨Nat.le_of_ble_eq_true rfl, Nat.le_of_ble_eq_true rfl⟩) hl.1 rfl rfl (Nat.le_of_ble_eq_true rfl) dX5_errorOn_41 (fun H locs hX => ?_)
    obtain ⟨rfl⟩ := re1 hf
    exact hret _ _ _ _ _ rfl rfl hX dX5_errorOn_44
  · replace hf := ite_t c3 hf
    refine lv_iconst (pc := 14) (v := 0) hx hb dX5_errorOn_14 (by decide) ?_
    refine lv_goto (pc := 15) (tgt := 44) hx hb dX5_errorOn_15 (by decide) ?_
    obtain ⟨rfl⟩ := re1 hf
    exact hret _ _ _ _ _ rfl rfl hX dX5_errorOn_44
theorem mmX5_rule_1 : Cond.fieldLink RX5 7 "SlackArmsModel" "state" "[I" ∈ wsX5_rule := List.mem_of_getElem? (i := 1) rfl
theorem miX5_rule_X5 : ∀ w ∈ u_ws RX5 TX5 24, w ∈ wsX5_rule := fun w h => List.mem_cons_of_mem _ (List.mem_append_right _ h)
theorem mmX5_rule_2 : Cond.constant RX5 144 (200000) ∈ wsX5_rule := List.mem_of_getElem? (i := 2) rfl
set_option maxHeartbeats 4000000 in
set_option maxRecDepth 100000 in
theorem kX5_rule (ad : xAd) (l : Launch) (D : va_G) (cI cB cZ cG cS : ClassId) (h0 h_state h_readPage h_tape h_ends h_letters h_seen h_lastBy h_isKept h_lanes h_lengths h_cells : Nat) (taped : Int32) (fault : Int32) (broken : Int32) (brokenAt : Int32) (spot : Int32) (here : Int32) (token : Int32) (value : Int32) (moved : Int32) (turned : Int32) (worst : Int32) (seenMany : Int32) (torn : Int32) (state : (Nat → Int32)) (r0 : Int32) (p1 : Int32) (hf : fX5_rule p1 state = some r0) : xMi ad l yX5_rule wsX5_rule ({ frames := 2, cells := 0, slots := 0, locals := 42 } : Room) D (xTY cI cB cZ cG cS) [.ref h0, .int p1] [(h0, .inr (5, [.ref h_state, .ref h_readPage, .ref h_tape, .int taped, .int fault, .int broken, .int brokenAt, .int spot, .int here, .int token, .int value, .ref h_ends, .ref h_letters, .int moved, .int turned, .int worst, .ref h_seen, .int seenMany, .ref h_lastBy, .ref h_isKept, .ref h_lanes, .ref h_lengths, .ref h_cells, .int torn])), (h_state, .inl (cI, 240, .inl state))] [(h0, .inr (5, [.ref h_state, .ref h_readPage, .ref h_tape, .int taped, .int fault, .int broken, .int brokenAt, .int spot, .int here, .int token, .int value, .ref h_ends, .ref h_letters, .int moved, .int turned, .int worst, .ref h_seen, .int seenMany, .ref h_lastBy, .ref h_isKept, .ref h_lanes, .ref h_lengths, .ref h_cells, .int torn])), (h_state, .inl (cI, 240, .inl state))] r0 := by
  refine xMi_of (cc := cX5_rule) (maxL := 3) (ty := .int) (by decide) rfl (Nat.le_of_ble_eq_true rfl) ?_
  intro p e s m args below meth c A Q ls C hX hl hret
  have hx := C.1.1
  have hb := C.1.2.1
  have hl : lv_has ls 3 [(0, .ref h0), (1, .int p1)] := hl
  unfold fX5_rule at hf
  refine lv_aload_n (pc := 0) hx hb dX5_rule_0 rfl (lv_at hl 0 rfl) ?_
  refine x_getf (pc := 1) (Cn := RX5) (T := TX5) (N := 24) C hX 0 rfl rfl miX5_rule_X5 0 (by decide) mmX5_rule_1 rfl dX5_rule_1 ?_
  refine lv_bipush (pc := 4) (v := 37) hx hb dX5_rule_4 (by decide) ?_
  replace hf := chk_adv hf
  have i1 := hf.1
  replace hf := hf.2
  refine x_iald (pc := 6) C hX 1 0 rfl rfl i1 dX5_rule_6 ?_
  refine lv_topi (fun v2 ev2 => ?_)
  replace hf := bnd_use ev2 hf
  refine lv_istore_n (pc := 7) (lv' := [(2, .int v2), (0, .ref h0), (1, .int p1)]) hx hb dX5_rule_7 rfl hl (by decide) rfl (fun ls hl => ?_)
  refine lv_iload_n (pc := 8) hx hb dX5_rule_8 rfl (lv_at hl 2 rfl) ?_
  rcases Decidable.em (p1 = 0) with c3 | c3
  · replace hf := ite_t c3 hf
    refine lv_tableIn (pc := 9) (off := 39) (tgt := 48) hx hb dX5_rule_9 (by rw [c3]; decide) (by rw [c3]; decide) (by rw [c3]; decide) (by decide) ?_
    refine lv_aload_n (pc := 48) hx hb dX5_rule_48 rfl (lv_at hl 1 rfl) ?_
    refine x_getf (pc := 49) (Cn := RX5) (T := TX5) (N := 24) C hX 0 rfl rfl miX5_rule_X5 0 (by decide) mmX5_rule_1 rfl dX5_rule_49 ?_
    refine lv_bipush (pc := 52) (v := 20) hx hb dX5_rule_52 (by decide) ?_
    replace hf := chk_adv hf
    have i4 := hf.1
    replace hf := hf.2
    refine x_iald (pc := 54) C hX 1 0 rfl rfl i4 dX5_rule_54 ?_
    obtain ⟨rfl⟩ := re1 hf
    exact hret _ _ _ _ _ rfl rfl hX dX5_rule_55
  · replace hf := ite_f c3 hf
    rcases Decidable.em (p1 = 1) with c5 | c5
    · replace hf := ite_t c5 hf
      refine lv_tableIn (pc := 9) (off := 47) (tgt := 56) hx hb dX5_rule_9 (by rw [c5]; decide) (by rw [c5]; decide) (by rw [c5]; decide) (by decide) ?_
      refine lv_iload_n (pc := 56) hx hb dX5_rule_56 rfl (lv_at hl 0 rfl) ?_
      obtain ⟨rfl⟩ := re1 hf
      exact hret _ _ _ _ _ rfl rfl hX dX5_rule_57
    · replace hf := ite_f c5 hf
      rcases Decidable.em (p1 = 2) with c6 | c6
      · replace hf := ite_t c6 hf
        refine lv_tableIn (pc := 9) (off := 49) (tgt := 58) hx hb dX5_rule_9 (by rw [c6]; decide) (by rw [c6]; decide) (by rw [c6]; decide) (by decide) ?_
        refine lv_aload_n (pc := 58) hx hb dX5_rule_58 rfl (lv_at hl 1 rfl) ?_
        refine x_getf (pc := 59) (Cn := RX5) (T := TX5) (N := 24) C hX 0 rfl rfl miX5_rule_X5 0 (by decide) mmX5_rule_1 rfl dX5_rule_59 ?_
        refine lv_bipush (pc := 62) (v := 39) hx hb dX5_rule_62 (by decide) ?_
        replace hf := chk_adv hf
        have i7 := hf.1
        replace hf := hf.2
        refine x_iald (pc := 64) C hX 1 0 rfl rfl i7 dX5_rule_64 ?_
        obtain ⟨rfl⟩ := re1 hf
        exact hret _ _ _ _ _ rfl rfl hX dX5_rule_65
      · replace hf := ite_f c6 hf
        rcases Decidable.em (p1 = 3) with c8 | c8
        · replace hf := ite_t c8 hf
          refine lv_tableIn (pc := 9) (off := 57) (tgt := 66) hx hb dX5_rule_9 (by rw [c8]; decide) (by rw [c8]; decide) (by rw [c8]; decide) (by decide) ?_
          refine lv_ldc (pc := 66) hx hb C.1.2.2.2.1 (C.1.2.2.2.2 _ mmX5_rule_2) dX5_rule_66 ?_
          refine lv_aload_n (pc := 68) hx hb dX5_rule_68 rfl (lv_at hl 1 rfl) ?_
          refine x_getf (pc := 69) (Cn := RX5) (T := TX5) (N := 24) C hX 0 rfl rfl miX5_rule_X5 0 (by decide) mmX5_rule_1 rfl dX5_rule_69 ?_
          refine lv_bipush (pc := 72) (v := 38) hx hb dX5_rule_72 (by decide) ?_
          replace hf := chk_adv hf
          have i9 := hf.1
          replace hf := hf.2
          refine x_iald (pc := 74) C hX 1 0 rfl rfl i9 dX5_rule_74 ?_
          refine lv_iadd (pc := 75) hx hb dX5_rule_75 ?_
          obtain ⟨rfl⟩ := re1 hf
          exact hret _ _ _ _ _ rfl rfl hX dX5_rule_76
        · replace hf := ite_f c8 hf
          rcases Decidable.em (p1 = 4) with c10 | c10
          · replace hf := ite_t c10 hf
            refine lv_tableIn (pc := 9) (off := 68) (tgt := 77) hx hb dX5_rule_9 (by rw [c10]; decide) (by rw [c10]; decide) (by rw [c10]; decide) (by decide) ?_
            refine lv_aload_n (pc := 77) hx hb dX5_rule_77 rfl (lv_at hl 1 rfl) ?_
            refine lv_iconst (pc := 78) (v := 0) hx hb dX5_rule_78 (by decide) ?_
            obtain ⟨r11, g12, hf⟩ := cl1_adv hf
            refine x_callVi (pc := 79) (rest := []) (w2 := [(h0, .inr (5, [.ref h_state, .ref h_readPage, .ref h_tape, .int taped, .int fault, .int broken, .int brokenAt, .int spot, .int here, .int token, .int value, .ref h_ends, .ref h_letters, .int moved, .int turned, .int worst, .ref h_seen, .int seenMany, .ref h_lastBy, .ref h_isKept, .ref h_lanes, .ref h_lengths, .ref h_cells, .int torn])), (h_state, .inl (cI, 240, .inl state))]) C hX (kX5_errorOn ad l D cI cB cZ cG cS h0 h_state h_readPage h_tape h_ends h_letters h_seen h_lastBy h_isKept h_lanes h_lengths h_cells taped fault broken brokenAt spot here token value moved turned worst seenMany torn state r11 (0 : Int32) g12) (cwV 1 C.1.2.2.2.2 gX5_rule_X5_errorOn rfl rfl rfl (by decide +kernel) ⟨Nat.le_of_ble_eq_true rfl, Nat.le_of_ble_eq_true rfl⟩) [0, 1] [] [0, 1] rfl rfl rfl rfl (by decide) rfl rfl 0 rfl rfl rfl hl.1 rfl rfl (Nat.le_of_ble_eq_true rfl) dX5_rule_79 (fun H locs hX => ?_)
            obtain ⟨rfl⟩ := re1 hf
            exact hret _ _ _ _ _ rfl rfl hX dX5_rule_82
          · replace hf := ite_f c10 hf
            rcases Decidable.em (p1 = 5) with c13 | c13
            · replace hf := ite_t c13 hf
              refine lv_tableIn (pc := 9) (off := 74) (tgt := 83) hx hb dX5_rule_9 (by rw [c13]; decide) (by rw [c13]; decide) (by rw [c13]; decide) (by decide) ?_
              refine lv_iload_n (pc := 83) hx hb dX5_rule_83 rfl (lv_at hl 0 rfl) ?_
              refine lv_if_ne (pc := 84) (tgt := 92) hx hb dX5_rule_84 (by decide) (fun c14 => ?_) (fun c14 => ?_)
              · replace hf := ite_f c14 hf
                refine lv_bipush (pc := 92) (v := 10) hx hb dX5_rule_92 (by decide) ?_
                refine lv_aload_n (pc := 94) hx hb dX5_rule_94 rfl (lv_at hl 1 rfl) ?_
                refine x_getf (pc := 95) (Cn := RX5) (T := TX5) (N := 24) C hX 0 rfl rfl miX5_rule_X5 0 (by decide) mmX5_rule_1 rfl dX5_rule_95 ?_
                refine lv_bipush (pc := 98) (v := 21) hx hb dX5_rule_98 (by decide) ?_
                refine lv_aload_n (pc := 100) hx hb dX5_rule_100 rfl (lv_at hl 1 rfl) ?_
                refine x_getf (pc := 101) (Cn := RX5) (T := TX5) (N := 24) C hX 0 rfl rfl miX5_rule_X5 0 (by decide) mmX5_rule_1 rfl dX5_rule_101 ?_
                refine lv_bipush (pc := 104) (v := 39) hx hb dX5_rule_104 (by decide) ?_
                replace hf := chk_adv hf
                have i15 := hf.1
                replace hf := hf.2
                refine x_iald (pc := 106) C hX 1 0 rfl rfl i15 dX5_rule_106 ?_
                refine lv_iload_n (pc := 107) hx hb dX5_rule_107 rfl (lv_at hl 0 rfl) ?_
                replace hf := chk_adv hf
                have i16 := hf.1
                replace hf := hf.2
                refine lv_irem (pc := 108) hx hb dX5_rule_108 i16 ?_
                refine lv_iadd (pc := 109) hx hb dX5_rule_109 ?_
                replace hf := chk_adv hf
                have i17 := hf.1
                replace hf := hf.2
                refine x_iald (pc := 110) C hX 1 0 rfl rfl i17 dX5_rule_110 ?_
                refine lv_iadd (pc := 111) hx hb dX5_rule_111 ?_
                obtain ⟨rfl⟩ := re1 hf
                exact hret _ _ _ _ _ rfl rfl hX dX5_rule_112
              · replace hf := ite_t c14 hf
                refine lv_bipush (pc := 87) (v := -4) hx hb dX5_rule_87 (by decide) ?_
                refine lv_goto (pc := 89) (tgt := 112) hx hb dX5_rule_89 (by decide) ?_
                obtain ⟨rfl⟩ := re1 hf
                exact hret _ _ _ _ _ rfl rfl hX dX5_rule_112
            · replace hf := ite_f c13 hf
              refine lv_tableOut (pc := 9) (tgt := 113) hx hb dX5_rule_9 (by have := tbl_ne (n := 0) (by decide) c3; have := tbl_ne (n := 1) (by decide) c5; have := tbl_ne (n := 2) (by decide) c6; have := tbl_ne (n := 3) (by decide) c8; have := tbl_ne (n := 4) (by decide) c10; have := tbl_ne (n := 5) (by decide) c13; omega) (by decide) ?_
              refine lv_iconst (pc := 113) (v := -1) hx hb dX5_rule_113 (by decide) ?_
              obtain ⟨rfl⟩ := re1 hf
              exact hret _ _ _ _ _ rfl rfl hX dX5_rule_114
theorem mmX5_arm_1 : Cond.constantLong RX5 99 (5) ∈ wsX5_arm := List.mem_of_getElem? (i := 1) rfl
theorem mmX5_arm_3 : Cond.constant RX5 144 (200000) ∈ wsX5_arm := List.mem_of_getElem? (i := 3) rfl
theorem mmX5_arm_2 : Cond.fieldLink RX5 7 "SlackArmsModel" "state" "[I" ∈ wsX5_arm := List.mem_of_getElem? (i := 2) rfl
theorem miX5_arm_X5 : ∀ w ∈ u_ws RX5 TX5 24, w ∈ wsX5_arm := fun w h => List.mem_cons_of_mem _ (List.mem_append_right _ h)
set_option maxHeartbeats 4000000 in
set_option maxRecDepth 100000 in
theorem kX5_arm (ad : xAd) (l : Launch) (D : va_G) (cI cB cZ cG cS : ClassId) (h0 h_state h_readPage h_tape h_ends h_letters h_seen h_lastBy h_isKept h_lanes h_lengths h_cells : Nat) (taped : Int32) (fault : Int32) (broken : Int32) (brokenAt : Int32) (spot : Int32) (here : Int32) (token : Int32) (value : Int32) (moved : Int32) (turned : Int32) (worst : Int32) (seenMany : Int32) (torn : Int32) (state : (Nat → Int32)) (r0 : Int32) (p1 : Int32) (p2 : Int32) (hf : fX5_arm p1 p2 state = some r0) : xMi ad l yX5_arm wsX5_arm ({ frames := 2, cells := 0, slots := 0, locals := 46 } : Room) D (xTY cI cB cZ cG cS) [.ref h0, .int p1, .int p2] [(h0, .inr (5, [.ref h_state, .ref h_readPage, .ref h_tape, .int taped, .int fault, .int broken, .int brokenAt, .int spot, .int here, .int token, .int value, .ref h_ends, .ref h_letters, .int moved, .int turned, .int worst, .ref h_seen, .int seenMany, .ref h_lastBy, .ref h_isKept, .ref h_lanes, .ref h_lengths, .ref h_cells, .int torn])), (h_state, .inl (cI, 240, .inl state))] [(h0, .inr (5, [.ref h_state, .ref h_readPage, .ref h_tape, .int taped, .int fault, .int broken, .int brokenAt, .int spot, .int here, .int token, .int value, .ref h_ends, .ref h_letters, .int moved, .int turned, .int worst, .ref h_seen, .int seenMany, .ref h_lastBy, .ref h_isKept, .ref h_lanes, .ref h_lengths, .ref h_cells, .int torn])), (h_state, .inl (cI, 240, .inl state))] r0 := by
  refine xMi_of (cc := cX5_arm) (maxL := 4) (ty := .int) (by decide) rfl (Nat.le_of_ble_eq_true rfl) ?_
  intro p e s m args below meth c A Q ls C hX hl hret
  have hx := C.1.1
  have hb := C.1.2.1
  have hl : lv_has ls 4 [(0, .ref h0), (1, .int p1), (2, .int p2)] := hl
  have L46 : ∀ (x2 : Int32) (y0 : Int32) (H : Heap) (locs : List Loc) (ls : Array Slot), fX5_arm_L46 state x2 y0 = some r0 → xSt A s D [(h0, .inr (5, [.ref h_state, .ref h_readPage, .ref h_tape, .int taped, .int fault, .int broken, .int brokenAt, .int spot, .int here, .int token, .int value, .ref h_ends, .ref h_letters, .int moved, .int turned, .int worst, .ref h_seen, .int seenMany, .ref h_lastBy, .ref h_isKept, .ref h_lanes, .ref h_lengths, .ref h_cells, .int torn])), (h_state, .inl (cI, 240, .inl state))] H locs → lv_has ls 4 [(2, .int x2)] → W p l e ({ frames := 2, cells := 0, slots := 0, locals := 46 } : Room) s m args below meth c H locs 0 0 Q (F0 m 46 ls [.int y0]) := by
    intro  x2 y0 H locs ls hf hX hl
    unfold fX5_arm_L46 at hf
    refine lv_istore_n (pc := 46) (lv' := [(3, .int y0), (2, .int x2)]) hx hb dX5_arm_46 rfl hl (by decide) rfl (fun ls hl => ?_)
    refine lv_iload_n (pc := 47) hx hb dX5_arm_47 rfl (lv_at hl 1 rfl) ?_
    refine lv_iconst (pc := 48) (v := 2) hx hb dX5_arm_48 (by decide) ?_
    refine lv_icmp_ne (pc := 49) (tgt := 59) hx hb dX5_arm_49 (by decide) (fun c10 => ?_) (fun c10 => ?_)
    · replace hf := ite_f c10 hf
      refine lv_iload_n (pc := 59) hx hb dX5_arm_59 rfl (lv_at hl 1 rfl) ?_
      refine lv_iconst (pc := 60) (v := 4) hx hb dX5_arm_60 (by decide) ?_
      refine lv_icmp_ne (pc := 61) (tgt := 70) hx hb dX5_arm_61 (by decide) (fun c11 => ?_) (fun c11 => ?_)
      · replace hf := ite_f c11 hf
        refine lv_iload_n (pc := 70) hx hb dX5_arm_70 rfl (lv_at hl 0 rfl) ?_
        obtain ⟨rfl⟩ := re1 hf
        exact hret _ _ _ _ _ rfl rfl hX dX5_arm_71
      · replace hf := ite_t c11 hf
        refine lv_iconst (pc := 64) (v := 1) hx hb dX5_arm_64 (by decide) ?_
        refine lv_iload_n (pc := 65) hx hb dX5_arm_65 rfl (lv_at hl 0 rfl) ?_
        refine lv_iadd (pc := 66) hx hb dX5_arm_66 ?_
        refine lv_goto (pc := 67) (tgt := 71) hx hb dX5_arm_67 (by decide) ?_
        obtain ⟨rfl⟩ := re1 hf
        exact hret _ _ _ _ _ rfl rfl hX dX5_arm_71
    · replace hf := ite_t c10 hf
      refine lv_ldc (pc := 52) hx hb C.1.2.2.2.1 (C.1.2.2.2.2 _ mmX5_arm_3) dX5_arm_52 ?_
      refine lv_iload_n (pc := 54) hx hb dX5_arm_54 rfl (lv_at hl 0 rfl) ?_
      refine lv_iadd (pc := 55) hx hb dX5_arm_55 ?_
      refine lv_goto (pc := 56) (tgt := 71) hx hb dX5_arm_56 (by decide) ?_
      obtain ⟨rfl⟩ := re1 hf
      exact hret _ _ _ _ _ rfl rfl hX dX5_arm_71
  unfold fX5_arm at hf
  refine lv_aload_n (pc := 0) hx hb dX5_arm_0 rfl (lv_at hl 0 rfl) ?_
  refine lv_iload_n (pc := 1) hx hb dX5_arm_1 rfl (lv_at hl 1 rfl) ?_
  obtain ⟨r1, g2, hf⟩ := cl1_adv hf
  refine x_callVi (pc := 2) (rest := []) (w2 := [(h0, .inr (5, [.ref h_state, .ref h_readPage, .ref h_tape, .int taped, .int fault, .int broken, .int brokenAt, .int spot, .int here, .int token, .int value, .ref h_ends, .ref h_letters, .int moved, .int turned, .int worst, .ref h_seen, .int seenMany, .ref h_lastBy, .ref h_isKept, .ref h_lanes, .ref h_lengths, .ref h_cells, .int torn])), (h_state, .inl (cI, 240, .inl state))]) C hX (kX5_isArm ad l D cI cB cZ cG cS h0 h_state h_readPage h_tape h_ends h_letters h_seen h_lastBy h_isKept h_lanes h_lengths h_cells taped fault broken brokenAt spot here token value moved turned worst seenMany torn state r1 p1 g2) (cwV 1 C.1.2.2.2.2 gX5_arm_X5_isArm rfl rfl rfl (by decide +kernel) ⟨Nat.le_of_ble_eq_true rfl, Nat.le_of_ble_eq_true rfl⟩) [0, 1] [] [0, 1] rfl rfl rfl rfl (by decide) rfl rfl 0 rfl rfl rfl hl.1 rfl rfl (Nat.le_of_ble_eq_true rfl) dX5_arm_2 (fun H locs hX => ?_)
  refine lv_if_eq (pc := 5) (tgt := 20) hx hb dX5_arm_5 (by decide) (fun c3 => ?_) (fun c3 => ?_)
  · replace hf := ite_t c3 hf
    refine lv_iconst (pc := 20) (v := -1) hx hb dX5_arm_20 (by decide) ?_
    obtain ⟨rfl⟩ := re1 hf
    exact hret _ _ _ _ _ rfl rfl hX dX5_arm_21
  · replace hf := ite_f c3 hf
    refine lv_iload_n (pc := 8) hx hb dX5_arm_8 rfl (lv_at hl 2 rfl) ?_
    refine lv_i2l (pc := 9) (v := ((p2).toInt64)) hx hb dX5_arm_9 rfl ?_
    refine lv_lconst (pc := 10) (v := 0) hx hb dX5_arm_10 (by decide) ?_
    refine lv_ldc2 (pc := 11) hx hb C.1.2.2.2.1 (C.1.2.2.2.2 _ mmX5_arm_1) dX5_arm_11 ?_
    obtain ⟨r4, g5, hf⟩ := cl1_adv hf
    refine x_callSi (pc := 14) (rest := []) C hX (kX5_in ad l D cI cB cZ cG cS r4 ((p2).toInt64) (0 : Int64) (5 : Int64) g5) (va_cwS 3 C.1.2.2.2.2 gX5_arm_X5_in rfl rfl rfl (by decide +kernel) ⟨Nat.le_of_ble_eq_true rfl, Nat.le_of_ble_eq_true rfl⟩) hl.1 rfl rfl (Nat.le_of_ble_eq_true rfl) dX5_arm_14 (fun H locs hX => ?_)
    refine lv_if_ne (pc := 17) (tgt := 22) hx hb dX5_arm_17 (by decide) (fun c6 => ?_) (fun c6 => ?_)
    · replace hf := ite_f c6 hf
      refine lv_iload_n (pc := 22) hx hb dX5_arm_22 rfl (lv_at hl 2 rfl) ?_
      refine lv_iconst (pc := 23) (v := 5) hx hb dX5_arm_23 (by decide) ?_
      refine lv_icmp_ge (pc := 24) (tgt := 40) hx hb dX5_arm_24 (by decide) (fun c7 => ?_) (fun c7 => ?_)
      · replace hf := ite_t c7 hf
        refine lv_aload_n (pc := 40) hx hb dX5_arm_40 rfl (lv_at hl 0 rfl) ?_
        refine lv_iconst (pc := 41) (v := 0) hx hb dX5_arm_41 (by decide) ?_
        refine lv_iload_n (pc := 42) hx hb dX5_arm_42 rfl (lv_at hl 1 rfl) ?_
        obtain ⟨r8, g9, hf⟩ := cl1_adv hf
        refine x_callVi (pc := 43) (rest := []) (w2 := [(h0, .inr (5, [.ref h_state, .ref h_readPage, .ref h_tape, .int taped, .int fault, .int broken, .int brokenAt, .int spot, .int here, .int token, .int value, .ref h_ends, .ref h_letters, .int moved, .int turned, .int worst, .ref h_seen, .int seenMany, .ref h_lastBy, .ref h_isKept, .ref h_lanes, .ref h_lengths, .ref h_cells, .int torn])), (h_state, .inl (cI, 240, .inl state))]) C hX (kX5_playOn ad l D cI cB cZ cG cS h0 h_state h_readPage h_tape h_ends h_letters h_seen h_lastBy h_isKept h_lanes h_lengths h_cells taped fault broken brokenAt spot here token value moved turned worst seenMany torn state r8 (0 : Int32) p1 g9) (cwV 2 C.1.2.2.2.2 gX5_arm_X5_playOn rfl rfl rfl (by decide +kernel) ⟨Nat.le_of_ble_eq_true rfl, Nat.le_of_ble_eq_true rfl⟩) [0, 1] [] [0, 1] rfl rfl rfl rfl (by decide) rfl rfl 0 rfl rfl rfl hl.1 rfl rfl (Nat.le_of_ble_eq_true rfl) dX5_arm_43 (fun H locs hX => ?_)
        exact L46  p2 r8 _ _ _ hf hX (lv_sub hl [2] rfl)
      · replace hf := ite_f c7 hf
        refine lv_aload_n (pc := 27) hx hb dX5_arm_27 rfl (lv_at hl 0 rfl) ?_
        refine x_getf (pc := 28) (Cn := RX5) (T := TX5) (N := 24) C hX 0 rfl rfl miX5_arm_X5 0 (by decide) mmX5_arm_2 rfl dX5_arm_28 ?_
        refine lv_iconst (pc := 31) (v := 4) hx hb dX5_arm_31 (by decide) ?_
        refine lv_iload_n (pc := 32) hx hb dX5_arm_32 rfl (lv_at hl 2 rfl) ?_
        refine lv_imul (pc := 33) hx hb dX5_arm_33 ?_
        refine lv_iload_n (pc := 34) hx hb dX5_arm_34 rfl (lv_at hl 1 rfl) ?_
        refine lv_iadd (pc := 35) hx hb dX5_arm_35 ?_
        replace hf := chk_adv hf
        have i12 := hf.1
        replace hf := hf.2
        refine x_iald (pc := 36) C hX 1 0 rfl rfl i12 dX5_arm_36 ?_
        refine lv_goto (pc := 37) (tgt := 46) hx hb dX5_arm_37 (by decide) ?_
        exact L46  p2 (state ((((4 : Int32) * p2) + p1)).toNatClampNeg) _ _ _ hf hX (lv_sub hl [2] rfl)
    · replace hf := ite_t c6 hf
      refine lv_iconst (pc := 20) (v := -1) hx hb dX5_arm_20 (by decide) ?_
      obtain ⟨rfl⟩ := re1 hf
      exact hret _ _ _ _ _ rfl rfl hX dX5_arm_21
theorem mmX5_stroke_1 : Cond.fieldLink RX5 7 "SlackArmsModel" "state" "[I" ∈ wsX5_stroke := List.mem_of_getElem? (i := 1) rfl
theorem miX5_stroke_X5 : ∀ w ∈ u_ws RX5 TX5 24, w ∈ wsX5_stroke := fun w h => List.mem_cons_of_mem _ (List.mem_append_right _ h)
set_option maxHeartbeats 4000000 in
set_option maxRecDepth 100000 in
theorem kX5_stroke (ad : xAd) (l : Launch) (D : va_G) (cI cB cZ cG cS : ClassId) (h0 h_state h_readPage h_tape h_ends h_letters h_seen h_lastBy h_isKept h_lanes h_lengths h_cells : Nat) (taped : Int32) (fault : Int32) (broken : Int32) (brokenAt : Int32) (spot : Int32) (here : Int32) (token : Int32) (value : Int32) (moved : Int32) (turned : Int32) (worst : Int32) (seenMany : Int32) (torn : Int32) (state : (Nat → Int32)) (r0 : Int32) (p1 : Int32) (hf : fX5_stroke p1 state = some r0) : xMi ad l yX5_stroke wsX5_stroke ({ frames := 2, cells := 0, slots := 0, locals := 46 } : Room) D (xTY cI cB cZ cG cS) [.ref h0, .int p1] [(h0, .inr (5, [.ref h_state, .ref h_readPage, .ref h_tape, .int taped, .int fault, .int broken, .int brokenAt, .int spot, .int here, .int token, .int value, .ref h_ends, .ref h_letters, .int moved, .int turned, .int worst, .ref h_seen, .int seenMany, .ref h_lastBy, .ref h_isKept, .ref h_lanes, .ref h_lengths, .ref h_cells, .int torn])), (h_state, .inl (cI, 240, .inl state))] [(h0, .inr (5, [.ref h_state, .ref h_readPage, .ref h_tape, .int taped, .int fault, .int broken, .int brokenAt, .int spot, .int here, .int token, .int value, .ref h_ends, .ref h_letters, .int moved, .int turned, .int worst, .ref h_seen, .int seenMany, .ref h_lastBy, .ref h_isKept, .ref h_lanes, .ref h_lengths, .ref h_cells, .int torn])), (h_state, .inl (cI, 240, .inl state))] r0 := by
  refine xMi_of (cc := cX5_stroke) (maxL := 2) (ty := .int) (by decide) rfl (Nat.le_of_ble_eq_true rfl) ?_
  intro p e s m args below meth c A Q ls C hX hl hret
  have hx := C.1.1
  have hb := C.1.2.1
  have hl : lv_has ls 2 [(0, .ref h0), (1, .int p1)] := hl
  unfold fX5_stroke at hf
  refine lv_aload_n (pc := 0) hx hb dX5_stroke_0 rfl (lv_at hl 0 rfl) ?_
  refine lv_iload_n (pc := 1) hx hb dX5_stroke_1 rfl (lv_at hl 1 rfl) ?_
  obtain ⟨r1, g2, hf⟩ := cl1_adv hf
  refine x_callVi (pc := 2) (rest := []) (w2 := [(h0, .inr (5, [.ref h_state, .ref h_readPage, .ref h_tape, .int taped, .int fault, .int broken, .int brokenAt, .int spot, .int here, .int token, .int value, .ref h_ends, .ref h_letters, .int moved, .int turned, .int worst, .ref h_seen, .int seenMany, .ref h_lastBy, .ref h_isKept, .ref h_lanes, .ref h_lengths, .ref h_cells, .int torn])), (h_state, .inl (cI, 240, .inl state))]) C hX (kX5_isStroke ad l D cI cB cZ cG cS h0 h_state h_readPage h_tape h_ends h_letters h_seen h_lastBy h_isKept h_lanes h_lengths h_cells taped fault broken brokenAt spot here token value moved turned worst seenMany torn state r1 p1 g2) (cwV 1 C.1.2.2.2.2 gX5_stroke_X5_isStroke rfl rfl rfl (by decide +kernel) ⟨Nat.le_of_ble_eq_true rfl, Nat.le_of_ble_eq_true rfl⟩) [0, 1] [] [0, 1] rfl rfl rfl rfl (by decide) rfl rfl 0 rfl rfl rfl hl.1 rfl rfl (Nat.le_of_ble_eq_true rfl) dX5_stroke_2 (fun H locs hX => ?_)
  refine lv_if_eq (pc := 5) (tgt := 23) hx hb dX5_stroke_5 (by decide) (fun c3 => ?_) (fun c3 => ?_)
  · replace hf := ite_t c3 hf
    refine lv_iconst (pc := 23) (v := -1) hx hb dX5_stroke_23 (by decide) ?_
    obtain ⟨rfl⟩ := re1 hf
    exact hret _ _ _ _ _ rfl rfl hX dX5_stroke_24
  · replace hf := ite_f c3 hf
    refine lv_bipush (pc := 8) (v := 10) hx hb dX5_stroke_8 (by decide) ?_
    refine lv_aload_n (pc := 10) hx hb dX5_stroke_10 rfl (lv_at hl 0 rfl) ?_
    refine x_getf (pc := 11) (Cn := RX5) (T := TX5) (N := 24) C hX 0 rfl rfl miX5_stroke_X5 0 (by decide) mmX5_stroke_1 rfl dX5_stroke_11 ?_
    refine lv_bipush (pc := 14) (v := 21) hx hb dX5_stroke_14 (by decide) ?_
    refine lv_iload_n (pc := 16) hx hb dX5_stroke_16 rfl (lv_at hl 1 rfl) ?_
    refine lv_iadd (pc := 17) hx hb dX5_stroke_17 ?_
    replace hf := chk_adv hf
    have i4 := hf.1
    replace hf := hf.2
    refine x_iald (pc := 18) C hX 1 0 rfl rfl i4 dX5_stroke_18 ?_
    refine lv_iadd (pc := 19) hx hb dX5_stroke_19 ?_
    refine lv_goto (pc := 20) (tgt := 24) hx hb dX5_stroke_20 (by decide) ?_
    obtain ⟨rfl⟩ := re1 hf
    exact hret _ _ _ _ _ rfl rfl hX dX5_stroke_24
theorem mmX5_puts_1 : Cond.fieldLink RX5 7 "SlackArmsModel" "state" "[I" ∈ wsX5_puts := List.mem_of_getElem? (i := 1) rfl
theorem miX5_puts_X5 : ∀ w ∈ u_ws RX5 TX5 24, w ∈ wsX5_puts := fun w h => List.mem_cons_of_mem _ (List.mem_append_right _ h)
set_option maxHeartbeats 4000000 in
set_option maxRecDepth 100000 in
theorem kX5_puts (ad : xAd) (l : Launch) (D : va_G) (cI cB cZ cG cS : ClassId) (h0 h_state h_readPage h_tape h_ends h_letters h_seen h_lastBy h_isKept h_lanes h_lengths h_cells : Nat) (taped : Int32) (fault : Int32) (broken : Int32) (brokenAt : Int32) (spot : Int32) (here : Int32) (token : Int32) (value : Int32) (moved : Int32) (turned : Int32) (worst : Int32) (seenMany : Int32) (torn : Int32) (state : (Nat → Int32)) (r0 : Int32) (o_state' : (Nat → Int32)) (p1 : Int32) (p2 : Int32) (p3 : Int32) (p4 : Int32) (hf : fX5_puts p1 p2 p3 p4 state = some (r0, o_state')) : xMi ad l yX5_puts wsX5_puts ({ frames := 0, cells := 0, slots := 0, locals := 0 } : Room) D (xTY cI cB cZ cG cS) [.ref h0, .int p1, .int p2, .int p3, .int p4] [(h0, .inr (5, [.ref h_state, .ref h_readPage, .ref h_tape, .int taped, .int fault, .int broken, .int brokenAt, .int spot, .int here, .int token, .int value, .ref h_ends, .ref h_letters, .int moved, .int turned, .int worst, .ref h_seen, .int seenMany, .ref h_lastBy, .ref h_isKept, .ref h_lanes, .ref h_lengths, .ref h_cells, .int torn])), (h_state, .inl (cI, 240, .inl state))] [(h0, .inr (5, [.ref h_state, .ref h_readPage, .ref h_tape, .int taped, .int fault, .int broken, .int brokenAt, .int spot, .int here, .int token, .int value, .ref h_ends, .ref h_letters, .int moved, .int turned, .int worst, .ref h_seen, .int seenMany, .ref h_lastBy, .ref h_isKept, .ref h_lanes, .ref h_lengths, .ref h_cells, .int torn])), (h_state, .inl (cI, 240, .inl o_state'))] r0 := by
  refine xMi_of (cc := cX5_puts) (maxL := 6) (ty := .int) (by decide) rfl (Nat.le_of_ble_eq_true rfl) ?_
  intro p e s m args below meth c A Q ls C hX hl hret
  have hx := C.1.1
  have hb := C.1.2.1
  have hl : lv_has ls 6 [(0, .ref h0), (1, .int p1), (2, .int p2), (3, .int p3), (4, .int p4)] := hl
  unfold fX5_puts at hf
  refine lv_iload_n (pc := 0) hx hb dX5_puts_0 rfl (lv_at hl 1 rfl) ?_
  refine lv_if_ne (pc := 1) (tgt := 6) hx hb dX5_puts_1 (by decide) (fun c1 => ?_) (fun c1 => ?_)
  · replace hf := ite_f c1 hf
    refine lv_aload_n (pc := 6) hx hb dX5_puts_6 rfl (lv_at hl 0 rfl) ?_
    refine x_getf (pc := 7) (Cn := RX5) (T := TX5) (N := 24) C hX 0 rfl rfl miX5_puts_X5 0 (by decide) mmX5_puts_1 rfl dX5_puts_7 ?_
    refine lv_iload_n (pc := 10) hx hb dX5_puts_10 rfl (lv_at hl 2 rfl) ?_
    replace hf := chk_adv hf
    have i2 := hf.1
    replace hf := hf.2
    refine x_iald (pc := 11) C hX 1 0 rfl rfl i2 dX5_puts_11 ?_
    refine lv_iload (pc := 12) hx hb dX5_puts_12 (lv_at hl 4 rfl) ?_
    refine lv_iadd (pc := 14) hx hb dX5_puts_14 ?_
    refine lv_topi (fun v3 ev3 => ?_)
    replace hf := bnd_use ev3 hf
    refine lv_istore (pc := 15) (lv' := [(5, .int v3), (0, .ref h0), (1, .int p1), (2, .int p2), (3, .int p3), (4, .int p4)]) hx hb dX5_puts_15 hl (by decide) rfl (fun ls hl => ?_)
    refine lv_aload_n (pc := 17) hx hb dX5_puts_17 rfl (lv_at hl 1 rfl) ?_
    refine x_getf (pc := 18) (Cn := RX5) (T := TX5) (N := 24) C hX 0 rfl rfl miX5_puts_X5 0 (by decide) mmX5_puts_1 rfl dX5_puts_18 ?_
    refine lv_iload_n (pc := 21) hx hb dX5_puts_21 rfl (lv_at hl 3 rfl) ?_
    refine lv_iload_n (pc := 22) hx hb dX5_puts_22 rfl (lv_at hl 4 rfl) ?_
    refine lv_iload (pc := 23) hx hb dX5_puts_23 (lv_at hl 5 rfl) ?_
    refine lv_isub (pc := 25) hx hb dX5_puts_25 ?_
    refine lv_topi (fun v4 ev4 => ?_)
    replace hf := bnd_use ev4 hf
    replace hf := chk_adv hf
    have i5 := hf.1
    replace hf := hf.2
    obtain ⟨f6, ef6⟩ : ∃ y : Nat → Int32, y = (upd state (p2).toNatClampNeg v4) := ⟨_, rfl⟩
    replace hf := bnd_use ef6 hf
    refine x_iast (pc := 26) C hX 1 0 rfl rfl i5 [(h0, .inr (5, [.ref h_state, .ref h_readPage, .ref h_tape, .int taped, .int fault, .int broken, .int brokenAt, .int spot, .int here, .int token, .int value, .ref h_ends, .ref h_letters, .int moved, .int turned, .int worst, .ref h_seen, .int seenMany, .ref h_lastBy, .ref h_isKept, .ref h_lanes, .ref h_lengths, .ref h_cells, .int torn])), (h_state, .inl (cI, 240, .inl f6))] (by subst ef6; rfl) dX5_puts_26 (fun H locs hX => ?_)
    refine lv_iload (pc := 27) hx hb dX5_puts_27 (lv_at hl 0 rfl) ?_
    obtain ⟨rfl, rfl⟩ := re2 hf
    exact hret _ _ _ _ _ rfl rfl hX dX5_puts_29
  · replace hf := ite_t c1 hf
    refine lv_iconst (pc := 4) (v := -1) hx hb dX5_puts_4 (by decide) ?_
    obtain ⟨rfl, rfl⟩ := re2 hf
    exact hret _ _ _ _ _ rfl rfl hX dX5_puts_5
theorem mmX5_alter_1 : Cond.constantLong RX5 155 (2) ∈ wsX5_alter := List.mem_of_getElem? (i := 1) rfl
theorem mmX5_alter_3 : Cond.constantLong RX5 159 (9) ∈ wsX5_alter := List.mem_of_getElem? (i := 3) rfl
theorem mmX5_alter_2 : Cond.constantLong RX5 157 (3) ∈ wsX5_alter := List.mem_of_getElem? (i := 2) rfl
set_option maxHeartbeats 4000000 in
set_option maxRecDepth 100000 in
theorem kX5_alter (ad : xAd) (l : Launch) (D : va_G) (cI cB cZ cG cS : ClassId) (h0 h_state h_readPage h_tape h_ends h_letters h_seen h_lastBy h_isKept h_lanes h_lengths h_cells : Nat) (taped : Int32) (fault : Int32) (broken : Int32) (brokenAt : Int32) (spot : Int32) (here : Int32) (token : Int32) (value : Int32) (moved : Int32) (turned : Int32) (worst : Int32) (seenMany : Int32) (torn : Int32) (state : (Nat → Int32)) (r0 : Int32) (o_state' : (Nat → Int32)) (p1 : Int32) (p2 : Int32) (p3 : Int32) (hf : fX5_alter p1 p2 p3 state = some (r0, o_state')) : xMi ad l yX5_alter wsX5_alter ({ frames := 2, cells := 0, slots := 0, locals := 46 } : Room) D (xTY cI cB cZ cG cS) [.ref h0, .int p1, .int p2, .int p3] [(h0, .inr (5, [.ref h_state, .ref h_readPage, .ref h_tape, .int taped, .int fault, .int broken, .int brokenAt, .int spot, .int here, .int token, .int value, .ref h_ends, .ref h_letters, .int moved, .int turned, .int worst, .ref h_seen, .int seenMany, .ref h_lastBy, .ref h_isKept, .ref h_lanes, .ref h_lengths, .ref h_cells, .int torn])), (h_state, .inl (cI, 240, .inl state))] [(h0, .inr (5, [.ref h_state, .ref h_readPage, .ref h_tape, .int taped, .int fault, .int broken, .int brokenAt, .int spot, .int here, .int token, .int value, .ref h_ends, .ref h_letters, .int moved, .int turned, .int worst, .ref h_seen, .int seenMany, .ref h_lastBy, .ref h_isKept, .ref h_lanes, .ref h_lengths, .ref h_cells, .int torn])), (h_state, .inl (cI, 240, .inl o_state'))] r0 := by
  refine xMi_of (cc := cX5_alter) (maxL := 5) (ty := .int) (by decide) rfl (Nat.le_of_ble_eq_true rfl) ?_
  intro p e s m args below meth c A Q ls C hX hl hret
  have hx := C.1.1
  have hb := C.1.2.1
  have hl : lv_has ls 5 [(0, .ref h0), (1, .int p1), (2, .int p2), (3, .int p3)] := hl
  have L69 : ∀ (x3 : Int32) (y0 : Int32) (y1 : Int32) (state : (Nat → Int32)) (H : Heap) (locs : List Loc) (ls : Array Slot), fX5_alter_L69  x3 y0 y1 state = some (r0, o_state') → xSt A s D [(h0, .inr (5, [.ref h_state, .ref h_readPage, .ref h_tape, .int taped, .int fault, .int broken, .int brokenAt, .int spot, .int here, .int token, .int value, .ref h_ends, .ref h_letters, .int moved, .int turned, .int worst, .ref h_seen, .int seenMany, .ref h_lastBy, .ref h_isKept, .ref h_lanes, .ref h_lengths, .ref h_cells, .int torn])), (h_state, .inl (cI, 240, .inl state))] H locs → lv_has ls 5 [(3, .int x3)] → W p l e ({ frames := 2, cells := 0, slots := 0, locals := 46 } : Room) s m args below meth c H locs 0 0 Q (F0 m 69 ls [.int y1, .int y0, .ref h0]) := by
    intro  x3 y0 y1 state H locs ls hf hX hl
    unfold fX5_alter_L69 at hf
    refine lv_iload_n (pc := 69) hx hb dX5_alter_69 rfl (lv_at hl 0 rfl) ?_
    refine lv_iconst (pc := 70) (v := 0) hx hb dX5_alter_70 (by decide) ?_
    obtain ⟨r5, u6, g7, hf⟩ := cl2_adv hf
    refine x_callVi (pc := 71) (rest := []) (w2 := [(h0, .inr (5, [.ref h_state, .ref h_readPage, .ref h_tape, .int taped, .int fault, .int broken, .int brokenAt, .int spot, .int here, .int token, .int value, .ref h_ends, .ref h_letters, .int moved, .int turned, .int worst, .ref h_seen, .int seenMany, .ref h_lastBy, .ref h_isKept, .ref h_lanes, .ref h_lengths, .ref h_cells, .int torn])), (h_state, .inl (cI, 240, .inl u6))]) C hX (kX5_puts ad l D cI cB cZ cG cS h0 h_state h_readPage h_tape h_ends h_letters h_seen h_lastBy h_isKept h_lanes h_lengths h_cells taped fault broken brokenAt spot here token value moved turned worst seenMany torn state r5 u6 y0 y1 x3 (0 : Int32) g7) (cwV 4 C.1.2.2.2.2 gX5_alter_X5_puts rfl rfl rfl (by decide +kernel) ⟨Nat.le_of_ble_eq_true rfl, Nat.le_of_ble_eq_true rfl⟩) [0, 1] [] [0, 1] rfl rfl rfl rfl (by decide) rfl rfl 0 rfl rfl rfl hl.1 rfl rfl (Nat.le_of_ble_eq_true rfl) dX5_alter_71 (fun H locs hX => ?_)
    obtain ⟨rfl, rfl⟩ := re2 hf
    exact hret _ _ _ _ _ rfl rfl hX dX5_alter_74
  have L47 : ∀ (x1 : Int32) (x2 : Int32) (x3 : Int32) (y0 : Int32) (state : (Nat → Int32)) (H : Heap) (locs : List Loc) (ls : Array Slot), fX5_alter_L47  x1 x2 x3 y0 state = some (r0, o_state') → xSt A s D [(h0, .inr (5, [.ref h_state, .ref h_readPage, .ref h_tape, .int taped, .int fault, .int broken, .int brokenAt, .int spot, .int here, .int token, .int value, .ref h_ends, .ref h_letters, .int moved, .int turned, .int worst, .ref h_seen, .int seenMany, .ref h_lastBy, .ref h_isKept, .ref h_lanes, .ref h_lengths, .ref h_cells, .int torn])), (h_state, .inl (cI, 240, .inl state))] H locs → lv_has ls 5 [(0, .ref h0), (1, .int x1), (2, .int x2), (3, .int x3)] → W p l e ({ frames := 2, cells := 0, slots := 0, locals := 46 } : Room) s m args below meth c H locs 0 0 Q (F0 m 47 ls [.int y0]) := by
    intro  x1 x2 x3 y0 state H locs ls hf hX hl
    unfold fX5_alter_L47 at hf
    refine lv_istore (pc := 47) (lv' := [(4, .int y0), (0, .ref h0), (1, .int x1), (2, .int x2), (3, .int x3)]) hx hb dX5_alter_47 hl (by decide) rfl (fun ls hl => ?_)
    refine lv_aload_n (pc := 49) hx hb dX5_alter_49 rfl (lv_at hl 1 rfl) ?_
    refine lv_iload (pc := 50) hx hb dX5_alter_50 (lv_at hl 0 rfl) ?_
    refine lv_iload_n (pc := 52) hx hb dX5_alter_52 rfl (lv_at hl 3 rfl) ?_
    refine lv_iconst (pc := 53) (v := 2) hx hb dX5_alter_53 (by decide) ?_
    refine lv_icmp_ne (pc := 54) (tgt := 64) hx hb dX5_alter_54 (by decide) (fun c4 => ?_) (fun c4 => ?_)
    · replace hf := ite_f c4 hf
      refine lv_iconst (pc := 64) (v := 4) hx hb dX5_alter_64 (by decide) ?_
      refine lv_iload_n (pc := 65) hx hb dX5_alter_65 rfl (lv_at hl 3 rfl) ?_
      refine lv_imul (pc := 66) hx hb dX5_alter_66 ?_
      refine lv_iload_n (pc := 67) hx hb dX5_alter_67 rfl (lv_at hl 2 rfl) ?_
      refine lv_iadd (pc := 68) hx hb dX5_alter_68 ?_
      exact L69  x3 y0 (((4 : Int32) * x2) + x1) state _ _ _ hf hX (lv_sub hl [4] rfl)
    · replace hf := ite_t c4 hf
      refine lv_bipush (pc := 57) (v := 12) hx hb dX5_alter_57 (by decide) ?_
      refine lv_iload_n (pc := 59) hx hb dX5_alter_59 rfl (lv_at hl 2 rfl) ?_
      refine lv_iadd (pc := 60) hx hb dX5_alter_60 ?_
      refine lv_goto (pc := 61) (tgt := 69) hx hb dX5_alter_61 (by decide) ?_
      exact L69  x3 y0 ((12 : Int32) + x1) state _ _ _ hf hX (lv_sub hl [4] rfl)
  have L46 : ∀ (x1 : Int32) (x2 : Int32) (x3 : Int32) (state : (Nat → Int32)) (H : Heap) (locs : List Loc) (ls : Array Slot), fX5_alter_L46  x1 x2 x3 state = some (r0, o_state') → xSt A s D [(h0, .inr (5, [.ref h_state, .ref h_readPage, .ref h_tape, .int taped, .int fault, .int broken, .int brokenAt, .int spot, .int here, .int token, .int value, .ref h_ends, .ref h_letters, .int moved, .int turned, .int worst, .ref h_seen, .int seenMany, .ref h_lastBy, .ref h_isKept, .ref h_lanes, .ref h_lengths, .ref h_cells, .int torn])), (h_state, .inl (cI, 240, .inl state))] H locs → lv_has ls 5 [(0, .ref h0), (1, .int x1), (2, .int x2), (3, .int x3)] → W p l e ({ frames := 2, cells := 0, slots := 0, locals := 46 } : Room) s m args below meth c H locs 0 0 Q (F0 m 46 ls []) := by
    intro  x1 x2 x3 state H locs ls hf hX hl
    unfold fX5_alter_L46 at hf
    refine lv_iconst (pc := 46) (v := 0) hx hb dX5_alter_46 (by decide) ?_
    exact L47  x1 x2 x3 (0 : Int32) state _ _ _ hf hX (lv_sub hl [0, 1, 2, 3] rfl)
  have L36 : ∀ (x1 : Int32) (x2 : Int32) (x3 : Int32) (y0 : Int64) (y1 : Int64) (y2 : Int64) (state : (Nat → Int32)) (H : Heap) (locs : List Loc) (ls : Array Slot), fX5_alter_L36  x1 x2 x3 y0 y1 y2 state = some (r0, o_state') → xSt A s D [(h0, .inr (5, [.ref h_state, .ref h_readPage, .ref h_tape, .int taped, .int fault, .int broken, .int brokenAt, .int spot, .int here, .int token, .int value, .ref h_ends, .ref h_letters, .int moved, .int turned, .int worst, .ref h_seen, .int seenMany, .ref h_lastBy, .ref h_isKept, .ref h_lanes, .ref h_lengths, .ref h_cells, .int torn])), (h_state, .inl (cI, 240, .inl state))] H locs → lv_has ls 5 [(0, .ref h0), (1, .int x1), (2, .int x2), (3, .int x3)] → W p l e ({ frames := 2, cells := 0, slots := 0, locals := 46 } : Room) s m args below meth c H locs 0 0 Q (F0 m 36 ls [.long y2, .long y1, .long y0]) := by
    intro  x1 x2 x3 y0 y1 y2 state H locs ls hf hX hl
    unfold fX5_alter_L36 at hf
    obtain ⟨r12, g13, hf⟩ := cl1_adv hf
    refine x_callSi (pc := 36) (rest := []) C hX (kX5_in ad l D cI cB cZ cG cS r12 y0 y1 y2 g13) (va_cwS 3 C.1.2.2.2.2 gX5_alter_X5_in rfl rfl rfl (by decide +kernel) ⟨Nat.le_of_ble_eq_true rfl, Nat.le_of_ble_eq_true rfl⟩) hl.1 rfl rfl (Nat.le_of_ble_eq_true rfl) dX5_alter_36 (fun H locs hX => ?_)
    refine lv_if_eq (pc := 39) (tgt := 46) hx hb dX5_alter_39 (by decide) (fun c14 => ?_) (fun c14 => ?_)
    · replace hf := ite_t c14 hf
      exact L46  x1 x2 x3 state _ _ _ hf hX (lv_sub hl [0, 1, 2, 3] rfl)
    · replace hf := ite_f c14 hf
      refine lv_iconst (pc := 42) (v := 1) hx hb dX5_alter_42 (by decide) ?_
      refine lv_goto (pc := 43) (tgt := 47) hx hb dX5_alter_43 (by decide) ?_
      exact L47  x1 x2 x3 (1 : Int32) state _ _ _ hf hX (lv_sub hl [0, 1, 2, 3] rfl)
  unfold fX5_alter at hf
  refine lv_aload_n (pc := 0) hx hb dX5_alter_0 rfl (lv_at hl 0 rfl) ?_
  refine lv_iload_n (pc := 1) hx hb dX5_alter_1 rfl (lv_at hl 1 rfl) ?_
  obtain ⟨r1, g2, hf⟩ := cl1_adv hf
  refine x_callVi (pc := 2) (rest := []) (w2 := [(h0, .inr (5, [.ref h_state, .ref h_readPage, .ref h_tape, .int taped, .int fault, .int broken, .int brokenAt, .int spot, .int here, .int token, .int value, .ref h_ends, .ref h_letters, .int moved, .int turned, .int worst, .ref h_seen, .int seenMany, .ref h_lastBy, .ref h_isKept, .ref h_lanes, .ref h_lengths, .ref h_cells, .int torn])), (h_state, .inl (cI, 240, .inl state))]) C hX (kX5_isArm ad l D cI cB cZ cG cS h0 h_state h_readPage h_tape h_ends h_letters h_seen h_lastBy h_isKept h_lanes h_lengths h_cells taped fault broken brokenAt spot here token value moved turned worst seenMany torn state r1 p1 g2) (cwV 1 C.1.2.2.2.2 gX5_alter_X5_isArm rfl rfl rfl (by decide +kernel) ⟨Nat.le_of_ble_eq_true rfl, Nat.le_of_ble_eq_true rfl⟩) [0, 1] [] [0, 1] rfl rfl rfl rfl (by decide) rfl rfl 0 rfl rfl rfl hl.1 rfl rfl (Nat.le_of_ble_eq_true rfl) dX5_alter_2 (fun H locs hX => ?_)
  refine lv_if_eq (pc := 5) (tgt := 46) hx hb dX5_alter_5 (by decide) (fun c3 => ?_) (fun c3 => ?_)
  · replace hf := ite_t c3 hf
    exact L46  p1 p2 p3 state _ _ _ hf hX (lv_sub hl [0, 1, 2, 3] rfl)
  · replace hf := ite_f c3 hf
    refine lv_iload_n (pc := 8) hx hb dX5_alter_8 rfl (lv_at hl 2 rfl) ?_
    refine lv_i2l (pc := 9) (v := ((p2).toInt64)) hx hb dX5_alter_9 rfl ?_
    refine lv_lconst (pc := 10) (v := 0) hx hb dX5_alter_10 (by decide) ?_
    refine lv_ldc2 (pc := 11) hx hb C.1.2.2.2.1 (C.1.2.2.2.2 _ mmX5_alter_1) dX5_alter_11 ?_
    obtain ⟨r8, g9, hf⟩ := cl1_adv hf
    refine x_callSi (pc := 14) (rest := []) C hX (kX5_in ad l D cI cB cZ cG cS r8 ((p2).toInt64) (0 : Int64) (2 : Int64) g9) (va_cwS 3 C.1.2.2.2.2 gX5_alter_X5_in rfl rfl rfl (by decide +kernel) ⟨Nat.le_of_ble_eq_true rfl, Nat.le_of_ble_eq_true rfl⟩) hl.1 rfl rfl (Nat.le_of_ble_eq_true rfl) dX5_alter_14 (fun H locs hX => ?_)
    refine lv_if_eq (pc := 17) (tgt := 46) hx hb dX5_alter_17 (by decide) (fun c10 => ?_) (fun c10 => ?_)
    · replace hf := ite_t c10 hf
      exact L46  p1 p2 p3 state _ _ _ hf hX (lv_sub hl [0, 1, 2, 3] rfl)
    · replace hf := ite_f c10 hf
      refine lv_iload_n (pc := 20) hx hb dX5_alter_20 rfl (lv_at hl 3 rfl) ?_
      refine lv_i2l (pc := 21) (v := ((p3).toInt64)) hx hb dX5_alter_21 rfl ?_
      refine lv_lconst (pc := 22) (v := 0) hx hb dX5_alter_22 (by decide) ?_
      refine lv_iload_n (pc := 23) hx hb dX5_alter_23 rfl (lv_at hl 2 rfl) ?_
      refine lv_if_ne (pc := 24) (tgt := 33) hx hb dX5_alter_24 (by decide) (fun c11 => ?_) (fun c11 => ?_)
      · replace hf := ite_f c11 hf
        refine lv_ldc2 (pc := 33) hx hb C.1.2.2.2.1 (C.1.2.2.2.2 _ mmX5_alter_3) dX5_alter_33 ?_
        exact L36  p1 p2 p3 ((p3).toInt64) (0 : Int64) (9 : Int64) state _ _ _ hf hX (lv_sub hl [0, 1, 2, 3] rfl)
      · replace hf := ite_t c11 hf
        refine lv_ldc2 (pc := 27) hx hb C.1.2.2.2.1 (C.1.2.2.2.2 _ mmX5_alter_2) dX5_alter_27 ?_
        refine lv_goto (pc := 30) (tgt := 36) hx hb dX5_alter_30 (by decide) ?_
        exact L36  p1 p2 p3 ((p3).toInt64) (0 : Int64) (3 : Int64) state _ _ _ hf hX (lv_sub hl [0, 1, 2, 3] rfl)
