theorem mmX5_leastAt_1 : Cond.constant RX5 193 (1000000) ∈ wsX5_leastAt := List.mem_of_getElem? (i := 1) rfl
theorem mmX5_leastAt_2 : Cond.fieldLink RX5 7 "SlackArmsModel" "state" "[I" ∈ wsX5_leastAt := List.mem_of_getElem? (i := 2) rfl
theorem miX5_leastAt_X5 : ∀ w ∈ u_ws RX5 TX5 24, w ∈ wsX5_leastAt := fun w h => List.mem_cons_of_mem _ (List.mem_append_right _ h)
set_option maxHeartbeats 4000000 in
set_option maxRecDepth 100000 in
theorem kX5_leastAt (ad : xAd) (l : Launch) (D : va_G) (cI cB cZ cG cS : ClassId) (h0 h_state h_readPage h_tape h_ends h_letters h_seen h_lastBy h_isKept h_lanes h_lengths h_cells : Nat) (taped : Int32) (fault : Int32) (broken : Int32) (brokenAt : Int32) (spot : Int32) (here : Int32) (token : Int32) (value : Int32) (moved : Int32) (turned : Int32) (worst : Int32) (seenMany : Int32) (torn : Int32) (state : (Nat → Int32)) (r0 : Int32) (o_moved' : Int32) (o_turned' : Int32) (o_worst' : Int32) (o_state' : (Nat → Int32)) (p1 : Int32) (p2 : Int32) (p3 : Int32) (p4 : Int32) (hf : fX5_leastAt p1 p2 p3 p4 moved turned worst state = some (r0, o_moved', o_turned', o_worst', o_state')) : xMi ad l yX5_leastAt wsX5_leastAt ({ frames := 6, cells := 0, slots := 0, locals := 141 } : Room) D (xTY cI cB cZ cG cS) [.ref h0, .int p1, .int p2, .int p3, .int p4] [(h0, .inr (5, [.ref h_state, .ref h_readPage, .ref h_tape, .int taped, .int fault, .int broken, .int brokenAt, .int spot, .int here, .int token, .int value, .ref h_ends, .ref h_letters, .int moved, .int turned, .int worst, .ref h_seen, .int seenMany, .ref h_lastBy, .ref h_isKept, .ref h_lanes, .ref h_lengths, .ref h_cells, .int torn])), (h_state, .inl (cI, 240, .inl state))] [(h0, .inr (5, [.ref h_state, .ref h_readPage, .ref h_tape, .int taped, .int fault, .int broken, .int brokenAt, .int spot, .int here, .int token, .int value, .ref h_ends, .ref h_letters, .int o_moved', .int o_turned', .int o_worst', .ref h_seen, .int seenMany, .ref h_lastBy, .ref h_isKept, .ref h_lanes, .ref h_lengths, .ref h_cells, .int torn])), (h_state, .inl (cI, 240, .inl o_state'))] r0 := by
  refine xMi_of (cc := cX5_leastAt) (maxL := 9) (ty := .int) (by decide) rfl (Nat.le_of_ble_eq_true rfl) ?_
  intro p e s m args below meth c A Q ls C hX hl hret
  have hx := C.1.1
  have hb := C.1.2.1
  have hl : lv_has ls 9 [(0, .ref h0), (1, .int p1), (2, .int p2), (3, .int p3), (4, .int p4)] := hl
  have L76 : ∀ (k18 : Int32 → Int32 → Int32 → Int32 → Int32 → Int32 → Int32 → Int32 → Int32 → Int32 → (Nat → Int32) → Option (Int32 × Int32 × Int32 × Int32 × (Nat → Int32))) (hk18 : ∀ (x1 : Int32) (x2 : Int32) (x3 : Int32) (x4 : Int32) (x5 : Int32) (x6 : Int32) (x7 : Int32) (moved : Int32) (turned : Int32) (worst : Int32) (state : (Nat → Int32)) (H : Heap) (locs : List Loc) (ls : Array Slot), k18 x1 x2 x3 x4 x5 x6 x7 moved turned worst state = some (r0, o_moved', o_turned', o_worst', o_state') → xSt A s D [(h0, .inr (5, [.ref h_state, .ref h_readPage, .ref h_tape, .int taped, .int fault, .int broken, .int brokenAt, .int spot, .int here, .int token, .int value, .ref h_ends, .ref h_letters, .int moved, .int turned, .int worst, .ref h_seen, .int seenMany, .ref h_lastBy, .ref h_isKept, .ref h_lanes, .ref h_lengths, .ref h_cells, .int torn])), (h_state, .inl (cI, 240, .inl state))] H locs → lv_has ls 9 [(0, .ref h0), (1, .int x1), (2, .int x2), (3, .int x3), (4, .int x4), (5, .int x5), (6, .int x6), (7, .int x7)] → W p l e ({ frames := 6, cells := 0, slots := 0, locals := 141 } : Room) s m args below meth c H locs 0 0 Q (F0 m 18 ls [])), ∀ (x1 : Int32) (x2 : Int32) (x3 : Int32) (x4 : Int32) (x6 : Int32) (x7 : Int32) (y0 : Int32) (moved : Int32) (turned : Int32) (worst : Int32) (state : (Nat → Int32)) (H : Heap) (locs : List Loc) (ls : Array Slot), fX5_leastAt_L76  k18 x1 x2 x3 x4 x6 x7 y0 moved turned worst state = some (r0, o_moved', o_turned', o_worst', o_state') → xSt A s D [(h0, .inr (5, [.ref h_state, .ref h_readPage, .ref h_tape, .int taped, .int fault, .int broken, .int brokenAt, .int spot, .int here, .int token, .int value, .ref h_ends, .ref h_letters, .int moved, .int turned, .int worst, .ref h_seen, .int seenMany, .ref h_lastBy, .ref h_isKept, .ref h_lanes, .ref h_lengths, .ref h_cells, .int torn])), (h_state, .inl (cI, 240, .inl state))] H locs → lv_has ls 9 [(0, .ref h0), (1, .int x1), (2, .int x2), (3, .int x3), (4, .int x4), (6, .int x6), (7, .int x7)] → W p l e ({ frames := 6, cells := 0, slots := 0, locals := 141 } : Room) s m args below meth c H locs 0 0 Q (F0 m 76 ls [.int y0]) := by
    intro k18 hk18 x1 x2 x3 x4 x6 x7 y0 moved turned worst state H locs ls hf hX hl
    unfold fX5_leastAt_L76 at hf
    refine lv_istore (pc := 76) (lv' := [(5, .int y0), (0, .ref h0), (1, .int x1), (2, .int x2), (3, .int x3), (4, .int x4), (6, .int x6), (7, .int x7)]) hx hb dX5_leastAt_76 hl (by decide) rfl (fun ls hl => ?_)
    obtain ⟨v15, ev15⟩ : ∃ y : Int32, y = (x7 + (1 : Int32)) := ⟨_, rfl⟩
    replace hf := bnd_use ev15 hf
    refine lv_iinc (pc := 78) (v := v15) (lv' := [(7, .int v15), (5, .int y0), (0, .ref h0), (1, .int x1), (2, .int x2), (3, .int x3), (4, .int x4), (6, .int x6)]) hx hb dX5_leastAt_78 hl (k := 7) rfl (by rw [ev15]; rfl) (by decide) rfl (fun ls hl => ?_)
    refine lv_goto (pc := 81) (tgt := 18) hx hb dX5_leastAt_81 (by decide) ?_
    exact hk18 x1 x2 x3 x4 y0 x6 v15 moved turned worst state _ _ _ hf hX (lv_sub hl [2, 3, 4, 5, 6, 1, 7, 0] rfl)
  have L60 : ∀ (k18 : Int32 → Int32 → Int32 → Int32 → Int32 → Int32 → Int32 → Int32 → Int32 → Int32 → (Nat → Int32) → Option (Int32 × Int32 × Int32 × Int32 × (Nat → Int32))) (hk18 : ∀ (x1 : Int32) (x2 : Int32) (x3 : Int32) (x4 : Int32) (x5 : Int32) (x6 : Int32) (x7 : Int32) (moved : Int32) (turned : Int32) (worst : Int32) (state : (Nat → Int32)) (H : Heap) (locs : List Loc) (ls : Array Slot), k18 x1 x2 x3 x4 x5 x6 x7 moved turned worst state = some (r0, o_moved', o_turned', o_worst', o_state') → xSt A s D [(h0, .inr (5, [.ref h_state, .ref h_readPage, .ref h_tape, .int taped, .int fault, .int broken, .int brokenAt, .int spot, .int here, .int token, .int value, .ref h_ends, .ref h_letters, .int moved, .int turned, .int worst, .ref h_seen, .int seenMany, .ref h_lastBy, .ref h_isKept, .ref h_lanes, .ref h_lengths, .ref h_cells, .int torn])), (h_state, .inl (cI, 240, .inl state))] H locs → lv_has ls 9 [(0, .ref h0), (1, .int x1), (2, .int x2), (3, .int x3), (4, .int x4), (5, .int x5), (6, .int x6), (7, .int x7)] → W p l e ({ frames := 6, cells := 0, slots := 0, locals := 141 } : Room) s m args below meth c H locs 0 0 Q (F0 m 18 ls [])), ∀ (x1 : Int32) (x2 : Int32) (x3 : Int32) (x4 : Int32) (x5 : Int32) (x7 : Int32) (x8 : Int32) (y0 : Int32) (moved : Int32) (turned : Int32) (worst : Int32) (state : (Nat → Int32)) (H : Heap) (locs : List Loc) (ls : Array Slot), fX5_leastAt_L60  k18 x1 x2 x3 x4 x5 x7 x8 y0 moved turned worst state = some (r0, o_moved', o_turned', o_worst', o_state') → xSt A s D [(h0, .inr (5, [.ref h_state, .ref h_readPage, .ref h_tape, .int taped, .int fault, .int broken, .int brokenAt, .int spot, .int here, .int token, .int value, .ref h_ends, .ref h_letters, .int moved, .int turned, .int worst, .ref h_seen, .int seenMany, .ref h_lastBy, .ref h_isKept, .ref h_lanes, .ref h_lengths, .ref h_cells, .int torn])), (h_state, .inl (cI, 240, .inl state))] H locs → lv_has ls 9 [(0, .ref h0), (1, .int x1), (2, .int x2), (3, .int x3), (4, .int x4), (5, .int x5), (7, .int x7), (8, .int x8)] → W p l e ({ frames := 6, cells := 0, slots := 0, locals := 141 } : Room) s m args below meth c H locs 0 0 Q (F0 m 60 ls [.int y0]) := by
    intro k18 hk18 x1 x2 x3 x4 x5 x7 x8 y0 moved turned worst state H locs ls hf hX hl
    unfold fX5_leastAt_L60 at hf
    refine lv_istore (pc := 60) (lv' := [(6, .int y0), (0, .ref h0), (1, .int x1), (2, .int x2), (3, .int x3), (4, .int x4), (5, .int x5), (7, .int x7), (8, .int x8)]) hx hb dX5_leastAt_60 hl (by decide) rfl (fun ls hl => ?_)
    refine lv_iload (pc := 62) hx hb dX5_leastAt_62 (lv_at hl 8 rfl) ?_
    refine lv_iload (pc := 64) hx hb dX5_leastAt_64 (lv_at hl 6 rfl) ?_
    refine lv_icmp_ge (pc := 66) (tgt := 74) hx hb dX5_leastAt_66 (by decide) (fun c14 => ?_) (fun c14 => ?_)
    · replace hf := ite_t c14 hf
      refine lv_iload (pc := 74) hx hb dX5_leastAt_74 (lv_at hl 6 rfl) ?_
      exact L76 (k18) hk18 x1 x2 x3 x4 y0 x7 x5 moved turned worst state _ _ _ hf hX (lv_sub hl [1, 2, 3, 4, 5, 0, 7] rfl)
    · replace hf := ite_f c14 hf
      refine lv_iload (pc := 69) hx hb dX5_leastAt_69 (lv_at hl 8 rfl) ?_
      refine lv_goto (pc := 71) (tgt := 76) hx hb dX5_leastAt_71 (by decide) ?_
      exact L76 (k18) hk18 x1 x2 x3 x4 y0 x7 x8 moved turned worst state _ _ _ hf hX (lv_sub hl [1, 2, 3, 4, 5, 0, 7] rfl)
  have L18 : ∀ (n : Nat), ∀ (x1 : Int32) (x2 : Int32) (x3 : Int32) (x4 : Int32) (x5 : Int32) (x6 : Int32) (x7 : Int32) (moved : Int32) (turned : Int32) (worst : Int32) (state : (Nat → Int32)) (H : Heap) (locs : List Loc) (ls : Array Slot), fX5_leastAt_L18  n x1 x2 x3 x4 x5 x6 x7 moved turned worst state = some (r0, o_moved', o_turned', o_worst', o_state') → xSt A s D [(h0, .inr (5, [.ref h_state, .ref h_readPage, .ref h_tape, .int taped, .int fault, .int broken, .int brokenAt, .int spot, .int here, .int token, .int value, .ref h_ends, .ref h_letters, .int moved, .int turned, .int worst, .ref h_seen, .int seenMany, .ref h_lastBy, .ref h_isKept, .ref h_lanes, .ref h_lengths, .ref h_cells, .int torn])), (h_state, .inl (cI, 240, .inl state))] H locs → lv_has ls 9 [(0, .ref h0), (1, .int x1), (2, .int x2), (3, .int x3), (4, .int x4), (5, .int x5), (6, .int x6), (7, .int x7)] → W p l e ({ frames := 6, cells := 0, slots := 0, locals := 141 } : Room) s m args below meth c H locs 0 0 Q (F0 m 18 ls []) := by
    intro n
    induction n with
    | zero =>
      intro x1 x2 x3 x4 x5 x6 x7 moved turned worst state H locs ls hf
      rw [fX5_leastAt_L18] at hf
      cases hf
    | succ n ih =>
      intro x1 x2 x3 x4 x5 x6 x7 moved turned worst state H locs ls hf hX hl
      rw [fX5_leastAt_L18] at hf
      refine lv_iload (pc := 18) hx hb dX5_leastAt_18 (lv_at hl 7 rfl) ?_
      refine lv_iload_n (pc := 20) hx hb dX5_leastAt_20 rfl (lv_at hl 2 rfl) ?_
      refine lv_icmp_ge (pc := 21) (tgt := 84) hx hb dX5_leastAt_21 (by decide) (fun c3 => ?_) (fun c3 => ?_)
      · replace hf := ite_t c3 hf
        refine lv_iload (pc := 84) hx hb dX5_leastAt_84 (lv_at hl 4 rfl) ?_
        refine lv_if_ne (pc := 86) (tgt := 94) hx hb dX5_leastAt_86 (by decide) (fun c4 => ?_) (fun c4 => ?_)
        · replace hf := ite_f c4 hf
          refine lv_iload (pc := 94) hx hb dX5_leastAt_94 (lv_at hl 5 rfl) ?_
          obtain ⟨rfl, rfl, rfl, rfl, rfl⟩ := re5 hf
          exact hret _ _ _ _ _ rfl rfl hX dX5_leastAt_96
        · replace hf := ite_t c4 hf
          refine lv_iload (pc := 89) hx hb dX5_leastAt_89 (lv_at hl 6 rfl) ?_
          refine lv_goto (pc := 91) (tgt := 96) hx hb dX5_leastAt_91 (by decide) ?_
          obtain ⟨rfl, rfl, rfl, rfl, rfl⟩ := re5 hf
          exact hret _ _ _ _ _ rfl rfl hX dX5_leastAt_96
      · replace hf := ite_f c3 hf
        refine lv_aload_n (pc := 24) hx hb dX5_leastAt_24 rfl (lv_at hl 0 rfl) ?_
        refine x_getf (pc := 25) (Cn := RX5) (T := TX5) (N := 24) C hX 0 rfl rfl miX5_leastAt_X5 0 (by decide) mmX5_leastAt_2 rfl dX5_leastAt_25 ?_
        refine lv_sipush (pc := 28) (v := 200) hx hb dX5_leastAt_28 (by decide) ?_
        refine lv_iload_n (pc := 31) hx hb dX5_leastAt_31 rfl (lv_at hl 1 rfl) ?_
        refine lv_iadd (pc := 32) hx hb dX5_leastAt_32 ?_
        refine lv_iload (pc := 33) hx hb dX5_leastAt_33 (lv_at hl 7 rfl) ?_
        replace hf := chk_adv hf
        have i5 := hf.1
        replace hf := hf.2
        obtain ⟨f6, ef6⟩ : ∃ y : Nat → Int32, y = (upd state (((200 : Int32) + x1)).toNatClampNeg x7) := ⟨_, rfl⟩
        replace hf := bnd_use ef6 hf
        refine x_iast (pc := 35) C hX 1 0 rfl rfl i5 [(h0, .inr (5, [.ref h_state, .ref h_readPage, .ref h_tape, .int taped, .int fault, .int broken, .int brokenAt, .int spot, .int here, .int token, .int value, .ref h_ends, .ref h_letters, .int moved, .int turned, .int worst, .ref h_seen, .int seenMany, .ref h_lastBy, .ref h_isKept, .ref h_lanes, .ref h_lengths, .ref h_cells, .int torn])), (h_state, .inl (cI, 240, .inl f6))] (by subst ef6; rfl) dX5_leastAt_35 (fun H locs hX => ?_)
        refine lv_aload_n (pc := 36) hx hb dX5_leastAt_36 rfl (lv_at hl 0 rfl) ?_
        refine lv_sipush (pc := 37) (v := 200) hx hb dX5_leastAt_37 (by decide) ?_
        refine lv_iload_n (pc := 40) hx hb dX5_leastAt_40 rfl (lv_at hl 3 rfl) ?_
        obtain ⟨r7, u8, u9, u10, u11, g12, hf⟩ := cl5_adv hf
        refine x_callVi (pc := 41) (rest := []) (w2 := [(h0, .inr (5, [.ref h_state, .ref h_readPage, .ref h_tape, .int taped, .int fault, .int broken, .int brokenAt, .int spot, .int here, .int token, .int value, .ref h_ends, .ref h_letters, .int u8, .int u9, .int u10, .ref h_seen, .int seenMany, .ref h_lastBy, .ref h_isKept, .ref h_lanes, .ref h_lengths, .ref h_cells, .int torn])), (h_state, .inl (cI, 240, .inl u11))]) C hX (kX5_stepsGo ad l D cI cB cZ cG cS h0 h_state h_readPage h_tape h_ends h_letters h_seen h_lastBy h_isKept h_lanes h_lengths h_cells taped fault broken brokenAt spot here token value moved turned worst seenMany torn f6 r7 u8 u9 u10 u11 (200 : Int32) x3 g12) (cwV 2 C.1.2.2.2.2 gX5_leastAt_X5_stepsGo rfl rfl rfl (by decide +kernel) ⟨Nat.le_of_ble_eq_true rfl, Nat.le_of_ble_eq_true rfl⟩) [0, 1] [] [0, 1] rfl rfl rfl rfl (by decide) rfl rfl 0 rfl rfl rfl hl.1 rfl rfl (Nat.le_of_ble_eq_true rfl) dX5_leastAt_41 (fun H locs hX => ?_)
        refine lv_istore (pc := 44) (lv' := [(8, .int r7), (0, .ref h0), (1, .int x1), (2, .int x2), (3, .int x3), (4, .int x4), (5, .int x5), (6, .int x6), (7, .int x7)]) hx hb dX5_leastAt_44 hl (by decide) rfl (fun ls hl => ?_)
        refine lv_iload (pc := 46) hx hb dX5_leastAt_46 (lv_at hl 0 rfl) ?_
        refine lv_iload (pc := 48) hx hb dX5_leastAt_48 (lv_at hl 6 rfl) ?_
        refine lv_icmp_ge (pc := 50) (tgt := 58) hx hb dX5_leastAt_50 (by decide) (fun c13 => ?_) (fun c13 => ?_)
        · replace hf := ite_t c13 hf
          refine lv_iload (pc := 58) hx hb dX5_leastAt_58 (lv_at hl 7 rfl) ?_
          exact L60 (fX5_leastAt_L18  n) ih x1 x2 x3 x4 x5 x7 r7 x6 u8 u9 u10 u11 _ _ _ hf hX (lv_sub hl [1, 2, 3, 4, 5, 6, 8, 0] rfl)
        · replace hf := ite_f c13 hf
          refine lv_iload (pc := 53) hx hb dX5_leastAt_53 (lv_at hl 8 rfl) ?_
          refine lv_goto (pc := 55) (tgt := 60) hx hb dX5_leastAt_55 (by decide) ?_
          exact L60 (fX5_leastAt_L18  n) ih x1 x2 x3 x4 x5 x7 r7 x7 u8 u9 u10 u11 _ _ _ hf hX (lv_sub hl [1, 2, 3, 4, 5, 6, 8, 0] rfl)
  unfold fX5_leastAt at hf
  refine lv_ldc (pc := 0) hx hb C.1.2.2.2.1 (C.1.2.2.2.2 _ mmX5_leastAt_1) dX5_leastAt_0 ?_
  refine lv_istore (pc := 2) (lv' := [(5, .int (1000000 : Int32)), (0, .ref h0), (1, .int p1), (2, .int p2), (3, .int p3), (4, .int p4)]) hx hb dX5_leastAt_2 hl (by decide) rfl (fun ls hl => ?_)
  refine lv_iconst (pc := 4) (v := 0) hx hb dX5_leastAt_4 (by decide) ?_
  refine lv_istore (pc := 5) (lv' := [(6, .int (0 : Int32)), (5, .int (1000000 : Int32)), (0, .ref h0), (1, .int p1), (2, .int p2), (3, .int p3), (4, .int p4)]) hx hb dX5_leastAt_5 hl (by decide) rfl (fun ls hl => ?_)
  refine lv_aload_n (pc := 7) hx hb dX5_leastAt_7 rfl (lv_at hl 2 rfl) ?_
  refine lv_iconst (pc := 8) (v := 0) hx hb dX5_leastAt_8 (by decide) ?_
  refine lv_sipush (pc := 9) (v := 200) hx hb dX5_leastAt_9 (by decide) ?_
  obtain ⟨u1, g2, hf⟩ := cl1_adv hf
  refine x_callVv (pc := 12) (rest := []) (w2 := [(h0, .inr (5, [.ref h_state, .ref h_readPage, .ref h_tape, .int taped, .int fault, .int broken, .int brokenAt, .int spot, .int here, .int token, .int value, .ref h_ends, .ref h_letters, .int moved, .int turned, .int worst, .ref h_seen, .int seenMany, .ref h_lastBy, .ref h_isKept, .ref h_lanes, .ref h_lengths, .ref h_cells, .int torn])), (h_state, .inl (cI, 240, .inl u1))]) C hX (kX5_copies ad l D cI cB cZ cG cS h0 h_state h_readPage h_tape h_ends h_letters h_seen h_lastBy h_isKept h_lanes h_lengths h_cells taped fault broken brokenAt spot here token value moved turned worst seenMany torn state u1 (0 : Int32) (200 : Int32) g2) (cwV 2 C.1.2.2.2.2 gX5_leastAt_X5_copies rfl rfl rfl (by decide +kernel) ⟨Nat.le_of_ble_eq_true rfl, Nat.le_of_ble_eq_true rfl⟩) [0, 1] [] [0, 1] rfl rfl rfl rfl (by decide) rfl rfl 0 rfl rfl rfl hl.1 rfl rfl (Nat.le_of_ble_eq_true rfl) dX5_leastAt_12 (fun H locs hX => ?_)
  refine lv_iconst (pc := 15) (v := 0) hx hb dX5_leastAt_15 (by decide) ?_
  refine lv_istore (pc := 16) (lv' := [(7, .int (0 : Int32)), (6, .int (0 : Int32)), (5, .int (1000000 : Int32)), (0, .ref h0), (1, .int p1), (2, .int p2), (3, .int p3), (4, .int p4)]) hx hb dX5_leastAt_16 hl (by decide) rfl (fun ls hl => ?_)
  exact L18  xF p1 p2 p3 p4 (1000000 : Int32) (0 : Int32) (0 : Int32) moved turned worst u1 _ _ _ hf hX (lv_sub hl [3, 4, 5, 6, 7, 2, 1, 0] rfl)
set_option maxHeartbeats 4000000 in
set_option maxRecDepth 100000 in
theorem kX5_slack (ad : xAd) (l : Launch) (D : va_G) (cI cB cZ cG cS : ClassId) (h0 h_state h_readPage h_tape h_ends h_letters h_seen h_lastBy h_isKept h_lanes h_lengths h_cells : Nat) (taped : Int32) (fault : Int32) (broken : Int32) (brokenAt : Int32) (spot : Int32) (here : Int32) (token : Int32) (value : Int32) (moved : Int32) (turned : Int32) (worst : Int32) (seenMany : Int32) (torn : Int32) (state : (Nat → Int32)) (r0 : Int32) (o_moved' : Int32) (o_turned' : Int32) (o_worst' : Int32) (o_state' : (Nat → Int32)) (p1 : Int32) (p2 : Int32) (p3 : Int32) (hf : fX5_slack p1 p2 p3 moved turned worst state = some (r0, o_moved', o_turned', o_worst', o_state')) : xMi ad l yX5_slack wsX5_slack ({ frames := 7, cells := 0, slots := 0, locals := 169 } : Room) D (xTY cI cB cZ cG cS) [.ref h0, .int p1, .int p2, .int p3] [(h0, .inr (5, [.ref h_state, .ref h_readPage, .ref h_tape, .int taped, .int fault, .int broken, .int brokenAt, .int spot, .int here, .int token, .int value, .ref h_ends, .ref h_letters, .int moved, .int turned, .int worst, .ref h_seen, .int seenMany, .ref h_lastBy, .ref h_isKept, .ref h_lanes, .ref h_lengths, .ref h_cells, .int torn])), (h_state, .inl (cI, 240, .inl state))] [(h0, .inr (5, [.ref h_state, .ref h_readPage, .ref h_tape, .int taped, .int fault, .int broken, .int brokenAt, .int spot, .int here, .int token, .int value, .ref h_ends, .ref h_letters, .int o_moved', .int o_turned', .int o_worst', .ref h_seen, .int seenMany, .ref h_lastBy, .ref h_isKept, .ref h_lanes, .ref h_lengths, .ref h_cells, .int torn])), (h_state, .inl (cI, 240, .inl o_state'))] r0 := by
  refine xMi_of (cc := cX5_slack) (maxL := 4) (ty := .int) (by decide) rfl (Nat.le_of_ble_eq_true rfl) ?_
  intro p e s m args below meth c A Q ls C hX hl hret
  have hx := C.1.1
  have hb := C.1.2.1
  have hl : lv_has ls 4 [(0, .ref h0), (1, .int p1), (2, .int p2), (3, .int p3)] := hl
  unfold fX5_slack at hf
  refine lv_aload_n (pc := 0) hx hb dX5_slack_0 rfl (lv_at hl 0 rfl) ?_
  refine lv_iload_n (pc := 1) hx hb dX5_slack_1 rfl (lv_at hl 1 rfl) ?_
  obtain ⟨r1, g2, hf⟩ := cl1_adv hf
  refine x_callVi (pc := 2) (rest := []) (w2 := [(h0, .inr (5, [.ref h_state, .ref h_readPage, .ref h_tape, .int taped, .int fault, .int broken, .int brokenAt, .int spot, .int here, .int token, .int value, .ref h_ends, .ref h_letters, .int moved, .int turned, .int worst, .ref h_seen, .int seenMany, .ref h_lastBy, .ref h_isKept, .ref h_lanes, .ref h_lengths, .ref h_cells, .int torn])), (h_state, .inl (cI, 240, .inl state))]) C hX (kX5_isArm ad l D cI cB cZ cG cS h0 h_state h_readPage h_tape h_ends h_letters h_seen h_lastBy h_isKept h_lanes h_lengths h_cells taped fault broken brokenAt spot here token value moved turned worst seenMany torn state r1 p1 g2) (cwV 1 C.1.2.2.2.2 gX5_slack_X5_isArm rfl rfl rfl (by decide +kernel) ⟨Nat.le_of_ble_eq_true rfl, Nat.le_of_ble_eq_true rfl⟩) [0, 1] [] [0, 1] rfl rfl rfl rfl (by decide) rfl rfl 0 rfl rfl rfl hl.1 rfl rfl (Nat.le_of_ble_eq_true rfl) dX5_slack_2 (fun H locs hX => ?_)
  refine lv_if_eq (pc := 5) (tgt := 39) hx hb dX5_slack_5 (by decide) (fun c3 => ?_) (fun c3 => ?_)
  · replace hf := ite_t c3 hf
    refine lv_iconst (pc := 39) (v := -1) hx hb dX5_slack_39 (by decide) ?_
    obtain ⟨rfl, rfl, rfl, rfl, rfl⟩ := re5 hf
    exact hret _ _ _ _ _ rfl rfl hX dX5_slack_40
  · replace hf := ite_f c3 hf
    refine lv_iload_n (pc := 8) hx hb dX5_slack_8 rfl (lv_at hl 2 rfl) ?_
    obtain ⟨r4, g5, hf⟩ := cl1_adv hf
    refine x_callSi (pc := 9) (rest := []) C hX (kX5_isLong ad l D cI cB cZ cG cS r4 p2 g5) (va_cwS 1 C.1.2.2.2.2 gX5_slack_X5_isLong rfl rfl rfl (by decide +kernel) ⟨Nat.le_of_ble_eq_true rfl, Nat.le_of_ble_eq_true rfl⟩) hl.1 rfl rfl (Nat.le_of_ble_eq_true rfl) dX5_slack_9 (fun H locs hX => ?_)
    refine lv_if_eq (pc := 12) (tgt := 39) hx hb dX5_slack_12 (by decide) (fun c6 => ?_) (fun c6 => ?_)
    · replace hf := ite_t c6 hf
      refine lv_iconst (pc := 39) (v := -1) hx hb dX5_slack_39 (by decide) ?_
      obtain ⟨rfl, rfl, rfl, rfl, rfl⟩ := re5 hf
      exact hret _ _ _ _ _ rfl rfl hX dX5_slack_40
    · replace hf := ite_f c6 hf
      refine lv_iload_n (pc := 15) hx hb dX5_slack_15 rfl (lv_at hl 3 rfl) ?_
      refine lv_i2l (pc := 16) (v := ((p3).toInt64)) hx hb dX5_slack_16 rfl ?_
      refine lv_lconst (pc := 17) (v := 0) hx hb dX5_slack_17 (by decide) ?_
      refine lv_lconst (pc := 18) (v := 1) hx hb dX5_slack_18 (by decide) ?_
      obtain ⟨r7, g8, hf⟩ := cl1_adv hf
      refine x_callSi (pc := 19) (rest := []) C hX (kX5_in ad l D cI cB cZ cG cS r7 ((p3).toInt64) (0 : Int64) (1 : Int64) g8) (va_cwS 3 C.1.2.2.2.2 gX5_slack_X5_in rfl rfl rfl (by decide +kernel) ⟨Nat.le_of_ble_eq_true rfl, Nat.le_of_ble_eq_true rfl⟩) hl.1 rfl rfl (Nat.le_of_ble_eq_true rfl) dX5_slack_19 (fun H locs hX => ?_)
      refine lv_if_eq (pc := 22) (tgt := 39) hx hb dX5_slack_22 (by decide) (fun c9 => ?_) (fun c9 => ?_)
      · replace hf := ite_t c9 hf
        refine lv_iconst (pc := 39) (v := -1) hx hb dX5_slack_39 (by decide) ?_
        obtain ⟨rfl, rfl, rfl, rfl, rfl⟩ := re5 hf
        exact hret _ _ _ _ _ rfl rfl hX dX5_slack_40
      · replace hf := ite_f c9 hf
        refine lv_aload_n (pc := 25) hx hb dX5_slack_25 rfl (lv_at hl 0 rfl) ?_
        refine lv_iconst (pc := 26) (v := 4) hx hb dX5_slack_26 (by decide) ?_
        refine lv_iload_n (pc := 27) hx hb dX5_slack_27 rfl (lv_at hl 1 rfl) ?_
        refine lv_iadd (pc := 28) hx hb dX5_slack_28 ?_
        refine lv_bipush (pc := 29) (v := 10) hx hb dX5_slack_29 (by decide) ?_
        refine lv_iload_n (pc := 31) hx hb dX5_slack_31 rfl (lv_at hl 2 rfl) ?_
        refine lv_iload_n (pc := 32) hx hb dX5_slack_32 rfl (lv_at hl 3 rfl) ?_
        obtain ⟨r10, u11, u12, u13, u14, g15, hf⟩ := cl5_adv hf
        refine x_callVi (pc := 33) (rest := []) (w2 := [(h0, .inr (5, [.ref h_state, .ref h_readPage, .ref h_tape, .int taped, .int fault, .int broken, .int brokenAt, .int spot, .int here, .int token, .int value, .ref h_ends, .ref h_letters, .int u11, .int u12, .int u13, .ref h_seen, .int seenMany, .ref h_lastBy, .ref h_isKept, .ref h_lanes, .ref h_lengths, .ref h_cells, .int torn])), (h_state, .inl (cI, 240, .inl u14))]) C hX (kX5_leastAt ad l D cI cB cZ cG cS h0 h_state h_readPage h_tape h_ends h_letters h_seen h_lastBy h_isKept h_lanes h_lengths h_cells taped fault broken brokenAt spot here token value moved turned worst seenMany torn state r10 u11 u12 u13 u14 ((4 : Int32) + p1) (10 : Int32) p2 p3 g15) (cwV 4 C.1.2.2.2.2 gX5_slack_X5_leastAt rfl rfl rfl (by decide +kernel) ⟨Nat.le_of_ble_eq_true rfl, Nat.le_of_ble_eq_true rfl⟩) [0, 1] [] [0, 1] rfl rfl rfl rfl (by decide) rfl rfl 0 rfl rfl rfl hl.1 rfl rfl (Nat.le_of_ble_eq_true rfl) dX5_slack_33 (fun H locs hX => ?_)
        refine lv_goto (pc := 36) (tgt := 40) hx hb dX5_slack_36 (by decide) ?_
        obtain ⟨rfl, rfl, rfl, rfl, rfl⟩ := re5 hf
        exact hret _ _ _ _ _ rfl rfl hX dX5_slack_40
set_option maxHeartbeats 4000000 in
set_option maxRecDepth 100000 in
theorem kX5_kind (ad : xAd) (l : Launch) (D : va_G) (cI cB cZ cG cS : ClassId) (h0 h_state h_readPage h_tape h_ends h_letters h_seen h_lastBy h_isKept h_lanes h_lengths h_cells : Nat) (taped : Int32) (fault : Int32) (broken : Int32) (brokenAt : Int32) (spot : Int32) (here : Int32) (token : Int32) (value : Int32) (moved : Int32) (turned : Int32) (worst : Int32) (seenMany : Int32) (torn : Int32) (state : (Nat → Int32)) (r0 : Int32) (o_moved' : Int32) (o_turned' : Int32) (o_worst' : Int32) (o_state' : (Nat → Int32)) (p1 : Int32) (p2 : Int32) (p3 : Int32) (hf : fX5_kind p1 p2 p3 moved turned worst state = some (r0, o_moved', o_turned', o_worst', o_state')) : xMi ad l yX5_kind wsX5_kind ({ frames := 7, cells := 0, slots := 0, locals := 169 } : Room) D (xTY cI cB cZ cG cS) [.ref h0, .int p1, .int p2, .int p3] [(h0, .inr (5, [.ref h_state, .ref h_readPage, .ref h_tape, .int taped, .int fault, .int broken, .int brokenAt, .int spot, .int here, .int token, .int value, .ref h_ends, .ref h_letters, .int moved, .int turned, .int worst, .ref h_seen, .int seenMany, .ref h_lastBy, .ref h_isKept, .ref h_lanes, .ref h_lengths, .ref h_cells, .int torn])), (h_state, .inl (cI, 240, .inl state))] [(h0, .inr (5, [.ref h_state, .ref h_readPage, .ref h_tape, .int taped, .int fault, .int broken, .int brokenAt, .int spot, .int here, .int token, .int value, .ref h_ends, .ref h_letters, .int o_moved', .int o_turned', .int o_worst', .ref h_seen, .int seenMany, .ref h_lastBy, .ref h_isKept, .ref h_lanes, .ref h_lengths, .ref h_cells, .int torn])), (h_state, .inl (cI, 240, .inl o_state'))] r0 := by
  refine xMi_of (cc := cX5_kind) (maxL := 4) (ty := .int) (by decide) rfl (Nat.le_of_ble_eq_true rfl) ?_
  intro p e s m args below meth c A Q ls C hX hl hret
  have hx := C.1.1
  have hb := C.1.2.1
  have hl : lv_has ls 4 [(0, .ref h0), (1, .int p1), (2, .int p2), (3, .int p3)] := hl
  unfold fX5_kind at hf
  refine lv_aload_n (pc := 0) hx hb dX5_kind_0 rfl (lv_at hl 0 rfl) ?_
  refine lv_iload_n (pc := 1) hx hb dX5_kind_1 rfl (lv_at hl 1 rfl) ?_
  obtain ⟨r1, g2, hf⟩ := cl1_adv hf
  refine x_callVi (pc := 2) (rest := []) (w2 := [(h0, .inr (5, [.ref h_state, .ref h_readPage, .ref h_tape, .int taped, .int fault, .int broken, .int brokenAt, .int spot, .int here, .int token, .int value, .ref h_ends, .ref h_letters, .int moved, .int turned, .int worst, .ref h_seen, .int seenMany, .ref h_lastBy, .ref h_isKept, .ref h_lanes, .ref h_lengths, .ref h_cells, .int torn])), (h_state, .inl (cI, 240, .inl state))]) C hX (kX5_isArm ad l D cI cB cZ cG cS h0 h_state h_readPage h_tape h_ends h_letters h_seen h_lastBy h_isKept h_lanes h_lengths h_cells taped fault broken brokenAt spot here token value moved turned worst seenMany torn state r1 p1 g2) (cwV 1 C.1.2.2.2.2 gX5_kind_X5_isArm rfl rfl rfl (by decide +kernel) ⟨Nat.le_of_ble_eq_true rfl, Nat.le_of_ble_eq_true rfl⟩) [0, 1] [] [0, 1] rfl rfl rfl rfl (by decide) rfl rfl 0 rfl rfl rfl hl.1 rfl rfl (Nat.le_of_ble_eq_true rfl) dX5_kind_2 (fun H locs hX => ?_)
  refine lv_if_eq (pc := 5) (tgt := 36) hx hb dX5_kind_5 (by decide) (fun c3 => ?_) (fun c3 => ?_)
  · replace hf := ite_t c3 hf
    refine lv_iconst (pc := 36) (v := -1) hx hb dX5_kind_36 (by decide) ?_
    obtain ⟨rfl, rfl, rfl, rfl, rfl⟩ := re5 hf
    exact hret _ _ _ _ _ rfl rfl hX dX5_kind_37
  · replace hf := ite_f c3 hf
    refine lv_iload_n (pc := 8) hx hb dX5_kind_8 rfl (lv_at hl 2 rfl) ?_
    obtain ⟨r4, g5, hf⟩ := cl1_adv hf
    refine x_callSi (pc := 9) (rest := []) C hX (kX5_isLong ad l D cI cB cZ cG cS r4 p2 g5) (va_cwS 1 C.1.2.2.2.2 gX5_kind_X5_isLong rfl rfl rfl (by decide +kernel) ⟨Nat.le_of_ble_eq_true rfl, Nat.le_of_ble_eq_true rfl⟩) hl.1 rfl rfl (Nat.le_of_ble_eq_true rfl) dX5_kind_9 (fun H locs hX => ?_)
    refine lv_if_eq (pc := 12) (tgt := 36) hx hb dX5_kind_12 (by decide) (fun c6 => ?_) (fun c6 => ?_)
    · replace hf := ite_t c6 hf
      refine lv_iconst (pc := 36) (v := -1) hx hb dX5_kind_36 (by decide) ?_
      obtain ⟨rfl, rfl, rfl, rfl, rfl⟩ := re5 hf
      exact hret _ _ _ _ _ rfl rfl hX dX5_kind_37
    · replace hf := ite_f c6 hf
      refine lv_iload_n (pc := 15) hx hb dX5_kind_15 rfl (lv_at hl 3 rfl) ?_
      refine lv_i2l (pc := 16) (v := ((p3).toInt64)) hx hb dX5_kind_16 rfl ?_
      refine lv_lconst (pc := 17) (v := 0) hx hb dX5_kind_17 (by decide) ?_
      refine lv_lconst (pc := 18) (v := 1) hx hb dX5_kind_18 (by decide) ?_
      obtain ⟨r7, g8, hf⟩ := cl1_adv hf
      refine x_callSi (pc := 19) (rest := []) C hX (kX5_in ad l D cI cB cZ cG cS r7 ((p3).toInt64) (0 : Int64) (1 : Int64) g8) (va_cwS 3 C.1.2.2.2.2 gX5_kind_X5_in rfl rfl rfl (by decide +kernel) ⟨Nat.le_of_ble_eq_true rfl, Nat.le_of_ble_eq_true rfl⟩) hl.1 rfl rfl (Nat.le_of_ble_eq_true rfl) dX5_kind_19 (fun H locs hX => ?_)
      refine lv_if_eq (pc := 22) (tgt := 36) hx hb dX5_kind_22 (by decide) (fun c9 => ?_) (fun c9 => ?_)
      · replace hf := ite_t c9 hf
        refine lv_iconst (pc := 36) (v := -1) hx hb dX5_kind_36 (by decide) ?_
        obtain ⟨rfl, rfl, rfl, rfl, rfl⟩ := re5 hf
        exact hret _ _ _ _ _ rfl rfl hX dX5_kind_37
      · replace hf := ite_f c9 hf
        refine lv_aload_n (pc := 25) hx hb dX5_kind_25 rfl (lv_at hl 0 rfl) ?_
        refine lv_iload_n (pc := 26) hx hb dX5_kind_26 rfl (lv_at hl 1 rfl) ?_
        refine lv_iconst (pc := 27) (v := 4) hx hb dX5_kind_27 (by decide) ?_
        refine lv_iload_n (pc := 28) hx hb dX5_kind_28 rfl (lv_at hl 2 rfl) ?_
        refine lv_iload_n (pc := 29) hx hb dX5_kind_29 rfl (lv_at hl 3 rfl) ?_
        obtain ⟨r10, u11, u12, u13, u14, g15, hf⟩ := cl5_adv hf
        refine x_callVi (pc := 30) (rest := []) (w2 := [(h0, .inr (5, [.ref h_state, .ref h_readPage, .ref h_tape, .int taped, .int fault, .int broken, .int brokenAt, .int spot, .int here, .int token, .int value, .ref h_ends, .ref h_letters, .int u11, .int u12, .int u13, .ref h_seen, .int seenMany, .ref h_lastBy, .ref h_isKept, .ref h_lanes, .ref h_lengths, .ref h_cells, .int torn])), (h_state, .inl (cI, 240, .inl u14))]) C hX (kX5_leastAt ad l D cI cB cZ cG cS h0 h_state h_readPage h_tape h_ends h_letters h_seen h_lastBy h_isKept h_lanes h_lengths h_cells taped fault broken brokenAt spot here token value moved turned worst seenMany torn state r10 u11 u12 u13 u14 p1 (4 : Int32) p2 p3 g15) (cwV 4 C.1.2.2.2.2 gX5_kind_X5_leastAt rfl rfl rfl (by decide +kernel) ⟨Nat.le_of_ble_eq_true rfl, Nat.le_of_ble_eq_true rfl⟩) [0, 1] [] [0, 1] rfl rfl rfl rfl (by decide) rfl rfl 0 rfl rfl rfl hl.1 rfl rfl (Nat.le_of_ble_eq_true rfl) dX5_kind_30 (fun H locs hX => ?_)
        refine lv_goto (pc := 33) (tgt := 37) hx hb dX5_kind_33 (by decide) ?_
        obtain ⟨rfl, rfl, rfl, rfl, rfl⟩ := re5 hf
        exact hret _ _ _ _ _ rfl rfl hX dX5_kind_37
theorem mmX5_changesOn_1 : Cond.fieldLink RX5 7 "SlackArmsModel" "state" "[I" ∈ wsX5_changesOn := List.mem_of_getElem? (i := 1) rfl
theorem miX5_changesOn_X5 : ∀ w ∈ u_ws RX5 TX5 24, w ∈ wsX5_changesOn := fun w h => List.mem_cons_of_mem _ (List.mem_append_right _ h)
set_option maxHeartbeats 4000000 in
set_option maxRecDepth 100000 in
theorem kX5_changesOn (ad : xAd) (l : Launch) (D : va_G) (cI cB cZ cG cS : ClassId) (h0 h_state h_readPage h_tape h_ends h_letters h_seen h_lastBy h_isKept h_lanes h_lengths h_cells : Nat) (taped : Int32) (fault : Int32) (broken : Int32) (brokenAt : Int32) (spot : Int32) (here : Int32) (token : Int32) (value : Int32) (moved : Int32) (turned : Int32) (worst : Int32) (seenMany : Int32) (torn : Int32) (state : (Nat → Int32)) (o_state' : (Nat → Int32)) (p1 : Int32) (p2 : Int32) (p3 : Int32) (p4 : Int32) (hf : fX5_changesOn p1 p2 p3 p4 state = some o_state') : xMv ad l yX5_changesOn wsX5_changesOn ({ frames := 0, cells := 0, slots := 0, locals := 0 } : Room) D (xTY cI cB cZ cG cS) [.ref h0, .int p1, .int p2, .int p3, .int p4] [(h0, .inr (5, [.ref h_state, .ref h_readPage, .ref h_tape, .int taped, .int fault, .int broken, .int brokenAt, .int spot, .int here, .int token, .int value, .ref h_ends, .ref h_letters, .int moved, .int turned, .int worst, .ref h_seen, .int seenMany, .ref h_lastBy, .ref h_isKept, .ref h_lanes, .ref h_lengths, .ref h_cells, .int torn])), (h_state, .inl (cI, 240, .inl state))] [(h0, .inr (5, [.ref h_state, .ref h_readPage, .ref h_tape, .int taped, .int fault, .int broken, .int brokenAt, .int spot, .int here, .int token, .int value, .ref h_ends, .ref h_letters, .int moved, .int turned, .int worst, .ref h_seen, .int seenMany, .ref h_lastBy, .ref h_isKept, .ref h_lanes, .ref h_lengths, .ref h_cells, .int torn])), (h_state, .inl (cI, 240, .inl o_state'))] := by
  refine xMv_of (cc := cX5_changesOn) (maxL := 5) (by decide) rfl (Nat.le_of_ble_eq_true rfl) ?_
  intro p e s m args below meth c A Q ls C hX hl hret
  have hx := C.1.1
  have hb := C.1.2.1
  have hl : lv_has ls 5 [(0, .ref h0), (1, .int p1), (2, .int p2), (3, .int p3), (4, .int p4)] := hl
  unfold fX5_changesOn at hf
  refine lv_aload_n (pc := 0) hx hb dX5_changesOn_0 rfl (lv_at hl 0 rfl) ?_
  refine x_getf (pc := 1) (Cn := RX5) (T := TX5) (N := 24) C hX 0 rfl rfl miX5_changesOn_X5 0 (by decide) mmX5_changesOn_1 rfl dX5_changesOn_1 ?_
  refine lv_iload_n (pc := 4) hx hb dX5_changesOn_4 rfl (lv_at hl 1 rfl) ?_
  refine lv_iload (pc := 5) hx hb dX5_changesOn_5 (lv_at hl 4 rfl) ?_
  refine lv_iadd (pc := 7) hx hb dX5_changesOn_7 ?_
  refine lv_iload_n (pc := 8) hx hb dX5_changesOn_8 rfl (lv_at hl 2 rfl) ?_
  refine lv_iadd (pc := 9) hx hb dX5_changesOn_9 ?_
  refine lv_aload_n (pc := 10) hx hb dX5_changesOn_10 rfl (lv_at hl 0 rfl) ?_
  refine x_getf (pc := 11) (Cn := RX5) (T := TX5) (N := 24) C hX 0 rfl rfl miX5_changesOn_X5 0 (by decide) mmX5_changesOn_1 rfl dX5_changesOn_11 ?_
  refine lv_iload (pc := 14) hx hb dX5_changesOn_14 (lv_at hl 4 rfl) ?_
  refine lv_iload_n (pc := 16) hx hb dX5_changesOn_16 rfl (lv_at hl 3 rfl) ?_
  refine lv_iadd (pc := 17) hx hb dX5_changesOn_17 ?_
  replace hf := chk_adv hf
  have i1 := hf.1
  replace hf := hf.2
  refine x_iald (pc := 18) C hX 1 0 rfl rfl i1 dX5_changesOn_18 ?_
  refine lv_topi (fun v2 ev2 => ?_)
  replace hf := bnd_use ev2 hf
  replace hf := chk_adv hf
  have i3 := hf.1
  replace hf := hf.2
  obtain ⟨f4, ef4⟩ : ∃ y : Nat → Int32, y = (upd state (((p1 + p4) + p2)).toNatClampNeg v2) := ⟨_, rfl⟩
  replace hf := bnd_use ef4 hf
  refine x_iast (pc := 19) C hX 1 0 rfl rfl i3 [(h0, .inr (5, [.ref h_state, .ref h_readPage, .ref h_tape, .int taped, .int fault, .int broken, .int brokenAt, .int spot, .int here, .int token, .int value, .ref h_ends, .ref h_letters, .int moved, .int turned, .int worst, .ref h_seen, .int seenMany, .ref h_lastBy, .ref h_isKept, .ref h_lanes, .ref h_lengths, .ref h_cells, .int torn])), (h_state, .inl (cI, 240, .inl f4))] (by subst ef4; rfl) dX5_changesOn_19 (fun H locs hX => ?_)
  refine lv_aload_n (pc := 20) hx hb dX5_changesOn_20 rfl (lv_at hl 0 rfl) ?_
  refine x_getf (pc := 21) (Cn := RX5) (T := TX5) (N := 24) C hX 0 rfl rfl miX5_changesOn_X5 0 (by decide) mmX5_changesOn_1 rfl dX5_changesOn_21 ?_
  refine lv_iload_n (pc := 24) hx hb dX5_changesOn_24 rfl (lv_at hl 1 rfl) ?_
  refine lv_iload (pc := 25) hx hb dX5_changesOn_25 (lv_at hl 4 rfl) ?_
  refine lv_iadd (pc := 27) hx hb dX5_changesOn_27 ?_
  refine lv_iload_n (pc := 28) hx hb dX5_changesOn_28 rfl (lv_at hl 3 rfl) ?_
  refine lv_iadd (pc := 29) hx hb dX5_changesOn_29 ?_
  refine lv_aload_n (pc := 30) hx hb dX5_changesOn_30 rfl (lv_at hl 0 rfl) ?_
  refine x_getf (pc := 31) (Cn := RX5) (T := TX5) (N := 24) C hX 0 rfl rfl miX5_changesOn_X5 0 (by decide) mmX5_changesOn_1 rfl dX5_changesOn_31 ?_
  refine lv_iload (pc := 34) hx hb dX5_changesOn_34 (lv_at hl 4 rfl) ?_
  refine lv_iload_n (pc := 36) hx hb dX5_changesOn_36 rfl (lv_at hl 2 rfl) ?_
  refine lv_iadd (pc := 37) hx hb dX5_changesOn_37 ?_
  replace hf := chk_adv hf
  have i5 := hf.1
  replace hf := hf.2
  refine x_iald (pc := 38) C hX 1 0 rfl rfl i5 dX5_changesOn_38 ?_
  refine lv_topi (fun v6 ev6 => ?_)
  replace hf := bnd_use ev6 hf
  replace hf := chk_adv hf
  have i7 := hf.1
  replace hf := hf.2
  obtain ⟨f8, ef8⟩ : ∃ y : Nat → Int32, y = (upd f4 (((p1 + p4) + p3)).toNatClampNeg v6) := ⟨_, rfl⟩
  replace hf := bnd_use ef8 hf
  refine x_iast (pc := 39) C hX 1 0 rfl rfl i7 [(h0, .inr (5, [.ref h_state, .ref h_readPage, .ref h_tape, .int taped, .int fault, .int broken, .int brokenAt, .int spot, .int here, .int token, .int value, .ref h_ends, .ref h_letters, .int moved, .int turned, .int worst, .ref h_seen, .int seenMany, .ref h_lastBy, .ref h_isKept, .ref h_lanes, .ref h_lengths, .ref h_cells, .int torn])), (h_state, .inl (cI, 240, .inl f8))] (by subst ef8; rfl) dX5_changesOn_39 (fun H locs hX => ?_)
  obtain ⟨rfl⟩ := re1 hf
  exact hret _ _ _ _ hX dX5_changesOn_40
theorem mmX5_swap_1 : Cond.fieldLink RX5 7 "SlackArmsModel" "state" "[I" ∈ wsX5_swap := List.mem_of_getElem? (i := 1) rfl
theorem miX5_swap_X5 : ∀ w ∈ u_ws RX5 TX5 24, w ∈ wsX5_swap := fun w h => List.mem_cons_of_mem _ (List.mem_append_right _ h)
set_option maxHeartbeats 4000000 in
set_option maxRecDepth 100000 in
theorem kX5_swap (ad : xAd) (l : Launch) (D : va_G) (cI cB cZ cG cS : ClassId) (h0 h_state h_readPage h_tape h_ends h_letters h_seen h_lastBy h_isKept h_lanes h_lengths h_cells : Nat) (taped : Int32) (fault : Int32) (broken : Int32) (brokenAt : Int32) (spot : Int32) (here : Int32) (token : Int32) (value : Int32) (moved : Int32) (turned : Int32) (worst : Int32) (seenMany : Int32) (torn : Int32) (state : (Nat → Int32)) (r0 : Int32) (o_moved' : Int32) (o_turned' : Int32) (o_worst' : Int32) (o_state' : (Nat → Int32)) (p1 : Int32) (p2 : Int32) (hf : fX5_swap p1 p2 moved turned worst state = some (r0, o_moved', o_turned', o_worst', o_state')) : xMi ad l yX5_swap wsX5_swap ({ frames := 6, cells := 0, slots := 0, locals := 141 } : Room) D (xTY cI cB cZ cG cS) [.ref h0, .int p1, .int p2] [(h0, .inr (5, [.ref h_state, .ref h_readPage, .ref h_tape, .int taped, .int fault, .int broken, .int brokenAt, .int spot, .int here, .int token, .int value, .ref h_ends, .ref h_letters, .int moved, .int turned, .int worst, .ref h_seen, .int seenMany, .ref h_lastBy, .ref h_isKept, .ref h_lanes, .ref h_lengths, .ref h_cells, .int torn])), (h_state, .inl (cI, 240, .inl state))] [(h0, .inr (5, [.ref h_state, .ref h_readPage, .ref h_tape, .int taped, .int fault, .int broken, .int brokenAt, .int spot, .int here, .int token, .int value, .ref h_ends, .ref h_letters, .int o_moved', .int o_turned', .int o_worst', .ref h_seen, .int seenMany, .ref h_lastBy, .ref h_isKept, .ref h_lanes, .ref h_lengths, .ref h_cells, .int torn])), (h_state, .inl (cI, 240, .inl o_state'))] r0 := by
  refine xMi_of (cc := cX5_swap) (maxL := 8) (ty := .int) (by decide) rfl (Nat.le_of_ble_eq_true rfl) ?_
  intro p e s m args below meth c A Q ls C hX hl hret
  have hx := C.1.1
  have hb := C.1.2.1
  have hl : lv_has ls 8 [(0, .ref h0), (1, .int p1), (2, .int p2)] := hl
  have L151 : ∀ (k33 : Int32 → Int32 → Int32 → Int32 → Int32 → Int32 → Int32 → Int32 → (Nat → Int32) → Option (Int32 × Int32 × Int32 × Int32 × (Nat → Int32))) (hk33 : ∀ (x1 : Int32) (x2 : Int32) (x3 : Int32) (x4 : Int32) (x5 : Int32) (moved : Int32) (turned : Int32) (worst : Int32) (state : (Nat → Int32)) (H : Heap) (locs : List Loc) (ls : Array Slot), k33 x1 x2 x3 x4 x5 moved turned worst state = some (r0, o_moved', o_turned', o_worst', o_state') → xSt A s D [(h0, .inr (5, [.ref h_state, .ref h_readPage, .ref h_tape, .int taped, .int fault, .int broken, .int brokenAt, .int spot, .int here, .int token, .int value, .ref h_ends, .ref h_letters, .int moved, .int turned, .int worst, .ref h_seen, .int seenMany, .ref h_lastBy, .ref h_isKept, .ref h_lanes, .ref h_lengths, .ref h_cells, .int torn])), (h_state, .inl (cI, 240, .inl state))] H locs → lv_has ls 8 [(0, .ref h0), (1, .int x1), (2, .int x2), (3, .int x3), (4, .int x4), (5, .int x5)] → W p l e ({ frames := 6, cells := 0, slots := 0, locals := 141 } : Room) s m args below meth c H locs 0 0 Q (F0 m 33 ls [])) (k51 : Int32 → Int32 → Int32 → Int32 → Int32 → Int32 → Int32 → Int32 → Int32 → (Nat → Int32) → Option (Int32 × Int32 × Int32 × Int32 × (Nat → Int32))) (hk51 : ∀ (x1 : Int32) (x2 : Int32) (x3 : Int32) (x4 : Int32) (x5 : Int32) (x6 : Int32) (moved : Int32) (turned : Int32) (worst : Int32) (state : (Nat → Int32)) (H : Heap) (locs : List Loc) (ls : Array Slot), k51 x1 x2 x3 x4 x5 x6 moved turned worst state = some (r0, o_moved', o_turned', o_worst', o_state') → xSt A s D [(h0, .inr (5, [.ref h_state, .ref h_readPage, .ref h_tape, .int taped, .int fault, .int broken, .int brokenAt, .int spot, .int here, .int token, .int value, .ref h_ends, .ref h_letters, .int moved, .int turned, .int worst, .ref h_seen, .int seenMany, .ref h_lastBy, .ref h_isKept, .ref h_lanes, .ref h_lengths, .ref h_cells, .int torn])), (h_state, .inl (cI, 240, .inl state))] H locs → lv_has ls 8 [(0, .ref h0), (1, .int x1), (2, .int x2), (3, .int x3), (4, .int x4), (5, .int x5), (6, .int x6)] → W p l e ({ frames := 6, cells := 0, slots := 0, locals := 141 } : Room) s m args below meth c H locs 0 0 Q (F0 m 51 ls [])), ∀ (x1 : Int32) (x2 : Int32) (x4 : Int32) (x5 : Int32) (x6 : Int32) (y0 : Int32) (moved : Int32) (turned : Int32) (worst : Int32) (state : (Nat → Int32)) (H : Heap) (locs : List Loc) (ls : Array Slot), fX5_swap_L151  k33 k51 x1 x2 x4 x5 x6 y0 moved turned worst state = some (r0, o_moved', o_turned', o_worst', o_state') → xSt A s D [(h0, .inr (5, [.ref h_state, .ref h_readPage, .ref h_tape, .int taped, .int fault, .int broken, .int brokenAt, .int spot, .int here, .int token, .int value, .ref h_ends, .ref h_letters, .int moved, .int turned, .int worst, .ref h_seen, .int seenMany, .ref h_lastBy, .ref h_isKept, .ref h_lanes, .ref h_lengths, .ref h_cells, .int torn])), (h_state, .inl (cI, 240, .inl state))] H locs → lv_has ls 8 [(0, .ref h0), (1, .int x1), (2, .int x2), (4, .int x4), (5, .int x5), (6, .int x6)] → W p l e ({ frames := 6, cells := 0, slots := 0, locals := 141 } : Room) s m args below meth c H locs 0 0 Q (F0 m 151 ls [.int y0]) := by
    intro k33 hk33 k51 hk51 x1 x2 x4 x5 x6 y0 moved turned worst state H locs ls hf hX hl
    unfold fX5_swap_L151 at hf
    refine lv_istore_n (pc := 151) (lv' := [(3, .int y0), (0, .ref h0), (1, .int x1), (2, .int x2), (4, .int x4), (5, .int x5), (6, .int x6)]) hx hb dX5_swap_151 rfl hl (by decide) rfl (fun ls hl => ?_)
    obtain ⟨v37, ev37⟩ : ∃ y : Int32, y = (x6 + (1 : Int32)) := ⟨_, rfl⟩
    replace hf := bnd_use ev37 hf
    refine lv_iinc (pc := 152) (v := v37) (lv' := [(6, .int v37), (3, .int y0), (0, .ref h0), (1, .int x1), (2, .int x2), (4, .int x4), (5, .int x5)]) hx hb dX5_swap_152 hl (k := 6) rfl (by rw [ev37]; rfl) (by decide) rfl (fun ls hl => ?_)
    refine lv_goto (pc := 155) (tgt := 51) hx hb dX5_swap_155 (by decide) ?_
    exact hk51 x1 x2 y0 x4 x5 v37 moved turned worst state _ _ _ hf hX (lv_sub hl [2, 3, 4, 1, 5, 6, 0] rfl)
  have L137 : ∀ (k33 : Int32 → Int32 → Int32 → Int32 → Int32 → Int32 → Int32 → Int32 → (Nat → Int32) → Option (Int32 × Int32 × Int32 × Int32 × (Nat → Int32))) (hk33 : ∀ (x1 : Int32) (x2 : Int32) (x3 : Int32) (x4 : Int32) (x5 : Int32) (moved : Int32) (turned : Int32) (worst : Int32) (state : (Nat → Int32)) (H : Heap) (locs : List Loc) (ls : Array Slot), k33 x1 x2 x3 x4 x5 moved turned worst state = some (r0, o_moved', o_turned', o_worst', o_state') → xSt A s D [(h0, .inr (5, [.ref h_state, .ref h_readPage, .ref h_tape, .int taped, .int fault, .int broken, .int brokenAt, .int spot, .int here, .int token, .int value, .ref h_ends, .ref h_letters, .int moved, .int turned, .int worst, .ref h_seen, .int seenMany, .ref h_lastBy, .ref h_isKept, .ref h_lanes, .ref h_lengths, .ref h_cells, .int torn])), (h_state, .inl (cI, 240, .inl state))] H locs → lv_has ls 8 [(0, .ref h0), (1, .int x1), (2, .int x2), (3, .int x3), (4, .int x4), (5, .int x5)] → W p l e ({ frames := 6, cells := 0, slots := 0, locals := 141 } : Room) s m args below meth c H locs 0 0 Q (F0 m 33 ls [])) (k51 : Int32 → Int32 → Int32 → Int32 → Int32 → Int32 → Int32 → Int32 → Int32 → (Nat → Int32) → Option (Int32 × Int32 × Int32 × Int32 × (Nat → Int32))) (hk51 : ∀ (x1 : Int32) (x2 : Int32) (x3 : Int32) (x4 : Int32) (x5 : Int32) (x6 : Int32) (moved : Int32) (turned : Int32) (worst : Int32) (state : (Nat → Int32)) (H : Heap) (locs : List Loc) (ls : Array Slot), k51 x1 x2 x3 x4 x5 x6 moved turned worst state = some (r0, o_moved', o_turned', o_worst', o_state') → xSt A s D [(h0, .inr (5, [.ref h_state, .ref h_readPage, .ref h_tape, .int taped, .int fault, .int broken, .int brokenAt, .int spot, .int here, .int token, .int value, .ref h_ends, .ref h_letters, .int moved, .int turned, .int worst, .ref h_seen, .int seenMany, .ref h_lastBy, .ref h_isKept, .ref h_lanes, .ref h_lengths, .ref h_cells, .int torn])), (h_state, .inl (cI, 240, .inl state))] H locs → lv_has ls 8 [(0, .ref h0), (1, .int x1), (2, .int x2), (3, .int x3), (4, .int x4), (5, .int x5), (6, .int x6)] → W p l e ({ frames := 6, cells := 0, slots := 0, locals := 141 } : Room) s m args below meth c H locs 0 0 Q (F0 m 51 ls [])), ∀ (x1 : Int32) (x2 : Int32) (x3 : Int32) (x5 : Int32) (x6 : Int32) (x7 : Int32) (y0 : Int32) (moved : Int32) (turned : Int32) (worst : Int32) (state : (Nat → Int32)) (H : Heap) (locs : List Loc) (ls : Array Slot), fX5_swap_L137  k33 k51 x1 x2 x3 x5 x6 x7 y0 moved turned worst state = some (r0, o_moved', o_turned', o_worst', o_state') → xSt A s D [(h0, .inr (5, [.ref h_state, .ref h_readPage, .ref h_tape, .int taped, .int fault, .int broken, .int brokenAt, .int spot, .int here, .int token, .int value, .ref h_ends, .ref h_letters, .int moved, .int turned, .int worst, .ref h_seen, .int seenMany, .ref h_lastBy, .ref h_isKept, .ref h_lanes, .ref h_lengths, .ref h_cells, .int torn])), (h_state, .inl (cI, 240, .inl state))] H locs → lv_has ls 8 [(0, .ref h0), (1, .int x1), (2, .int x2), (3, .int x3), (5, .int x5), (6, .int x6), (7, .int x7)] → W p l e ({ frames := 6, cells := 0, slots := 0, locals := 141 } : Room) s m args below meth c H locs 0 0 Q (F0 m 137 ls [.int y0]) := by
    intro k33 hk33 k51 hk51 x1 x2 x3 x5 x6 x7 y0 moved turned worst state H locs ls hf hX hl
    unfold fX5_swap_L137 at hf
    refine lv_istore (pc := 137) (lv' := [(4, .int y0), (0, .ref h0), (1, .int x1), (2, .int x2), (3, .int x3), (5, .int x5), (6, .int x6), (7, .int x7)]) hx hb dX5_swap_137 hl (by decide) rfl (fun ls hl => ?_)
    refine lv_iload (pc := 139) hx hb dX5_swap_139 (lv_at hl 7 rfl) ?_
    refine lv_iload_n (pc := 141) hx hb dX5_swap_141 rfl (lv_at hl 4 rfl) ?_
    refine lv_icmp_ge (pc := 142) (tgt := 150) hx hb dX5_swap_142 (by decide) (fun c36 => ?_) (fun c36 => ?_)
    · replace hf := ite_t c36 hf
      refine lv_iload_n (pc := 150) hx hb dX5_swap_150 rfl (lv_at hl 4 rfl) ?_
      exact L151 (k33) hk33 (k51) hk51 x1 x2 y0 x5 x6 x3 moved turned worst state _ _ _ hf hX (lv_sub hl [1, 2, 3, 0, 5, 6] rfl)
    · replace hf := ite_f c36 hf
      refine lv_iload (pc := 145) hx hb dX5_swap_145 (lv_at hl 7 rfl) ?_
      refine lv_goto (pc := 147) (tgt := 151) hx hb dX5_swap_147 (by decide) ?_
      exact L151 (k33) hk33 (k51) hk51 x1 x2 y0 x5 x6 x7 moved turned worst state _ _ _ hf hX (lv_sub hl [1, 2, 3, 0, 5, 6] rfl)
  have L51 : ∀ (k33 : Int32 → Int32 → Int32 → Int32 → Int32 → Int32 → Int32 → Int32 → (Nat → Int32) → Option (Int32 × Int32 × Int32 × Int32 × (Nat → Int32))) (hk33 : ∀ (x1 : Int32) (x2 : Int32) (x3 : Int32) (x4 : Int32) (x5 : Int32) (moved : Int32) (turned : Int32) (worst : Int32) (state : (Nat → Int32)) (H : Heap) (locs : List Loc) (ls : Array Slot), k33 x1 x2 x3 x4 x5 moved turned worst state = some (r0, o_moved', o_turned', o_worst', o_state') → xSt A s D [(h0, .inr (5, [.ref h_state, .ref h_readPage, .ref h_tape, .int taped, .int fault, .int broken, .int brokenAt, .int spot, .int here, .int token, .int value, .ref h_ends, .ref h_letters, .int moved, .int turned, .int worst, .ref h_seen, .int seenMany, .ref h_lastBy, .ref h_isKept, .ref h_lanes, .ref h_lengths, .ref h_cells, .int torn])), (h_state, .inl (cI, 240, .inl state))] H locs → lv_has ls 8 [(0, .ref h0), (1, .int x1), (2, .int x2), (3, .int x3), (4, .int x4), (5, .int x5)] → W p l e ({ frames := 6, cells := 0, slots := 0, locals := 141 } : Room) s m args below meth c H locs 0 0 Q (F0 m 33 ls [])) (n : Nat), ∀ (x1 : Int32) (x2 : Int32) (x3 : Int32) (x4 : Int32) (x5 : Int32) (x6 : Int32) (moved : Int32) (turned : Int32) (worst : Int32) (state : (Nat → Int32)) (H : Heap) (locs : List Loc) (ls : Array Slot), fX5_swap_L51  k33 n x1 x2 x3 x4 x5 x6 moved turned worst state = some (r0, o_moved', o_turned', o_worst', o_state') → xSt A s D [(h0, .inr (5, [.ref h_state, .ref h_readPage, .ref h_tape, .int taped, .int fault, .int broken, .int brokenAt, .int spot, .int here, .int token, .int value, .ref h_ends, .ref h_letters, .int moved, .int turned, .int worst, .ref h_seen, .int seenMany, .ref h_lastBy, .ref h_isKept, .ref h_lanes, .ref h_lengths, .ref h_cells, .int torn])), (h_state, .inl (cI, 240, .inl state))] H locs → lv_has ls 8 [(0, .ref h0), (1, .int x1), (2, .int x2), (3, .int x3), (4, .int x4), (5, .int x5), (6, .int x6)] → W p l e ({ frames := 6, cells := 0, slots := 0, locals := 141 } : Room) s m args below meth c H locs 0 0 Q (F0 m 51 ls []) := by
    intro k33 hk33
    intro n
    induction n with
    | zero =>
      intro x1 x2 x3 x4 x5 x6 moved turned worst state H locs ls hf
      rw [fX5_swap_L51] at hf
      cases hf
    | succ n ih =>
      intro x1 x2 x3 x4 x5 x6 moved turned worst state H locs ls hf hX hl
      rw [fX5_swap_L51] at hf
      refine lv_iload (pc := 51) hx hb dX5_swap_51 (lv_at hl 6 rfl) ?_
      refine lv_aload_n (pc := 53) hx hb dX5_swap_53 rfl (lv_at hl 0 rfl) ?_
      refine x_getf (pc := 54) (Cn := RX5) (T := TX5) (N := 24) C hX 0 rfl rfl miX5_swap_X5 0 (by decide) mmX5_swap_1 rfl dX5_swap_54 ?_
      refine lv_bipush (pc := 57) (v := 20) hx hb dX5_swap_57 (by decide) ?_
      replace hf := chk_adv hf
      have i18 := hf.1
      replace hf := hf.2
      refine x_iald (pc := 59) C hX 1 0 rfl rfl i18 dX5_swap_59 ?_
      refine lv_icmp_ge (pc := 60) (tgt := 158) hx hb dX5_swap_60 (by decide) (fun c19 => ?_) (fun c19 => ?_)
      · replace hf := ite_t c19 hf
        obtain ⟨v20, ev20⟩ : ∃ y : Int32, y = (x5 + (1 : Int32)) := ⟨_, rfl⟩
        replace hf := bnd_use ev20 hf
        refine lv_iinc (pc := 158) (v := v20) (lv' := [(5, .int v20), (0, .ref h0), (1, .int x1), (2, .int x2), (3, .int x3), (4, .int x4), (6, .int x6)]) hx hb dX5_swap_158 hl (k := 5) rfl (by rw [ev20]; rfl) (by decide) rfl (fun ls hl => ?_)
        refine lv_goto (pc := 161) (tgt := 33) hx hb dX5_swap_161 (by decide) ?_
        exact hk33 x1 x2 x3 x4 v20 moved turned worst state _ _ _ hf hX (lv_sub hl [1, 2, 3, 4, 5, 0] rfl)
      · replace hf := ite_f c19 hf
        refine lv_aload_n (pc := 63) hx hb dX5_swap_63 rfl (lv_at hl 0 rfl) ?_
        refine lv_iconst (pc := 64) (v := 0) hx hb dX5_swap_64 (by decide) ?_
        refine lv_sipush (pc := 65) (v := 200) hx hb dX5_swap_65 (by decide) ?_
        obtain ⟨u21, g22, hf⟩ := cl1_adv hf
        refine x_callVv (pc := 68) (rest := []) (w2 := [(h0, .inr (5, [.ref h_state, .ref h_readPage, .ref h_tape, .int taped, .int fault, .int broken, .int brokenAt, .int spot, .int here, .int token, .int value, .ref h_ends, .ref h_letters, .int moved, .int turned, .int worst, .ref h_seen, .int seenMany, .ref h_lastBy, .ref h_isKept, .ref h_lanes, .ref h_lengths, .ref h_cells, .int torn])), (h_state, .inl (cI, 240, .inl u21))]) C hX (kX5_copies ad l D cI cB cZ cG cS h0 h_state h_readPage h_tape h_ends h_letters h_seen h_lastBy h_isKept h_lanes h_lengths h_cells taped fault broken brokenAt spot here token value moved turned worst seenMany torn state u21 (0 : Int32) (200 : Int32) g22) (cwV 2 C.1.2.2.2.2 gX5_swap_X5_copies rfl rfl rfl (by decide +kernel) ⟨Nat.le_of_ble_eq_true rfl, Nat.le_of_ble_eq_true rfl⟩) [0, 1] [] [0, 1] rfl rfl rfl rfl (by decide) rfl rfl 0 rfl rfl rfl hl.1 rfl rfl (Nat.le_of_ble_eq_true rfl) dX5_swap_68 (fun H locs hX => ?_)
        refine lv_aload_n (pc := 71) hx hb dX5_swap_71 rfl (lv_at hl 0 rfl) ?_
        refine lv_sipush (pc := 72) (v := 200) hx hb dX5_swap_72 (by decide) ?_
        refine lv_iload (pc := 75) hx hb dX5_swap_75 (lv_at hl 5 rfl) ?_
        refine lv_iload (pc := 77) hx hb dX5_swap_77 (lv_at hl 6 rfl) ?_
        refine lv_iconst (pc := 79) (v := 0) hx hb dX5_swap_79 (by decide) ?_
        obtain ⟨u23, g24, hf⟩ := cl1_adv hf
        refine x_callVv (pc := 80) (rest := []) (w2 := [(h0, .inr (5, [.ref h_state, .ref h_readPage, .ref h_tape, .int taped, .int fault, .int broken, .int brokenAt, .int spot, .int here, .int token, .int value, .ref h_ends, .ref h_letters, .int moved, .int turned, .int worst, .ref h_seen, .int seenMany, .ref h_lastBy, .ref h_isKept, .ref h_lanes, .ref h_lengths, .ref h_cells, .int torn])), (h_state, .inl (cI, 240, .inl u23))]) C hX (kX5_changesOn ad l D cI cB cZ cG cS h0 h_state h_readPage h_tape h_ends h_letters h_seen h_lastBy h_isKept h_lanes h_lengths h_cells taped fault broken brokenAt spot here token value moved turned worst seenMany torn u21 u23 (200 : Int32) x5 x6 (0 : Int32) g24) (cwV 4 C.1.2.2.2.2 gX5_swap_X5_changesOn rfl rfl rfl (by decide +kernel) ⟨Nat.le_of_ble_eq_true rfl, Nat.le_of_ble_eq_true rfl⟩) [0, 1] [] [0, 1] rfl rfl rfl rfl (by decide) rfl rfl 0 rfl rfl rfl hl.1 rfl rfl (Nat.le_of_ble_eq_true rfl) dX5_swap_80 (fun H locs hX => ?_)
        refine lv_aload_n (pc := 83) hx hb dX5_swap_83 rfl (lv_at hl 0 rfl) ?_
        refine lv_sipush (pc := 84) (v := 200) hx hb dX5_swap_84 (by decide) ?_
        refine lv_iload (pc := 87) hx hb dX5_swap_87 (lv_at hl 5 rfl) ?_
        refine lv_iload (pc := 89) hx hb dX5_swap_89 (lv_at hl 6 rfl) ?_
        refine lv_iconst (pc := 91) (v := 4) hx hb dX5_swap_91 (by decide) ?_
        obtain ⟨u25, g26, hf⟩ := cl1_adv hf
        refine x_callVv (pc := 92) (rest := []) (w2 := [(h0, .inr (5, [.ref h_state, .ref h_readPage, .ref h_tape, .int taped, .int fault, .int broken, .int brokenAt, .int spot, .int here, .int token, .int value, .ref h_ends, .ref h_letters, .int moved, .int turned, .int worst, .ref h_seen, .int seenMany, .ref h_lastBy, .ref h_isKept, .ref h_lanes, .ref h_lengths, .ref h_cells, .int torn])), (h_state, .inl (cI, 240, .inl u25))]) C hX (kX5_changesOn ad l D cI cB cZ cG cS h0 h_state h_readPage h_tape h_ends h_letters h_seen h_lastBy h_isKept h_lanes h_lengths h_cells taped fault broken brokenAt spot here token value moved turned worst seenMany torn u23 u25 (200 : Int32) x5 x6 (4 : Int32) g26) (cwV 4 C.1.2.2.2.2 gX5_swap_X5_changesOn rfl rfl rfl (by decide +kernel) ⟨Nat.le_of_ble_eq_true rfl, Nat.le_of_ble_eq_true rfl⟩) [0, 1] [] [0, 1] rfl rfl rfl rfl (by decide) rfl rfl 0 rfl rfl rfl hl.1 rfl rfl (Nat.le_of_ble_eq_true rfl) dX5_swap_92 (fun H locs hX => ?_)
        refine lv_aload_n (pc := 95) hx hb dX5_swap_95 rfl (lv_at hl 0 rfl) ?_
        refine lv_sipush (pc := 96) (v := 200) hx hb dX5_swap_96 (by decide) ?_
        refine lv_iload (pc := 99) hx hb dX5_swap_99 (lv_at hl 5 rfl) ?_
        refine lv_iload (pc := 101) hx hb dX5_swap_101 (lv_at hl 6 rfl) ?_
        refine lv_bipush (pc := 103) (v := 12) hx hb dX5_swap_103 (by decide) ?_
        obtain ⟨u27, g28, hf⟩ := cl1_adv hf
        refine x_callVv (pc := 105) (rest := []) (w2 := [(h0, .inr (5, [.ref h_state, .ref h_readPage, .ref h_tape, .int taped, .int fault, .int broken, .int brokenAt, .int spot, .int here, .int token, .int value, .ref h_ends, .ref h_letters, .int moved, .int turned, .int worst, .ref h_seen, .int seenMany, .ref h_lastBy, .ref h_isKept, .ref h_lanes, .ref h_lengths, .ref h_cells, .int torn])), (h_state, .inl (cI, 240, .inl u27))]) C hX (kX5_changesOn ad l D cI cB cZ cG cS h0 h_state h_readPage h_tape h_ends h_letters h_seen h_lastBy h_isKept h_lanes h_lengths h_cells taped fault broken brokenAt spot here token value moved turned worst seenMany torn u25 u27 (200 : Int32) x5 x6 (12 : Int32) g28) (cwV 4 C.1.2.2.2.2 gX5_swap_X5_changesOn rfl rfl rfl (by decide +kernel) ⟨Nat.le_of_ble_eq_true rfl, Nat.le_of_ble_eq_true rfl⟩) [0, 1] [] [0, 1] rfl rfl rfl rfl (by decide) rfl rfl 0 rfl rfl rfl hl.1 rfl rfl (Nat.le_of_ble_eq_true rfl) dX5_swap_105 (fun H locs hX => ?_)
        refine lv_aload_n (pc := 108) hx hb dX5_swap_108 rfl (lv_at hl 0 rfl) ?_
        refine lv_sipush (pc := 109) (v := 200) hx hb dX5_swap_109 (by decide) ?_
        refine lv_iload_n (pc := 112) hx hb dX5_swap_112 rfl (lv_at hl 1 rfl) ?_
        obtain ⟨r29, u30, u31, u32, u33, g34, hf⟩ := cl5_adv hf
        refine x_callVi (pc := 113) (rest := []) (w2 := [(h0, .inr (5, [.ref h_state, .ref h_readPage, .ref h_tape, .int taped, .int fault, .int broken, .int brokenAt, .int spot, .int here, .int token, .int value, .ref h_ends, .ref h_letters, .int u30, .int u31, .int u32, .ref h_seen, .int seenMany, .ref h_lastBy, .ref h_isKept, .ref h_lanes, .ref h_lengths, .ref h_cells, .int torn])), (h_state, .inl (cI, 240, .inl u33))]) C hX (kX5_stepsGo ad l D cI cB cZ cG cS h0 h_state h_readPage h_tape h_ends h_letters h_seen h_lastBy h_isKept h_lanes h_lengths h_cells taped fault broken brokenAt spot here token value moved turned worst seenMany torn u27 r29 u30 u31 u32 u33 (200 : Int32) x1 g34) (cwV 2 C.1.2.2.2.2 gX5_swap_X5_stepsGo rfl rfl rfl (by decide +kernel) ⟨Nat.le_of_ble_eq_true rfl, Nat.le_of_ble_eq_true rfl⟩) [0, 1] [] [0, 1] rfl rfl rfl rfl (by decide) rfl rfl 0 rfl rfl rfl hl.1 rfl rfl (Nat.le_of_ble_eq_true rfl) dX5_swap_113 (fun H locs hX => ?_)
        refine lv_istore (pc := 116) (lv' := [(7, .int r29), (0, .ref h0), (1, .int x1), (2, .int x2), (3, .int x3), (4, .int x4), (5, .int x5), (6, .int x6)]) hx hb dX5_swap_116 hl (by decide) rfl (fun ls hl => ?_)
        refine lv_iload (pc := 118) hx hb dX5_swap_118 (lv_at hl 0 rfl) ?_
        refine lv_iload_n (pc := 120) hx hb dX5_swap_120 rfl (lv_at hl 4 rfl) ?_
        refine lv_icmp_ge (pc := 121) (tgt := 135) hx hb dX5_swap_121 (by decide) (fun c35 => ?_) (fun c35 => ?_)
        · replace hf := ite_t c35 hf
          refine lv_iload (pc := 135) hx hb dX5_swap_135 (lv_at hl 5 rfl) ?_
          exact L137 (k33) hk33 (fX5_swap_L51  k33 n) ih x1 x2 x3 x5 x6 r29 x4 u30 u31 u32 u33 _ _ _ hf hX (lv_sub hl [1, 2, 3, 4, 6, 7, 0] rfl)
        · replace hf := ite_f c35 hf
          refine lv_bipush (pc := 124) (v := 10) hx hb dX5_swap_124 (by decide) ?_
          refine lv_iload (pc := 126) hx hb dX5_swap_126 (lv_at hl 6 rfl) ?_
          refine lv_imul (pc := 128) hx hb dX5_swap_128 ?_
          refine lv_iload (pc := 129) hx hb dX5_swap_129 (lv_at hl 7 rfl) ?_
          refine lv_iadd (pc := 131) hx hb dX5_swap_131 ?_
          refine lv_goto (pc := 132) (tgt := 137) hx hb dX5_swap_132 (by decide) ?_
          exact L137 (k33) hk33 (fX5_swap_L51  k33 n) ih x1 x2 x3 x5 x6 r29 (((10 : Int32) * x5) + x6) u30 u31 u32 u33 _ _ _ hf hX (lv_sub hl [1, 2, 3, 4, 6, 7, 0] rfl)
  have L33 : ∀ (n : Nat), ∀ (x1 : Int32) (x2 : Int32) (x3 : Int32) (x4 : Int32) (x5 : Int32) (moved : Int32) (turned : Int32) (worst : Int32) (state : (Nat → Int32)) (H : Heap) (locs : List Loc) (ls : Array Slot), fX5_swap_L33  n x1 x2 x3 x4 x5 moved turned worst state = some (r0, o_moved', o_turned', o_worst', o_state') → xSt A s D [(h0, .inr (5, [.ref h_state, .ref h_readPage, .ref h_tape, .int taped, .int fault, .int broken, .int brokenAt, .int spot, .int here, .int token, .int value, .ref h_ends, .ref h_letters, .int moved, .int turned, .int worst, .ref h_seen, .int seenMany, .ref h_lastBy, .ref h_isKept, .ref h_lanes, .ref h_lengths, .ref h_cells, .int torn])), (h_state, .inl (cI, 240, .inl state))] H locs → lv_has ls 8 [(0, .ref h0), (1, .int x1), (2, .int x2), (3, .int x3), (4, .int x4), (5, .int x5)] → W p l e ({ frames := 6, cells := 0, slots := 0, locals := 141 } : Room) s m args below meth c H locs 0 0 Q (F0 m 33 ls []) := by
    intro n
    induction n with
    | zero =>
      intro x1 x2 x3 x4 x5 moved turned worst state H locs ls hf
      rw [fX5_swap_L33] at hf
      cases hf
    | succ n ih =>
      intro x1 x2 x3 x4 x5 moved turned worst state H locs ls hf hX hl
      rw [fX5_swap_L33] at hf
      refine lv_iload (pc := 33) hx hb dX5_swap_33 (lv_at hl 5 rfl) ?_
      refine lv_aload_n (pc := 35) hx hb dX5_swap_35 rfl (lv_at hl 0 rfl) ?_
      refine x_getf (pc := 36) (Cn := RX5) (T := TX5) (N := 24) C hX 0 rfl rfl miX5_swap_X5 0 (by decide) mmX5_swap_1 rfl dX5_swap_36 ?_
      refine lv_bipush (pc := 39) (v := 20) hx hb dX5_swap_39 (by decide) ?_
      replace hf := chk_adv hf
      have i13 := hf.1
      replace hf := hf.2
      refine x_iald (pc := 41) C hX 1 0 rfl rfl i13 dX5_swap_41 ?_
      refine lv_icmp_ge (pc := 42) (tgt := 164) hx hb dX5_swap_42 (by decide) (fun c14 => ?_) (fun c14 => ?_)
      · replace hf := ite_t c14 hf
        refine lv_iload (pc := 164) hx hb dX5_swap_164 (lv_at hl 4 rfl) ?_
        refine lv_bipush (pc := 166) (v := -4) hx hb dX5_swap_166 (by decide) ?_
        refine lv_icmp_eq (pc := 168) (tgt := 175) hx hb dX5_swap_168 (by decide) (fun c15 => ?_) (fun c15 => ?_)
        · replace hf := ite_t c15 hf
          refine lv_iload (pc := 175) hx hb dX5_swap_175 (lv_at hl 4 rfl) ?_
          refine lv_goto (pc := 177) (tgt := 181) hx hb dX5_swap_177 (by decide) ?_
          obtain ⟨rfl, rfl, rfl, rfl, rfl⟩ := re5 hf
          exact hret _ _ _ _ _ rfl rfl hX dX5_swap_181
        · replace hf := ite_f c15 hf
          refine lv_iload_n (pc := 171) hx hb dX5_swap_171 rfl (lv_at hl 2 rfl) ?_
          refine lv_if_ne (pc := 172) (tgt := 180) hx hb dX5_swap_172 (by decide) (fun c16 => ?_) (fun c16 => ?_)
          · replace hf := ite_f c16 hf
            refine lv_iload_n (pc := 180) hx hb dX5_swap_180 rfl (lv_at hl 3 rfl) ?_
            obtain ⟨rfl, rfl, rfl, rfl, rfl⟩ := re5 hf
            exact hret _ _ _ _ _ rfl rfl hX dX5_swap_181
          · replace hf := ite_t c16 hf
            refine lv_iload (pc := 175) hx hb dX5_swap_175 (lv_at hl 4 rfl) ?_
            refine lv_goto (pc := 177) (tgt := 181) hx hb dX5_swap_177 (by decide) ?_
            obtain ⟨rfl, rfl, rfl, rfl, rfl⟩ := re5 hf
            exact hret _ _ _ _ _ rfl rfl hX dX5_swap_181
      · replace hf := ite_f c14 hf
        refine lv_iload (pc := 45) hx hb dX5_swap_45 (lv_at hl 5 rfl) ?_
        refine lv_iconst (pc := 47) (v := 1) hx hb dX5_swap_47 (by decide) ?_
        refine lv_iadd (pc := 48) hx hb dX5_swap_48 ?_
        refine lv_topi (fun v17 ev17 => ?_)
        replace hf := bnd_use ev17 hf
        refine lv_istore (pc := 49) (lv' := [(6, .int v17), (0, .ref h0), (1, .int x1), (2, .int x2), (3, .int x3), (4, .int x4), (5, .int x5)]) hx hb dX5_swap_49 hl (by decide) rfl (fun ls hl => ?_)
        exact L51 (fX5_swap_L33  n) ih xF x1 x2 x3 x4 x5 v17 moved turned worst state _ _ _ hf hX (lv_sub hl [1, 2, 3, 4, 5, 6, 0] rfl)
  unfold fX5_swap at hf
  refine lv_iload_n (pc := 0) hx hb dX5_swap_0 rfl (lv_at hl 1 rfl) ?_
  obtain ⟨r1, g2, hf⟩ := cl1_adv hf
  refine x_callSi (pc := 1) (rest := []) C hX (kX5_isLong ad l D cI cB cZ cG cS r1 p1 g2) (va_cwS 1 C.1.2.2.2.2 gX5_swap_X5_isLong rfl rfl rfl (by decide +kernel) ⟨Nat.le_of_ble_eq_true rfl, Nat.le_of_ble_eq_true rfl⟩) hl.1 rfl rfl (Nat.le_of_ble_eq_true rfl) dX5_swap_1 (fun H locs hX => ?_)
  refine lv_if_eq (pc := 4) (tgt := 17) hx hb dX5_swap_4 (by decide) (fun c3 => ?_) (fun c3 => ?_)
  · replace hf := ite_t c3 hf
    refine lv_iconst (pc := 17) (v := -1) hx hb dX5_swap_17 (by decide) ?_
    obtain ⟨rfl, rfl, rfl, rfl, rfl⟩ := re5 hf
    exact hret _ _ _ _ _ rfl rfl hX dX5_swap_18
  · replace hf := ite_f c3 hf
    refine lv_iload_n (pc := 7) hx hb dX5_swap_7 rfl (lv_at hl 2 rfl) ?_
    refine lv_i2l (pc := 8) (v := ((p2).toInt64)) hx hb dX5_swap_8 rfl ?_
    refine lv_lconst (pc := 9) (v := 0) hx hb dX5_swap_9 (by decide) ?_
    refine lv_lconst (pc := 10) (v := 1) hx hb dX5_swap_10 (by decide) ?_
    obtain ⟨r4, g5, hf⟩ := cl1_adv hf
    refine x_callSi (pc := 11) (rest := []) C hX (kX5_in ad l D cI cB cZ cG cS r4 ((p2).toInt64) (0 : Int64) (1 : Int64) g5) (va_cwS 3 C.1.2.2.2.2 gX5_swap_X5_in rfl rfl rfl (by decide +kernel) ⟨Nat.le_of_ble_eq_true rfl, Nat.le_of_ble_eq_true rfl⟩) hl.1 rfl rfl (Nat.le_of_ble_eq_true rfl) dX5_swap_11 (fun H locs hX => ?_)
    refine lv_if_ne (pc := 14) (tgt := 19) hx hb dX5_swap_14 (by decide) (fun c6 => ?_) (fun c6 => ?_)
    · replace hf := ite_f c6 hf
      refine lv_aload_n (pc := 19) hx hb dX5_swap_19 rfl (lv_at hl 0 rfl) ?_
      refine lv_iconst (pc := 20) (v := 0) hx hb dX5_swap_20 (by decide) ?_
      refine lv_iload_n (pc := 21) hx hb dX5_swap_21 rfl (lv_at hl 1 rfl) ?_
      obtain ⟨r7, u8, u9, u10, u11, g12, hf⟩ := cl5_adv hf
      refine x_callVi (pc := 22) (rest := []) (w2 := [(h0, .inr (5, [.ref h_state, .ref h_readPage, .ref h_tape, .int taped, .int fault, .int broken, .int brokenAt, .int spot, .int here, .int token, .int value, .ref h_ends, .ref h_letters, .int u8, .int u9, .int u10, .ref h_seen, .int seenMany, .ref h_lastBy, .ref h_isKept, .ref h_lanes, .ref h_lengths, .ref h_cells, .int torn])), (h_state, .inl (cI, 240, .inl u11))]) C hX (kX5_stepsGo ad l D cI cB cZ cG cS h0 h_state h_readPage h_tape h_ends h_letters h_seen h_lastBy h_isKept h_lanes h_lengths h_cells taped fault broken brokenAt spot here token value moved turned worst seenMany torn state r7 u8 u9 u10 u11 (0 : Int32) p1 g12) (cwV 2 C.1.2.2.2.2 gX5_swap_X5_stepsGo rfl rfl rfl (by decide +kernel) ⟨Nat.le_of_ble_eq_true rfl, Nat.le_of_ble_eq_true rfl⟩) [0, 1] [] [0, 1] rfl rfl rfl rfl (by decide) rfl rfl 0 rfl rfl rfl hl.1 rfl rfl (Nat.le_of_ble_eq_true rfl) dX5_swap_22 (fun H locs hX => ?_)
      refine lv_istore_n (pc := 25) (lv' := [(3, .int r7), (0, .ref h0), (1, .int p1), (2, .int p2)]) hx hb dX5_swap_25 rfl hl (by decide) rfl (fun ls hl => ?_)
      refine lv_bipush (pc := 26) (v := -4) hx hb dX5_swap_26 (by decide) ?_
      refine lv_istore (pc := 28) (lv' := [(4, .int (-4 : Int32)), (3, .int r7), (0, .ref h0), (1, .int p1), (2, .int p2)]) hx hb dX5_swap_28 hl (by decide) rfl (fun ls hl => ?_)
      refine lv_iconst (pc := 30) (v := 0) hx hb dX5_swap_30 (by decide) ?_
      refine lv_istore (pc := 31) (lv' := [(5, .int (0 : Int32)), (4, .int (-4 : Int32)), (3, .int r7), (0, .ref h0), (1, .int p1), (2, .int p2)]) hx hb dX5_swap_31 hl (by decide) rfl (fun ls hl => ?_)
      exact L33  xF p1 p2 r7 (-4 : Int32) (0 : Int32) u8 u9 u10 u11 _ _ _ hf hX (lv_sub hl [3, 4, 5, 2, 1, 0] rfl)
    · replace hf := ite_t c6 hf
      refine lv_iconst (pc := 17) (v := -1) hx hb dX5_swap_17 (by decide) ?_
      obtain ⟨rfl, rfl, rfl, rfl, rfl⟩ := re5 hf
      exact hret _ _ _ _ _ rfl rfl hX dX5_swap_18
theorem mmX5_miss_1 : Cond.fieldLink RX5 7 "SlackArmsModel" "state" "[I" ∈ wsX5_miss := List.mem_of_getElem? (i := 1) rfl
theorem miX5_miss_X5 : ∀ w ∈ u_ws RX5 TX5 24, w ∈ wsX5_miss := fun w h => List.mem_cons_of_mem _ (List.mem_append_right _ h)
set_option maxHeartbeats 4000000 in
set_option maxRecDepth 100000 in
theorem kX5_miss (ad : xAd) (l : Launch) (D : va_G) (cI cB cZ cG cS : ClassId) (h0 h_state h_readPage h_tape h_ends h_letters h_seen h_lastBy h_isKept h_lanes h_lengths h_cells : Nat) (taped : Int32) (fault : Int32) (broken : Int32) (brokenAt : Int32) (spot : Int32) (here : Int32) (token : Int32) (value : Int32) (moved : Int32) (turned : Int32) (worst : Int32) (seenMany : Int32) (torn : Int32) (state : (Nat → Int32)) (r0 : Int32) (o_moved' : Int32) (o_turned' : Int32) (o_worst' : Int32) (o_state' : (Nat → Int32)) (p1 : Int32) (p2 : Int32) (hf : fX5_miss p1 p2 moved turned worst state = some (r0, o_moved', o_turned', o_worst', o_state')) : xMi ad l yX5_miss wsX5_miss ({ frames := 6, cells := 0, slots := 0, locals := 141 } : Room) D (xTY cI cB cZ cG cS) [.ref h0, .int p1, .int p2] [(h0, .inr (5, [.ref h_state, .ref h_readPage, .ref h_tape, .int taped, .int fault, .int broken, .int brokenAt, .int spot, .int here, .int token, .int value, .ref h_ends, .ref h_letters, .int moved, .int turned, .int worst, .ref h_seen, .int seenMany, .ref h_lastBy, .ref h_isKept, .ref h_lanes, .ref h_lengths, .ref h_cells, .int torn])), (h_state, .inl (cI, 240, .inl state))] [(h0, .inr (5, [.ref h_state, .ref h_readPage, .ref h_tape, .int taped, .int fault, .int broken, .int brokenAt, .int spot, .int here, .int token, .int value, .ref h_ends, .ref h_letters, .int o_moved', .int o_turned', .int o_worst', .ref h_seen, .int seenMany, .ref h_lastBy, .ref h_isKept, .ref h_lanes, .ref h_lengths, .ref h_cells, .int torn])), (h_state, .inl (cI, 240, .inl o_state'))] r0 := by
  refine xMi_of (cc := cX5_miss) (maxL := 7) (ty := .int) (by decide) rfl (Nat.le_of_ble_eq_true rfl) ?_
  intro p e s m args below meth c A Q ls C hX hl hret
  have hx := C.1.1
  have hb := C.1.2.1
  have hl : lv_has ls 7 [(0, .ref h0), (1, .int p1), (2, .int p2)] := hl
  have L102 : ∀ (k33 : Int32 → Int32 → Int32 → Int32 → Int32 → Int32 → Int32 → Int32 → (Nat → Int32) → Option (Int32 × Int32 × Int32 × Int32 × (Nat → Int32))) (hk33 : ∀ (x1 : Int32) (x2 : Int32) (x3 : Int32) (x4 : Int32) (x5 : Int32) (moved : Int32) (turned : Int32) (worst : Int32) (state : (Nat → Int32)) (H : Heap) (locs : List Loc) (ls : Array Slot), k33 x1 x2 x3 x4 x5 moved turned worst state = some (r0, o_moved', o_turned', o_worst', o_state') → xSt A s D [(h0, .inr (5, [.ref h_state, .ref h_readPage, .ref h_tape, .int taped, .int fault, .int broken, .int brokenAt, .int spot, .int here, .int token, .int value, .ref h_ends, .ref h_letters, .int moved, .int turned, .int worst, .ref h_seen, .int seenMany, .ref h_lastBy, .ref h_isKept, .ref h_lanes, .ref h_lengths, .ref h_cells, .int torn])), (h_state, .inl (cI, 240, .inl state))] H locs → lv_has ls 7 [(0, .ref h0), (1, .int x1), (2, .int x2), (3, .int x3), (4, .int x4), (5, .int x5)] → W p l e ({ frames := 6, cells := 0, slots := 0, locals := 141 } : Room) s m args below meth c H locs 0 0 Q (F0 m 33 ls [])), ∀ (x1 : Int32) (x2 : Int32) (x4 : Int32) (x5 : Int32) (y0 : Int32) (moved : Int32) (turned : Int32) (worst : Int32) (state : (Nat → Int32)) (H : Heap) (locs : List Loc) (ls : Array Slot), fX5_miss_L102  k33 x1 x2 x4 x5 y0 moved turned worst state = some (r0, o_moved', o_turned', o_worst', o_state') → xSt A s D [(h0, .inr (5, [.ref h_state, .ref h_readPage, .ref h_tape, .int taped, .int fault, .int broken, .int brokenAt, .int spot, .int here, .int token, .int value, .ref h_ends, .ref h_letters, .int moved, .int turned, .int worst, .ref h_seen, .int seenMany, .ref h_lastBy, .ref h_isKept, .ref h_lanes, .ref h_lengths, .ref h_cells, .int torn])), (h_state, .inl (cI, 240, .inl state))] H locs → lv_has ls 7 [(0, .ref h0), (1, .int x1), (2, .int x2), (4, .int x4), (5, .int x5)] → W p l e ({ frames := 6, cells := 0, slots := 0, locals := 141 } : Room) s m args below meth c H locs 0 0 Q (F0 m 102 ls [.int y0]) := by
    intro k33 hk33 x1 x2 x4 x5 y0 moved turned worst state H locs ls hf hX hl
    unfold fX5_miss_L102 at hf
    refine lv_istore_n (pc := 102) (lv' := [(3, .int y0), (0, .ref h0), (1, .int x1), (2, .int x2), (4, .int x4), (5, .int x5)]) hx hb dX5_miss_102 rfl hl (by decide) rfl (fun ls hl => ?_)
    obtain ⟨v29, ev29⟩ : ∃ y : Int32, y = (x5 + (1 : Int32)) := ⟨_, rfl⟩
    replace hf := bnd_use ev29 hf
    refine lv_iinc (pc := 103) (v := v29) (lv' := [(5, .int v29), (3, .int y0), (0, .ref h0), (1, .int x1), (2, .int x2), (4, .int x4)]) hx hb dX5_miss_103 hl (k := 5) rfl (by rw [ev29]; rfl) (by decide) rfl (fun ls hl => ?_)
    refine lv_goto (pc := 106) (tgt := 33) hx hb dX5_miss_106 (by decide) ?_
    exact hk33 x1 x2 y0 x4 v29 moved turned worst state _ _ _ hf hX (lv_sub hl [2, 3, 4, 1, 5, 0] rfl)
  have L88 : ∀ (k33 : Int32 → Int32 → Int32 → Int32 → Int32 → Int32 → Int32 → Int32 → (Nat → Int32) → Option (Int32 × Int32 × Int32 × Int32 × (Nat → Int32))) (hk33 : ∀ (x1 : Int32) (x2 : Int32) (x3 : Int32) (x4 : Int32) (x5 : Int32) (moved : Int32) (turned : Int32) (worst : Int32) (state : (Nat → Int32)) (H : Heap) (locs : List Loc) (ls : Array Slot), k33 x1 x2 x3 x4 x5 moved turned worst state = some (r0, o_moved', o_turned', o_worst', o_state') → xSt A s D [(h0, .inr (5, [.ref h_state, .ref h_readPage, .ref h_tape, .int taped, .int fault, .int broken, .int brokenAt, .int spot, .int here, .int token, .int value, .ref h_ends, .ref h_letters, .int moved, .int turned, .int worst, .ref h_seen, .int seenMany, .ref h_lastBy, .ref h_isKept, .ref h_lanes, .ref h_lengths, .ref h_cells, .int torn])), (h_state, .inl (cI, 240, .inl state))] H locs → lv_has ls 7 [(0, .ref h0), (1, .int x1), (2, .int x2), (3, .int x3), (4, .int x4), (5, .int x5)] → W p l e ({ frames := 6, cells := 0, slots := 0, locals := 141 } : Room) s m args below meth c H locs 0 0 Q (F0 m 33 ls [])), ∀ (x1 : Int32) (x2 : Int32) (x3 : Int32) (x5 : Int32) (x6 : Int32) (y0 : Int32) (moved : Int32) (turned : Int32) (worst : Int32) (state : (Nat → Int32)) (H : Heap) (locs : List Loc) (ls : Array Slot), fX5_miss_L88  k33 x1 x2 x3 x5 x6 y0 moved turned worst state = some (r0, o_moved', o_turned', o_worst', o_state') → xSt A s D [(h0, .inr (5, [.ref h_state, .ref h_readPage, .ref h_tape, .int taped, .int fault, .int broken, .int brokenAt, .int spot, .int here, .int token, .int value, .ref h_ends, .ref h_letters, .int moved, .int turned, .int worst, .ref h_seen, .int seenMany, .ref h_lastBy, .ref h_isKept, .ref h_lanes, .ref h_lengths, .ref h_cells, .int torn])), (h_state, .inl (cI, 240, .inl state))] H locs → lv_has ls 7 [(0, .ref h0), (1, .int x1), (2, .int x2), (3, .int x3), (5, .int x5), (6, .int x6)] → W p l e ({ frames := 6, cells := 0, slots := 0, locals := 141 } : Room) s m args below meth c H locs 0 0 Q (F0 m 88 ls [.int y0]) := by
    intro k33 hk33 x1 x2 x3 x5 x6 y0 moved turned worst state H locs ls hf hX hl
    unfold fX5_miss_L88 at hf
    refine lv_istore (pc := 88) (lv' := [(4, .int y0), (0, .ref h0), (1, .int x1), (2, .int x2), (3, .int x3), (5, .int x5), (6, .int x6)]) hx hb dX5_miss_88 hl (by decide) rfl (fun ls hl => ?_)
    refine lv_iload (pc := 90) hx hb dX5_miss_90 (lv_at hl 6 rfl) ?_
    refine lv_iload_n (pc := 92) hx hb dX5_miss_92 rfl (lv_at hl 4 rfl) ?_
    refine lv_icmp_ge (pc := 93) (tgt := 101) hx hb dX5_miss_93 (by decide) (fun c28 => ?_) (fun c28 => ?_)
    · replace hf := ite_t c28 hf
      refine lv_iload_n (pc := 101) hx hb dX5_miss_101 rfl (lv_at hl 4 rfl) ?_
      exact L102 (k33) hk33 x1 x2 y0 x5 x3 moved turned worst state _ _ _ hf hX (lv_sub hl [1, 2, 3, 0, 5] rfl)
    · replace hf := ite_f c28 hf
      refine lv_iload (pc := 96) hx hb dX5_miss_96 (lv_at hl 6 rfl) ?_
      refine lv_goto (pc := 98) (tgt := 102) hx hb dX5_miss_98 (by decide) ?_
      exact L102 (k33) hk33 x1 x2 y0 x5 x6 moved turned worst state _ _ _ hf hX (lv_sub hl [1, 2, 3, 0, 5] rfl)
  have L33 : ∀ (n : Nat), ∀ (x1 : Int32) (x2 : Int32) (x3 : Int32) (x4 : Int32) (x5 : Int32) (moved : Int32) (turned : Int32) (worst : Int32) (state : (Nat → Int32)) (H : Heap) (locs : List Loc) (ls : Array Slot), fX5_miss_L33  n x1 x2 x3 x4 x5 moved turned worst state = some (r0, o_moved', o_turned', o_worst', o_state') → xSt A s D [(h0, .inr (5, [.ref h_state, .ref h_readPage, .ref h_tape, .int taped, .int fault, .int broken, .int brokenAt, .int spot, .int here, .int token, .int value, .ref h_ends, .ref h_letters, .int moved, .int turned, .int worst, .ref h_seen, .int seenMany, .ref h_lastBy, .ref h_isKept, .ref h_lanes, .ref h_lengths, .ref h_cells, .int torn])), (h_state, .inl (cI, 240, .inl state))] H locs → lv_has ls 7 [(0, .ref h0), (1, .int x1), (2, .int x2), (3, .int x3), (4, .int x4), (5, .int x5)] → W p l e ({ frames := 6, cells := 0, slots := 0, locals := 141 } : Room) s m args below meth c H locs 0 0 Q (F0 m 33 ls []) := by
    intro n
    induction n with
    | zero =>
      intro x1 x2 x3 x4 x5 moved turned worst state H locs ls hf
      rw [fX5_miss_L33] at hf
      cases hf
    | succ n ih =>
      intro x1 x2 x3 x4 x5 moved turned worst state H locs ls hf hX hl
      rw [fX5_miss_L33] at hf
      refine lv_iload (pc := 33) hx hb dX5_miss_33 (lv_at hl 5 rfl) ?_
      refine lv_aload_n (pc := 35) hx hb dX5_miss_35 rfl (lv_at hl 0 rfl) ?_
      refine x_getf (pc := 36) (Cn := RX5) (T := TX5) (N := 24) C hX 0 rfl rfl miX5_miss_X5 0 (by decide) mmX5_miss_1 rfl dX5_miss_36 ?_
      refine lv_bipush (pc := 39) (v := 37) hx hb dX5_miss_39 (by decide) ?_
      replace hf := chk_adv hf
      have i13 := hf.1
      replace hf := hf.2
      refine x_iald (pc := 41) C hX 1 0 rfl rfl i13 dX5_miss_41 ?_
      refine lv_icmp_ge (pc := 42) (tgt := 109) hx hb dX5_miss_42 (by decide) (fun c14 => ?_) (fun c14 => ?_)
      · replace hf := ite_t c14 hf
        refine lv_iload (pc := 109) hx hb dX5_miss_109 (lv_at hl 4 rfl) ?_
        refine lv_bipush (pc := 111) (v := -4) hx hb dX5_miss_111 (by decide) ?_
        refine lv_icmp_eq (pc := 113) (tgt := 120) hx hb dX5_miss_113 (by decide) (fun c15 => ?_) (fun c15 => ?_)
        · replace hf := ite_t c15 hf
          refine lv_iload (pc := 120) hx hb dX5_miss_120 (lv_at hl 4 rfl) ?_
          refine lv_goto (pc := 122) (tgt := 126) hx hb dX5_miss_122 (by decide) ?_
          obtain ⟨rfl, rfl, rfl, rfl, rfl⟩ := re5 hf
          exact hret _ _ _ _ _ rfl rfl hX dX5_miss_126
        · replace hf := ite_f c15 hf
          refine lv_iload_n (pc := 116) hx hb dX5_miss_116 rfl (lv_at hl 2 rfl) ?_
          refine lv_if_ne (pc := 117) (tgt := 125) hx hb dX5_miss_117 (by decide) (fun c16 => ?_) (fun c16 => ?_)
          · replace hf := ite_f c16 hf
            refine lv_iload_n (pc := 125) hx hb dX5_miss_125 rfl (lv_at hl 3 rfl) ?_
            obtain ⟨rfl, rfl, rfl, rfl, rfl⟩ := re5 hf
            exact hret _ _ _ _ _ rfl rfl hX dX5_miss_126
          · replace hf := ite_t c16 hf
            refine lv_iload (pc := 120) hx hb dX5_miss_120 (lv_at hl 4 rfl) ?_
            refine lv_goto (pc := 122) (tgt := 126) hx hb dX5_miss_122 (by decide) ?_
            obtain ⟨rfl, rfl, rfl, rfl, rfl⟩ := re5 hf
            exact hret _ _ _ _ _ rfl rfl hX dX5_miss_126
      · replace hf := ite_f c14 hf
        refine lv_aload_n (pc := 45) hx hb dX5_miss_45 rfl (lv_at hl 0 rfl) ?_
        refine lv_iconst (pc := 46) (v := 0) hx hb dX5_miss_46 (by decide) ?_
        refine lv_sipush (pc := 47) (v := 200) hx hb dX5_miss_47 (by decide) ?_
        obtain ⟨u17, g18, hf⟩ := cl1_adv hf
        refine x_callVv (pc := 50) (rest := []) (w2 := [(h0, .inr (5, [.ref h_state, .ref h_readPage, .ref h_tape, .int taped, .int fault, .int broken, .int brokenAt, .int spot, .int here, .int token, .int value, .ref h_ends, .ref h_letters, .int moved, .int turned, .int worst, .ref h_seen, .int seenMany, .ref h_lastBy, .ref h_isKept, .ref h_lanes, .ref h_lengths, .ref h_cells, .int torn])), (h_state, .inl (cI, 240, .inl u17))]) C hX (kX5_copies ad l D cI cB cZ cG cS h0 h_state h_readPage h_tape h_ends h_letters h_seen h_lastBy h_isKept h_lanes h_lengths h_cells taped fault broken brokenAt spot here token value moved turned worst seenMany torn state u17 (0 : Int32) (200 : Int32) g18) (cwV 2 C.1.2.2.2.2 gX5_miss_X5_copies rfl rfl rfl (by decide +kernel) ⟨Nat.le_of_ble_eq_true rfl, Nat.le_of_ble_eq_true rfl⟩) [0, 1] [] [0, 1] rfl rfl rfl rfl (by decide) rfl rfl 0 rfl rfl rfl hl.1 rfl rfl (Nat.le_of_ble_eq_true rfl) dX5_miss_50 (fun H locs hX => ?_)
        refine lv_aload_n (pc := 53) hx hb dX5_miss_53 rfl (lv_at hl 0 rfl) ?_
        refine x_getf (pc := 54) (Cn := RX5) (T := TX5) (N := 24) C hX 0 rfl rfl miX5_miss_X5 0 (by decide) mmX5_miss_1 rfl dX5_miss_54 ?_
        refine lv_sipush (pc := 57) (v := 221) hx hb dX5_miss_57 (by decide) ?_
        refine lv_iload (pc := 60) hx hb dX5_miss_60 (lv_at hl 5 rfl) ?_
        refine lv_iadd (pc := 62) hx hb dX5_miss_62 ?_
        refine lv_iconst (pc := 63) (v := 0) hx hb dX5_miss_63 (by decide) ?_
        replace hf := chk_adv hf
        have i19 := hf.1
        replace hf := hf.2
        obtain ⟨f20, ef20⟩ : ∃ y : Nat → Int32, y = (upd u17 (((221 : Int32) + x5)).toNatClampNeg (0 : Int32)) := ⟨_, rfl⟩
        replace hf := bnd_use ef20 hf
        refine x_iast (pc := 64) C hX 1 0 rfl rfl i19 [(h0, .inr (5, [.ref h_state, .ref h_readPage, .ref h_tape, .int taped, .int fault, .int broken, .int brokenAt, .int spot, .int here, .int token, .int value, .ref h_ends, .ref h_letters, .int moved, .int turned, .int worst, .ref h_seen, .int seenMany, .ref h_lastBy, .ref h_isKept, .ref h_lanes, .ref h_lengths, .ref h_cells, .int torn])), (h_state, .inl (cI, 240, .inl f20))] (by subst ef20; rfl) dX5_miss_64 (fun H locs hX => ?_)
        refine lv_aload_n (pc := 65) hx hb dX5_miss_65 rfl (lv_at hl 0 rfl) ?_
        refine lv_sipush (pc := 66) (v := 200) hx hb dX5_miss_66 (by decide) ?_
        refine lv_iload_n (pc := 69) hx hb dX5_miss_69 rfl (lv_at hl 1 rfl) ?_
        obtain ⟨r21, u22, u23, u24, u25, g26, hf⟩ := cl5_adv hf
        refine x_callVi (pc := 70) (rest := []) (w2 := [(h0, .inr (5, [.ref h_state, .ref h_readPage, .ref h_tape, .int taped, .int fault, .int broken, .int brokenAt, .int spot, .int here, .int token, .int value, .ref h_ends, .ref h_letters, .int u22, .int u23, .int u24, .ref h_seen, .int seenMany, .ref h_lastBy, .ref h_isKept, .ref h_lanes, .ref h_lengths, .ref h_cells, .int torn])), (h_state, .inl (cI, 240, .inl u25))]) C hX (kX5_stepsGo ad l D cI cB cZ cG cS h0 h_state h_readPage h_tape h_ends h_letters h_seen h_lastBy h_isKept h_lanes h_lengths h_cells taped fault broken brokenAt spot here token value moved turned worst seenMany torn f20 r21 u22 u23 u24 u25 (200 : Int32) x1 g26) (cwV 2 C.1.2.2.2.2 gX5_miss_X5_stepsGo rfl rfl rfl (by decide +kernel) ⟨Nat.le_of_ble_eq_true rfl, Nat.le_of_ble_eq_true rfl⟩) [0, 1] [] [0, 1] rfl rfl rfl rfl (by decide) rfl rfl 0 rfl rfl rfl hl.1 rfl rfl (Nat.le_of_ble_eq_true rfl) dX5_miss_70 (fun H locs hX => ?_)
        refine lv_istore (pc := 73) (lv' := [(6, .int r21), (0, .ref h0), (1, .int x1), (2, .int x2), (3, .int x3), (4, .int x4), (5, .int x5)]) hx hb dX5_miss_73 hl (by decide) rfl (fun ls hl => ?_)
        refine lv_iload (pc := 75) hx hb dX5_miss_75 (lv_at hl 0 rfl) ?_
        refine lv_iload_n (pc := 77) hx hb dX5_miss_77 rfl (lv_at hl 4 rfl) ?_
        refine lv_icmp_ge (pc := 78) (tgt := 86) hx hb dX5_miss_78 (by decide) (fun c27 => ?_) (fun c27 => ?_)
        · replace hf := ite_t c27 hf
          refine lv_iload (pc := 86) hx hb dX5_miss_86 (lv_at hl 5 rfl) ?_
          exact L88 (fX5_miss_L33  n) ih x1 x2 x3 x5 r21 x4 u22 u23 u24 u25 _ _ _ hf hX (lv_sub hl [1, 2, 3, 4, 6, 0] rfl)
        · replace hf := ite_f c27 hf
          refine lv_iload (pc := 81) hx hb dX5_miss_81 (lv_at hl 6 rfl) ?_
          refine lv_goto (pc := 83) (tgt := 88) hx hb dX5_miss_83 (by decide) ?_
          exact L88 (fX5_miss_L33  n) ih x1 x2 x3 x5 r21 x5 u22 u23 u24 u25 _ _ _ hf hX (lv_sub hl [1, 2, 3, 4, 6, 0] rfl)
  unfold fX5_miss at hf
  refine lv_iload_n (pc := 0) hx hb dX5_miss_0 rfl (lv_at hl 1 rfl) ?_
  obtain ⟨r1, g2, hf⟩ := cl1_adv hf
  refine x_callSi (pc := 1) (rest := []) C hX (kX5_isLong ad l D cI cB cZ cG cS r1 p1 g2) (va_cwS 1 C.1.2.2.2.2 gX5_miss_X5_isLong rfl rfl rfl (by decide +kernel) ⟨Nat.le_of_ble_eq_true rfl, Nat.le_of_ble_eq_true rfl⟩) hl.1 rfl rfl (Nat.le_of_ble_eq_true rfl) dX5_miss_1 (fun H locs hX => ?_)
  refine lv_if_eq (pc := 4) (tgt := 17) hx hb dX5_miss_4 (by decide) (fun c3 => ?_) (fun c3 => ?_)
  · replace hf := ite_t c3 hf
    refine lv_iconst (pc := 17) (v := -1) hx hb dX5_miss_17 (by decide) ?_
    obtain ⟨rfl, rfl, rfl, rfl, rfl⟩ := re5 hf
    exact hret _ _ _ _ _ rfl rfl hX dX5_miss_18
  · replace hf := ite_f c3 hf
    refine lv_iload_n (pc := 7) hx hb dX5_miss_7 rfl (lv_at hl 2 rfl) ?_
    refine lv_i2l (pc := 8) (v := ((p2).toInt64)) hx hb dX5_miss_8 rfl ?_
    refine lv_lconst (pc := 9) (v := 0) hx hb dX5_miss_9 (by decide) ?_
    refine lv_lconst (pc := 10) (v := 1) hx hb dX5_miss_10 (by decide) ?_
    obtain ⟨r4, g5, hf⟩ := cl1_adv hf
    refine x_callSi (pc := 11) (rest := []) C hX (kX5_in ad l D cI cB cZ cG cS r4 ((p2).toInt64) (0 : Int64) (1 : Int64) g5) (va_cwS 3 C.1.2.2.2.2 gX5_miss_X5_in rfl rfl rfl (by decide +kernel) ⟨Nat.le_of_ble_eq_true rfl, Nat.le_of_ble_eq_true rfl⟩) hl.1 rfl rfl (Nat.le_of_ble_eq_true rfl) dX5_miss_11 (fun H locs hX => ?_)
    refine lv_if_ne (pc := 14) (tgt := 19) hx hb dX5_miss_14 (by decide) (fun c6 => ?_) (fun c6 => ?_)
    · replace hf := ite_f c6 hf
      refine lv_aload_n (pc := 19) hx hb dX5_miss_19 rfl (lv_at hl 0 rfl) ?_
      refine lv_iconst (pc := 20) (v := 0) hx hb dX5_miss_20 (by decide) ?_
      refine lv_iload_n (pc := 21) hx hb dX5_miss_21 rfl (lv_at hl 1 rfl) ?_
      obtain ⟨r7, u8, u9, u10, u11, g12, hf⟩ := cl5_adv hf
      refine x_callVi (pc := 22) (rest := []) (w2 := [(h0, .inr (5, [.ref h_state, .ref h_readPage, .ref h_tape, .int taped, .int fault, .int broken, .int brokenAt, .int spot, .int here, .int token, .int value, .ref h_ends, .ref h_letters, .int u8, .int u9, .int u10, .ref h_seen, .int seenMany, .ref h_lastBy, .ref h_isKept, .ref h_lanes, .ref h_lengths, .ref h_cells, .int torn])), (h_state, .inl (cI, 240, .inl u11))]) C hX (kX5_stepsGo ad l D cI cB cZ cG cS h0 h_state h_readPage h_tape h_ends h_letters h_seen h_lastBy h_isKept h_lanes h_lengths h_cells taped fault broken brokenAt spot here token value moved turned worst seenMany torn state r7 u8 u9 u10 u11 (0 : Int32) p1 g12) (cwV 2 C.1.2.2.2.2 gX5_miss_X5_stepsGo rfl rfl rfl (by decide +kernel) ⟨Nat.le_of_ble_eq_true rfl, Nat.le_of_ble_eq_true rfl⟩) [0, 1] [] [0, 1] rfl rfl rfl rfl (by decide) rfl rfl 0 rfl rfl rfl hl.1 rfl rfl (Nat.le_of_ble_eq_true rfl) dX5_miss_22 (fun H locs hX => ?_)
      refine lv_istore_n (pc := 25) (lv' := [(3, .int r7), (0, .ref h0), (1, .int p1), (2, .int p2)]) hx hb dX5_miss_25 rfl hl (by decide) rfl (fun ls hl => ?_)
      refine lv_bipush (pc := 26) (v := -4) hx hb dX5_miss_26 (by decide) ?_
      refine lv_istore (pc := 28) (lv' := [(4, .int (-4 : Int32)), (3, .int r7), (0, .ref h0), (1, .int p1), (2, .int p2)]) hx hb dX5_miss_28 hl (by decide) rfl (fun ls hl => ?_)
      refine lv_iconst (pc := 30) (v := 0) hx hb dX5_miss_30 (by decide) ?_
      refine lv_istore (pc := 31) (lv' := [(5, .int (0 : Int32)), (4, .int (-4 : Int32)), (3, .int r7), (0, .ref h0), (1, .int p1), (2, .int p2)]) hx hb dX5_miss_31 hl (by decide) rfl (fun ls hl => ?_)
      exact L33  xF p1 p2 r7 (-4 : Int32) (0 : Int32) u8 u9 u10 u11 _ _ _ hf hX (lv_sub hl [3, 4, 5, 2, 1, 0] rfl)
    · replace hf := ite_t c6 hf
      refine lv_iconst (pc := 17) (v := -1) hx hb dX5_miss_17 (by decide) ?_
      obtain ⟨rfl, rfl, rfl, rfl, rfl⟩ := re5 hf
      exact hret _ _ _ _ _ rfl rfl hX dX5_miss_18
theorem mmX5_lead_1 : Cond.constant RX5 193 (1000000) ∈ wsX5_lead := List.mem_of_getElem? (i := 1) rfl
theorem mmX5_lead_2 : Cond.fieldLink RX5 179 "SlackArmsModel" "worst" "I" ∈ wsX5_lead := List.mem_of_getElem? (i := 2) rfl
theorem miX5_lead_X5 : ∀ w ∈ u_ws RX5 TX5 24, w ∈ wsX5_lead := fun w h => List.mem_cons_of_mem _ (List.mem_append_right _ h)
set_option maxHeartbeats 4000000 in
set_option maxRecDepth 100000 in
theorem kX5_lead (ad : xAd) (l : Launch) (D : va_G) (cI cB cZ cG cS : ClassId) (h0 h_state h_readPage h_tape h_ends h_letters h_seen h_lastBy h_isKept h_lanes h_lengths h_cells : Nat) (taped : Int32) (fault : Int32) (broken : Int32) (brokenAt : Int32) (spot : Int32) (here : Int32) (token : Int32) (value : Int32) (moved : Int32) (turned : Int32) (worst : Int32) (seenMany : Int32) (torn : Int32) (state : (Nat → Int32)) (r0 : Int32) (o_moved' : Int32) (o_turned' : Int32) (o_worst' : Int32) (o_state' : (Nat → Int32)) (p1 : Int32) (p2 : Int32) (hf : fX5_lead p1 p2 moved turned worst state = some (r0, o_moved', o_turned', o_worst', o_state')) : xMi ad l yX5_lead wsX5_lead ({ frames := 6, cells := 0, slots := 0, locals := 141 } : Room) D (xTY cI cB cZ cG cS) [.ref h0, .int p1, .int p2] [(h0, .inr (5, [.ref h_state, .ref h_readPage, .ref h_tape, .int taped, .int fault, .int broken, .int brokenAt, .int spot, .int here, .int token, .int value, .ref h_ends, .ref h_letters, .int moved, .int turned, .int worst, .ref h_seen, .int seenMany, .ref h_lastBy, .ref h_isKept, .ref h_lanes, .ref h_lengths, .ref h_cells, .int torn])), (h_state, .inl (cI, 240, .inl state))] [(h0, .inr (5, [.ref h_state, .ref h_readPage, .ref h_tape, .int taped, .int fault, .int broken, .int brokenAt, .int spot, .int here, .int token, .int value, .ref h_ends, .ref h_letters, .int o_moved', .int o_turned', .int o_worst', .ref h_seen, .int seenMany, .ref h_lastBy, .ref h_isKept, .ref h_lanes, .ref h_lengths, .ref h_cells, .int torn])), (h_state, .inl (cI, 240, .inl o_state'))] r0 := by
  refine xMi_of (cc := cX5_lead) (maxL := 6) (ty := .int) (by decide) rfl (Nat.le_of_ble_eq_true rfl) ?_
  intro p e s m args below meth c A Q ls C hX hl hret
  have hx := C.1.1
  have hb := C.1.2.1
  have hl : lv_has ls 6 [(0, .ref h0), (1, .int p1), (2, .int p2)] := hl
  have L97 : ∀ (k28 : Int32 → Int32 → Int32 → Int32 → Int32 → Int32 → Int32 → Int32 → (Nat → Int32) → Option (Int32 × Int32 × Int32 × Int32 × (Nat → Int32))) (hk28 : ∀ (x1 : Int32) (x2 : Int32) (x3 : Int32) (x4 : Int32) (x5 : Int32) (moved : Int32) (turned : Int32) (worst : Int32) (state : (Nat → Int32)) (H : Heap) (locs : List Loc) (ls : Array Slot), k28 x1 x2 x3 x4 x5 moved turned worst state = some (r0, o_moved', o_turned', o_worst', o_state') → xSt A s D [(h0, .inr (5, [.ref h_state, .ref h_readPage, .ref h_tape, .int taped, .int fault, .int broken, .int brokenAt, .int spot, .int here, .int token, .int value, .ref h_ends, .ref h_letters, .int moved, .int turned, .int worst, .ref h_seen, .int seenMany, .ref h_lastBy, .ref h_isKept, .ref h_lanes, .ref h_lengths, .ref h_cells, .int torn])), (h_state, .inl (cI, 240, .inl state))] H locs → lv_has ls 6 [(0, .ref h0), (1, .int x1), (2, .int x2), (3, .int x3), (4, .int x4), (5, .int x5)] → W p l e ({ frames := 6, cells := 0, slots := 0, locals := 141 } : Room) s m args below meth c H locs 0 0 Q (F0 m 28 ls [])), ∀ (x1 : Int32) (x2 : Int32) (x4 : Int32) (x5 : Int32) (y0 : Int32) (moved : Int32) (turned : Int32) (worst : Int32) (state : (Nat → Int32)) (H : Heap) (locs : List Loc) (ls : Array Slot), fX5_lead_L97  k28 x1 x2 x4 x5 y0 moved turned worst state = some (r0, o_moved', o_turned', o_worst', o_state') → xSt A s D [(h0, .inr (5, [.ref h_state, .ref h_readPage, .ref h_tape, .int taped, .int fault, .int broken, .int brokenAt, .int spot, .int here, .int token, .int value, .ref h_ends, .ref h_letters, .int moved, .int turned, .int worst, .ref h_seen, .int seenMany, .ref h_lastBy, .ref h_isKept, .ref h_lanes, .ref h_lengths, .ref h_cells, .int torn])), (h_state, .inl (cI, 240, .inl state))] H locs → lv_has ls 6 [(0, .ref h0), (1, .int x1), (2, .int x2), (4, .int x4), (5, .int x5)] → W p l e ({ frames := 6, cells := 0, slots := 0, locals := 141 } : Room) s m args below meth c H locs 0 0 Q (F0 m 97 ls [.int y0]) := by
    intro k28 hk28 x1 x2 x4 x5 y0 moved turned worst state H locs ls hf hX hl
    unfold fX5_lead_L97 at hf
    refine lv_istore_n (pc := 97) (lv' := [(3, .int y0), (0, .ref h0), (1, .int x1), (2, .int x2), (4, .int x4), (5, .int x5)]) hx hb dX5_lead_97 rfl hl (by decide) rfl (fun ls hl => ?_)
    obtain ⟨v23, ev23⟩ : ∃ y : Int32, y = (x5 + (1 : Int32)) := ⟨_, rfl⟩
    replace hf := bnd_use ev23 hf
    refine lv_iinc (pc := 98) (v := v23) (lv' := [(5, .int v23), (3, .int y0), (0, .ref h0), (1, .int x1), (2, .int x2), (4, .int x4)]) hx hb dX5_lead_98 hl (k := 5) rfl (by rw [ev23]; rfl) (by decide) rfl (fun ls hl => ?_)
    refine lv_goto (pc := 101) (tgt := 28) hx hb dX5_lead_101 (by decide) ?_
    exact hk28 x1 x2 y0 x4 v23 moved turned worst state _ _ _ hf hX (lv_sub hl [2, 3, 4, 1, 5, 0] rfl)
  have L79 : ∀ (k28 : Int32 → Int32 → Int32 → Int32 → Int32 → Int32 → Int32 → Int32 → (Nat → Int32) → Option (Int32 × Int32 × Int32 × Int32 × (Nat → Int32))) (hk28 : ∀ (x1 : Int32) (x2 : Int32) (x3 : Int32) (x4 : Int32) (x5 : Int32) (moved : Int32) (turned : Int32) (worst : Int32) (state : (Nat → Int32)) (H : Heap) (locs : List Loc) (ls : Array Slot), k28 x1 x2 x3 x4 x5 moved turned worst state = some (r0, o_moved', o_turned', o_worst', o_state') → xSt A s D [(h0, .inr (5, [.ref h_state, .ref h_readPage, .ref h_tape, .int taped, .int fault, .int broken, .int brokenAt, .int spot, .int here, .int token, .int value, .ref h_ends, .ref h_letters, .int moved, .int turned, .int worst, .ref h_seen, .int seenMany, .ref h_lastBy, .ref h_isKept, .ref h_lanes, .ref h_lengths, .ref h_cells, .int torn])), (h_state, .inl (cI, 240, .inl state))] H locs → lv_has ls 6 [(0, .ref h0), (1, .int x1), (2, .int x2), (3, .int x3), (4, .int x4), (5, .int x5)] → W p l e ({ frames := 6, cells := 0, slots := 0, locals := 141 } : Room) s m args below meth c H locs 0 0 Q (F0 m 28 ls [])), ∀ (x1 : Int32) (x2 : Int32) (x3 : Int32) (x5 : Int32) (y0 : Int32) (moved : Int32) (turned : Int32) (worst : Int32) (state : (Nat → Int32)) (H : Heap) (locs : List Loc) (ls : Array Slot), fX5_lead_L79  k28 x1 x2 x3 x5 y0 moved turned worst state = some (r0, o_moved', o_turned', o_worst', o_state') → xSt A s D [(h0, .inr (5, [.ref h_state, .ref h_readPage, .ref h_tape, .int taped, .int fault, .int broken, .int brokenAt, .int spot, .int here, .int token, .int value, .ref h_ends, .ref h_letters, .int moved, .int turned, .int worst, .ref h_seen, .int seenMany, .ref h_lastBy, .ref h_isKept, .ref h_lanes, .ref h_lengths, .ref h_cells, .int torn])), (h_state, .inl (cI, 240, .inl state))] H locs → lv_has ls 6 [(0, .ref h0), (1, .int x1), (2, .int x2), (3, .int x3), (5, .int x5)] → W p l e ({ frames := 6, cells := 0, slots := 0, locals := 141 } : Room) s m args below meth c H locs 0 0 Q (F0 m 79 ls [.int y0]) := by
    intro k28 hk28 x1 x2 x3 x5 y0 moved turned worst state H locs ls hf hX hl
    unfold fX5_lead_L79 at hf
    refine lv_istore (pc := 79) (lv' := [(4, .int y0), (0, .ref h0), (1, .int x1), (2, .int x2), (3, .int x3), (5, .int x5)]) hx hb dX5_lead_79 hl (by decide) rfl (fun ls hl => ?_)
    refine lv_aload_n (pc := 81) hx hb dX5_lead_81 rfl (lv_at hl 1 rfl) ?_
    refine x_getf (pc := 82) (Cn := RX5) (T := TX5) (N := 24) C hX 0 rfl rfl miX5_lead_X5 15 (by decide) mmX5_lead_2 rfl dX5_lead_82 ?_
    refine lv_iload_n (pc := 85) hx hb dX5_lead_85 rfl (lv_at hl 4 rfl) ?_
    refine lv_icmp_ge (pc := 86) (tgt := 96) hx hb dX5_lead_86 (by decide) (fun c22 => ?_) (fun c22 => ?_)
    · replace hf := ite_t c22 hf
      refine lv_iload_n (pc := 96) hx hb dX5_lead_96 rfl (lv_at hl 4 rfl) ?_
      exact L97 (k28) hk28 x1 x2 y0 x5 x3 moved turned worst state _ _ _ hf hX (lv_sub hl [1, 2, 3, 0, 5] rfl)
    · replace hf := ite_f c22 hf
      refine lv_aload_n (pc := 89) hx hb dX5_lead_89 rfl (lv_at hl 1 rfl) ?_
      refine x_getf (pc := 90) (Cn := RX5) (T := TX5) (N := 24) C hX 0 rfl rfl miX5_lead_X5 15 (by decide) mmX5_lead_2 rfl dX5_lead_90 ?_
      refine lv_goto (pc := 93) (tgt := 97) hx hb dX5_lead_93 (by decide) ?_
      exact L97 (k28) hk28 x1 x2 y0 x5 worst moved turned worst state _ _ _ hf hX (lv_sub hl [1, 2, 3, 0, 5] rfl)
  have L28 : ∀ (n : Nat), ∀ (x1 : Int32) (x2 : Int32) (x3 : Int32) (x4 : Int32) (x5 : Int32) (moved : Int32) (turned : Int32) (worst : Int32) (state : (Nat → Int32)) (H : Heap) (locs : List Loc) (ls : Array Slot), fX5_lead_L28  n x1 x2 x3 x4 x5 moved turned worst state = some (r0, o_moved', o_turned', o_worst', o_state') → xSt A s D [(h0, .inr (5, [.ref h_state, .ref h_readPage, .ref h_tape, .int taped, .int fault, .int broken, .int brokenAt, .int spot, .int here, .int token, .int value, .ref h_ends, .ref h_letters, .int moved, .int turned, .int worst, .ref h_seen, .int seenMany, .ref h_lastBy, .ref h_isKept, .ref h_lanes, .ref h_lengths, .ref h_cells, .int torn])), (h_state, .inl (cI, 240, .inl state))] H locs → lv_has ls 6 [(0, .ref h0), (1, .int x1), (2, .int x2), (3, .int x3), (4, .int x4), (5, .int x5)] → W p l e ({ frames := 6, cells := 0, slots := 0, locals := 141 } : Room) s m args below meth c H locs 0 0 Q (F0 m 28 ls []) := by
    intro n
    induction n with
    | zero =>
      intro x1 x2 x3 x4 x5 moved turned worst state H locs ls hf
      rw [fX5_lead_L28] at hf
      cases hf
    | succ n ih =>
      intro x1 x2 x3 x4 x5 moved turned worst state H locs ls hf hX hl
      rw [fX5_lead_L28] at hf
      refine lv_iload (pc := 28) hx hb dX5_lead_28 (lv_at hl 5 rfl) ?_
      refine lv_bipush (pc := 30) (v := 18) hx hb dX5_lead_30 (by decide) ?_
      refine lv_icmp_gt (pc := 32) (tgt := 104) hx hb dX5_lead_32 (by decide) (fun c7 => ?_) (fun c7 => ?_)
      · replace hf := ite_t c7 hf
        refine lv_iload_n (pc := 104) hx hb dX5_lead_104 rfl (lv_at hl 2 rfl) ?_
        refine lv_if_ne (pc := 105) (tgt := 113) hx hb dX5_lead_105 (by decide) (fun c8 => ?_) (fun c8 => ?_)
        · replace hf := ite_f c8 hf
          refine lv_iload_n (pc := 113) hx hb dX5_lead_113 rfl (lv_at hl 3 rfl) ?_
          obtain ⟨rfl, rfl, rfl, rfl, rfl⟩ := re5 hf
          exact hret _ _ _ _ _ rfl rfl hX dX5_lead_114
        · replace hf := ite_t c8 hf
          refine lv_iload (pc := 108) hx hb dX5_lead_108 (lv_at hl 4 rfl) ?_
          refine lv_goto (pc := 110) (tgt := 114) hx hb dX5_lead_110 (by decide) ?_
          obtain ⟨rfl, rfl, rfl, rfl, rfl⟩ := re5 hf
          exact hret _ _ _ _ _ rfl rfl hX dX5_lead_114
      · replace hf := ite_f c7 hf
        refine lv_aload_n (pc := 35) hx hb dX5_lead_35 rfl (lv_at hl 0 rfl) ?_
        refine lv_iconst (pc := 36) (v := 0) hx hb dX5_lead_36 (by decide) ?_
        refine lv_sipush (pc := 37) (v := 200) hx hb dX5_lead_37 (by decide) ?_
        obtain ⟨u9, g10, hf⟩ := cl1_adv hf
        refine x_callVv (pc := 40) (rest := []) (w2 := [(h0, .inr (5, [.ref h_state, .ref h_readPage, .ref h_tape, .int taped, .int fault, .int broken, .int brokenAt, .int spot, .int here, .int token, .int value, .ref h_ends, .ref h_letters, .int moved, .int turned, .int worst, .ref h_seen, .int seenMany, .ref h_lastBy, .ref h_isKept, .ref h_lanes, .ref h_lengths, .ref h_cells, .int torn])), (h_state, .inl (cI, 240, .inl u9))]) C hX (kX5_copies ad l D cI cB cZ cG cS h0 h_state h_readPage h_tape h_ends h_letters h_seen h_lastBy h_isKept h_lanes h_lengths h_cells taped fault broken brokenAt spot here token value moved turned worst seenMany torn state u9 (0 : Int32) (200 : Int32) g10) (cwV 2 C.1.2.2.2.2 gX5_lead_X5_copies rfl rfl rfl (by decide +kernel) ⟨Nat.le_of_ble_eq_true rfl, Nat.le_of_ble_eq_true rfl⟩) [0, 1] [] [0, 1] rfl rfl rfl rfl (by decide) rfl rfl 0 rfl rfl rfl hl.1 rfl rfl (Nat.le_of_ble_eq_true rfl) dX5_lead_40 (fun H locs hX => ?_)
        refine lv_aload_n (pc := 43) hx hb dX5_lead_43 rfl (lv_at hl 0 rfl) ?_
        refine lv_sipush (pc := 44) (v := 200) hx hb dX5_lead_44 (by decide) ?_
        refine lv_iload (pc := 47) hx hb dX5_lead_47 (lv_at hl 5 rfl) ?_
        refine lv_bipush (pc := 49) (v := 9) hx hb dX5_lead_49 (by decide) ?_
        refine lv_isub (pc := 51) hx hb dX5_lead_51 ?_
        obtain ⟨u11, u12, u13, g14, hf⟩ := cl3_adv hf
        refine x_callVv (pc := 52) (rest := []) (w2 := [(h0, .inr (5, [.ref h_state, .ref h_readPage, .ref h_tape, .int taped, .int fault, .int broken, .int brokenAt, .int spot, .int here, .int token, .int value, .ref h_ends, .ref h_letters, .int u11, .int u12, .int worst, .ref h_seen, .int seenMany, .ref h_lastBy, .ref h_isKept, .ref h_lanes, .ref h_lengths, .ref h_cells, .int torn])), (h_state, .inl (cI, 240, .inl u13))]) C hX (kX5_handOn ad l D cI cB cZ cG cS h0 h_state h_readPage h_tape h_ends h_letters h_seen h_lastBy h_isKept h_lanes h_lengths h_cells taped fault broken brokenAt spot here token value moved turned worst seenMany torn u9 u11 u12 u13 (200 : Int32) (x5 - (9 : Int32)) g14) (cwV 2 C.1.2.2.2.2 gX5_lead_X5_handOn rfl rfl rfl (by decide +kernel) ⟨Nat.le_of_ble_eq_true rfl, Nat.le_of_ble_eq_true rfl⟩) [0, 1] [] [0, 1] rfl rfl rfl rfl (by decide) rfl rfl 0 rfl rfl rfl hl.1 rfl rfl (Nat.le_of_ble_eq_true rfl) dX5_lead_52 (fun H locs hX => ?_)
        refine lv_aload_n (pc := 55) hx hb dX5_lead_55 rfl (lv_at hl 0 rfl) ?_
        refine lv_sipush (pc := 56) (v := 200) hx hb dX5_lead_56 (by decide) ?_
        refine lv_iload_n (pc := 59) hx hb dX5_lead_59 rfl (lv_at hl 1 rfl) ?_
        obtain ⟨r15, u16, u17, u18, u19, g20, hf⟩ := cl5_adv hf
        refine x_callVi (pc := 60) (rest := []) (w2 := [(h0, .inr (5, [.ref h_state, .ref h_readPage, .ref h_tape, .int taped, .int fault, .int broken, .int brokenAt, .int spot, .int here, .int token, .int value, .ref h_ends, .ref h_letters, .int u16, .int u17, .int u18, .ref h_seen, .int seenMany, .ref h_lastBy, .ref h_isKept, .ref h_lanes, .ref h_lengths, .ref h_cells, .int torn])), (h_state, .inl (cI, 240, .inl u19))]) C hX (kX5_stepsGo ad l D cI cB cZ cG cS h0 h_state h_readPage h_tape h_ends h_letters h_seen h_lastBy h_isKept h_lanes h_lengths h_cells taped fault broken brokenAt spot here token value u11 u12 worst seenMany torn u13 r15 u16 u17 u18 u19 (200 : Int32) x1 g20) (cwV 2 C.1.2.2.2.2 gX5_lead_X5_stepsGo rfl rfl rfl (by decide +kernel) ⟨Nat.le_of_ble_eq_true rfl, Nat.le_of_ble_eq_true rfl⟩) [0, 1] [] [0, 1] rfl rfl rfl rfl (by decide) rfl rfl 0 rfl rfl rfl hl.1 rfl rfl (Nat.le_of_ble_eq_true rfl) dX5_lead_60 (fun H locs hX => ?_)
        refine lv_pop (pc := 63) hx hb dX5_lead_63 rfl ?_
        refine lv_aload_n (pc := 64) hx hb dX5_lead_64 rfl (lv_at hl 0 rfl) ?_
        refine x_getf (pc := 65) (Cn := RX5) (T := TX5) (N := 24) C hX 0 rfl rfl miX5_lead_X5 15 (by decide) mmX5_lead_2 rfl dX5_lead_65 ?_
        refine lv_iload_n (pc := 68) hx hb dX5_lead_68 rfl (lv_at hl 3 rfl) ?_
        refine lv_icmp_ge (pc := 69) (tgt := 77) hx hb dX5_lead_69 (by decide) (fun c21 => ?_) (fun c21 => ?_)
        · replace hf := ite_t c21 hf
          refine lv_iload (pc := 77) hx hb dX5_lead_77 (lv_at hl 4 rfl) ?_
          exact L79 (fX5_lead_L28  n) ih x1 x2 x3 x5 x4 u16 u17 u18 u19 _ _ _ hf hX (lv_sub hl [0, 1, 2, 3, 5] rfl)
        · replace hf := ite_f c21 hf
          refine lv_iload (pc := 72) hx hb dX5_lead_72 (lv_at hl 5 rfl) ?_
          refine lv_goto (pc := 74) (tgt := 79) hx hb dX5_lead_74 (by decide) ?_
          exact L79 (fX5_lead_L28  n) ih x1 x2 x3 x5 x5 u16 u17 u18 u19 _ _ _ hf hX (lv_sub hl [0, 1, 2, 3, 5] rfl)
  unfold fX5_lead at hf
  refine lv_iload_n (pc := 0) hx hb dX5_lead_0 rfl (lv_at hl 1 rfl) ?_
  obtain ⟨r1, g2, hf⟩ := cl1_adv hf
  refine x_callSi (pc := 1) (rest := []) C hX (kX5_isLong ad l D cI cB cZ cG cS r1 p1 g2) (va_cwS 1 C.1.2.2.2.2 gX5_lead_X5_isLong rfl rfl rfl (by decide +kernel) ⟨Nat.le_of_ble_eq_true rfl, Nat.le_of_ble_eq_true rfl⟩) hl.1 rfl rfl (Nat.le_of_ble_eq_true rfl) dX5_lead_1 (fun H locs hX => ?_)
  refine lv_if_eq (pc := 4) (tgt := 17) hx hb dX5_lead_4 (by decide) (fun c3 => ?_) (fun c3 => ?_)
  · replace hf := ite_t c3 hf
    refine lv_iconst (pc := 17) (v := -1) hx hb dX5_lead_17 (by decide) ?_
    obtain ⟨rfl, rfl, rfl, rfl, rfl⟩ := re5 hf
    exact hret _ _ _ _ _ rfl rfl hX dX5_lead_18
  · replace hf := ite_f c3 hf
    refine lv_iload_n (pc := 7) hx hb dX5_lead_7 rfl (lv_at hl 2 rfl) ?_
    refine lv_i2l (pc := 8) (v := ((p2).toInt64)) hx hb dX5_lead_8 rfl ?_
    refine lv_lconst (pc := 9) (v := 0) hx hb dX5_lead_9 (by decide) ?_
    refine lv_lconst (pc := 10) (v := 1) hx hb dX5_lead_10 (by decide) ?_
    obtain ⟨r4, g5, hf⟩ := cl1_adv hf
    refine x_callSi (pc := 11) (rest := []) C hX (kX5_in ad l D cI cB cZ cG cS r4 ((p2).toInt64) (0 : Int64) (1 : Int64) g5) (va_cwS 3 C.1.2.2.2.2 gX5_lead_X5_in rfl rfl rfl (by decide +kernel) ⟨Nat.le_of_ble_eq_true rfl, Nat.le_of_ble_eq_true rfl⟩) hl.1 rfl rfl (Nat.le_of_ble_eq_true rfl) dX5_lead_11 (fun H locs hX => ?_)
    refine lv_if_ne (pc := 14) (tgt := 19) hx hb dX5_lead_14 (by decide) (fun c6 => ?_) (fun c6 => ?_)
    · replace hf := ite_f c6 hf
      refine lv_ldc (pc := 19) hx hb C.1.2.2.2.1 (C.1.2.2.2.2 _ mmX5_lead_1) dX5_lead_19 ?_
      refine lv_istore_n (pc := 21) (lv' := [(3, .int (1000000 : Int32)), (0, .ref h0), (1, .int p1), (2, .int p2)]) hx hb dX5_lead_21 rfl hl (by decide) rfl (fun ls hl => ?_)
      refine lv_iconst (pc := 22) (v := 0) hx hb dX5_lead_22 (by decide) ?_
      refine lv_istore (pc := 23) (lv' := [(4, .int (0 : Int32)), (3, .int (1000000 : Int32)), (0, .ref h0), (1, .int p1), (2, .int p2)]) hx hb dX5_lead_23 hl (by decide) rfl (fun ls hl => ?_)
      refine lv_iconst (pc := 25) (v := 0) hx hb dX5_lead_25 (by decide) ?_
      refine lv_istore (pc := 26) (lv' := [(5, .int (0 : Int32)), (4, .int (0 : Int32)), (3, .int (1000000 : Int32)), (0, .ref h0), (1, .int p1), (2, .int p2)]) hx hb dX5_lead_26 hl (by decide) rfl (fun ls hl => ?_)
      exact L28  xF p1 p2 (1000000 : Int32) (0 : Int32) (0 : Int32) moved turned worst state _ _ _ hf hX (lv_sub hl [3, 4, 5, 2, 1, 0] rfl)
    · replace hf := ite_t c6 hf
      refine lv_iconst (pc := 17) (v := -1) hx hb dX5_lead_17 (by decide) ?_
      obtain ⟨rfl, rfl, rfl, rfl, rfl⟩ := re5 hf
      exact hret _ _ _ _ _ rfl rfl hX dX5_lead_18
set_option maxHeartbeats 4000000 in
set_option maxRecDepth 100000 in
theorem kX5_lowest (ad : xAd) (l : Launch) (D : va_G) (cI cB cZ cG cS : ClassId)   (r0 : Int64) (p1 : Int64) (p2 : Int64) (p3 : Int32) (hf : fX5_lowest p1 p2 p3  = some r0) : xMl ad l yX5_lowest wsX5_lowest ({ frames := 0, cells := 0, slots := 0, locals := 0 } : Room) D (xTY cI cB cZ cG cS) [.long p1, .long p2, .int p3] [] [] r0 := by
  refine xMl_of (cc := cX5_lowest) (maxL := 11) (by decide) rfl (Nat.le_of_ble_eq_true rfl) ?_
  intro p e s m args below meth c A Q ls C hX hl hret
  have hx := C.1.1
  have hb := C.1.2.1
  have hl : lv_has ls 11 [(0, .long p1), (2, .long p2), (4, .int p3)] := hl
  have L6 : ∀ (n : Nat), ∀ (x0 : Int64) (x2 : Int64) (x4 : Int32) (x5 : Int64) (x7 : Int64) (H : Heap) (locs : List Loc) (ls : Array Slot), fX5_lowest_L6  n x0 x2 x4 x5 x7 = some r0 → xSt A s D [] H locs → lv_has ls 11 [(0, .long x0), (2, .long x2), (4, .int x4), (5, .long x5), (7, .long x7)] → W p l e ({ frames := 0, cells := 0, slots := 0, locals := 0 } : Room) s m args below meth c H locs 0 0 Q (F0 m 6 ls []) := by
    intro n
    induction n with
    | zero =>
      intro x0 x2 x4 x5 x7 H locs ls hf
      rw [fX5_lowest_L6] at hf
      cases hf
    | succ n ih =>
      intro x0 x2 x4 x5 x7 H locs ls hf hX hl
      rw [fX5_lowest_L6] at hf
      refine lv_lload (pc := 6) hx hb dX5_lowest_6 (lv_at hl 4 rfl) ?_
      refine lv_lconst (pc := 8) (v := 0) hx hb dX5_lowest_8 (by decide) ?_
      refine W.lcmp (pc := 9) hx hb dX5_lowest_9 ?_
      refine lv_if_eq (pc := 10) (tgt := 31) hx hb dX5_lowest_10 (by decide) (fun c1 => ?_) (fun c1 => ?_)
      · replace hf := ite_t c1 hf
        refine lv_iload (pc := 31) hx hb dX5_lowest_31 (lv_at hl 2 rfl) ?_
        refine lv_if_ne (pc := 33) (tgt := 40) hx hb dX5_lowest_33 (by decide) (fun c2 => ?_) (fun c2 => ?_)
        · replace hf := ite_f c2 hf
          refine lv_lload_n (pc := 40) hx hb dX5_lowest_40 rfl (lv_at hl 1 rfl) ?_
          refine lv_lload (pc := 41) hx hb dX5_lowest_41 (lv_at hl 3 rfl) ?_
          replace hf := chk_adv hf
          have i3 := hf.1
          replace hf := hf.2
          refine lv_ldiv (pc := 43) hx hb dX5_lowest_43 i3 ?_
          obtain ⟨rfl⟩ := re1 hf
          exact hret _ _ _ _ _ rfl hX dX5_lowest_44
        · replace hf := ite_t c2 hf
          refine lv_lload_n (pc := 36) hx hb dX5_lowest_36 rfl (lv_at hl 0 rfl) ?_
          refine lv_goto (pc := 37) (tgt := 41) hx hb dX5_lowest_37 (by decide) ?_
          refine lv_lload (pc := 41) hx hb dX5_lowest_41 (lv_at hl 3 rfl) ?_
          replace hf := chk_adv hf
          have i4 := hf.1
          replace hf := hf.2
          refine lv_ldiv (pc := 43) hx hb dX5_lowest_43 i4 ?_
          obtain ⟨rfl⟩ := re1 hf
          exact hret _ _ _ _ _ rfl hX dX5_lowest_44
      · replace hf := ite_f c1 hf
        refine lv_lload (pc := 13) hx hb dX5_lowest_13 (lv_at hl 3 rfl) ?_
        refine lv_lload (pc := 15) hx hb dX5_lowest_15 (lv_at hl 4 rfl) ?_
        replace hf := chk_adv hf
        have i5 := hf.1
        replace hf := hf.2
        refine lv_lrem (pc := 17) hx hb dX5_lowest_17 i5 ?_
        refine lv_topl (fun v6 ev6 => ?_)
        replace hf := bnd_use ev6 hf
        refine lv_lstore (pc := 18) (lv' := [(9, .long v6), (0, .long x0), (2, .long x2), (4, .int x4), (5, .long x5), (7, .long x7)]) hx hb dX5_lowest_18 hl (by decide) rfl (fun ls hl => ?_)
        refine lv_lload (pc := 20) hx hb dX5_lowest_20 (lv_at hl 5 rfl) ?_
        refine lv_lstore (pc := 22) (lv' := [(5, .long x7), (9, .long v6), (0, .long x0), (2, .long x2), (4, .int x4), (7, .long x7)]) hx hb dX5_lowest_22 hl (by decide) rfl (fun ls hl => ?_)
        refine lv_lload (pc := 24) hx hb dX5_lowest_24 (lv_at hl 1 rfl) ?_
        refine lv_lstore (pc := 26) (lv' := [(7, .long v6), (5, .long x7), (9, .long v6), (0, .long x0), (2, .long x2), (4, .int x4)]) hx hb dX5_lowest_26 hl (by decide) rfl (fun ls hl => ?_)
        refine lv_goto (pc := 28) (tgt := 6) hx hb dX5_lowest_28 (by decide) ?_
        exact ih x0 x2 x4 x7 v6 _ _ _ hf hX (lv_sub hl [3, 4, 5, 1, 0] rfl)
  unfold fX5_lowest at hf
  refine lv_lload_n (pc := 0) hx hb dX5_lowest_0 rfl (lv_at hl 0 rfl) ?_
  refine lv_lstore (pc := 1) (lv' := [(5, .long p1), (0, .long p1), (2, .long p2), (4, .int p3)]) hx hb dX5_lowest_1 hl (by decide) rfl (fun ls hl => ?_)
  refine lv_lload_n (pc := 3) hx hb dX5_lowest_3 rfl (lv_at hl 2 rfl) ?_
  refine lv_lstore (pc := 4) (lv' := [(7, .long p2), (5, .long p1), (0, .long p1), (2, .long p2), (4, .int p3)]) hx hb dX5_lowest_4 hl (by decide) rfl (fun ls hl => ?_)
  exact L6  xF p1 p2 p3 p1 p2 _ _ _ hf hX (lv_sub hl [2, 3, 4, 1, 0] rfl)
theorem mmX5_byMisses_1 : Cond.constantLong RX5 202 (10) ∈ wsX5_byMisses := List.mem_of_getElem? (i := 1) rfl
set_option maxHeartbeats 4000000 in
set_option maxRecDepth 100000 in
theorem kX5_byMisses (ad : xAd) (l : Launch) (D : va_G) (cI cB cZ cG cS : ClassId) (h0 h_state h_readPage h_tape h_ends h_letters h_seen h_lastBy h_isKept h_lanes h_lengths h_cells : Nat) (taped : Int32) (fault : Int32) (broken : Int32) (brokenAt : Int32) (spot : Int32) (here : Int32) (token : Int32) (value : Int32) (moved : Int32) (turned : Int32) (worst : Int32) (seenMany : Int32) (torn : Int32) (state : (Nat → Int32)) (r0 : Int64) (o_moved' : Int32) (o_turned' : Int32) (o_state' : (Nat → Int32)) (p1 : Int32) (p2 : Int32) (p3 : Int32) (p4 : Int32) (hf : fX5_byMisses p1 p2 p3 p4 moved turned state = some (r0, o_moved', o_turned', o_state')) : xMl ad l yX5_byMisses wsX5_byMisses ({ frames := 5, cells := 0, slots := 0, locals := 117 } : Room) D (xTY cI cB cZ cG cS) [.ref h0, .int p1, .int p2, .int p3, .int p4] [(h0, .inr (5, [.ref h_state, .ref h_readPage, .ref h_tape, .int taped, .int fault, .int broken, .int brokenAt, .int spot, .int here, .int token, .int value, .ref h_ends, .ref h_letters, .int moved, .int turned, .int worst, .ref h_seen, .int seenMany, .ref h_lastBy, .ref h_isKept, .ref h_lanes, .ref h_lengths, .ref h_cells, .int torn])), (h_state, .inl (cI, 240, .inl state))] [(h0, .inr (5, [.ref h_state, .ref h_readPage, .ref h_tape, .int taped, .int fault, .int broken, .int brokenAt, .int spot, .int here, .int token, .int value, .ref h_ends, .ref h_letters, .int o_moved', .int o_turned', .int worst, .ref h_seen, .int seenMany, .ref h_lastBy, .ref h_isKept, .ref h_lanes, .ref h_lengths, .ref h_cells, .int torn])), (h_state, .inl (cI, 240, .inl o_state'))] r0 := by
  refine xMl_of (cc := cX5_byMisses) (maxL := 14) (by decide) rfl (Nat.le_of_ble_eq_true rfl) ?_
  intro p e s m args below meth c A Q ls C hX hl hret
  have hx := C.1.1
  have hb := C.1.2.1
  have hl : lv_has ls 14 [(0, .ref h0), (1, .int p1), (2, .int p2), (3, .int p3), (4, .int p4)] := hl
  have L148 : ∀ (k32 : Int32 → Int32 → Int32 → Int32 → Int64 → Int64 → Int32 → Int32 → Int32 → (Nat → Int32) → Option (Int64 × Int32 × Int32 × (Nat → Int32))) (hk32 : ∀ (x1 : Int32) (x2 : Int32) (x3 : Int32) (x4 : Int32) (x5 : Int64) (x7 : Int64) (x9 : Int32) (moved : Int32) (turned : Int32) (state : (Nat → Int32)) (H : Heap) (locs : List Loc) (ls : Array Slot), k32 x1 x2 x3 x4 x5 x7 x9 moved turned state = some (r0, o_moved', o_turned', o_state') → xSt A s D [(h0, .inr (5, [.ref h_state, .ref h_readPage, .ref h_tape, .int taped, .int fault, .int broken, .int brokenAt, .int spot, .int here, .int token, .int value, .ref h_ends, .ref h_letters, .int moved, .int turned, .int worst, .ref h_seen, .int seenMany, .ref h_lastBy, .ref h_isKept, .ref h_lanes, .ref h_lengths, .ref h_cells, .int torn])), (h_state, .inl (cI, 240, .inl state))] H locs → lv_has ls 14 [(0, .ref h0), (1, .int x1), (2, .int x2), (3, .int x3), (4, .int x4), (5, .long x5), (7, .long x7), (9, .int x9)] → W p l e ({ frames := 5, cells := 0, slots := 0, locals := 117 } : Room) s m args below meth c H locs 0 0 Q (F0 m 32 ls [])), ∀ (x1 : Int32) (x2 : Int32) (x3 : Int32) (x4 : Int32) (x7 : Int64) (x9 : Int32) (y0 : Int64) (y1 : Int64) (y2 : Int32) (moved : Int32) (turned : Int32) (state : (Nat → Int32)) (H : Heap) (locs : List Loc) (ls : Array Slot), fX5_byMisses_L148  k32 x1 x2 x3 x4 x7 x9 y0 y1 y2 moved turned state = some (r0, o_moved', o_turned', o_state') → xSt A s D [(h0, .inr (5, [.ref h_state, .ref h_readPage, .ref h_tape, .int taped, .int fault, .int broken, .int brokenAt, .int spot, .int here, .int token, .int value, .ref h_ends, .ref h_letters, .int moved, .int turned, .int worst, .ref h_seen, .int seenMany, .ref h_lastBy, .ref h_isKept, .ref h_lanes, .ref h_lengths, .ref h_cells, .int torn])), (h_state, .inl (cI, 240, .inl state))] H locs → lv_has ls 14 [(0, .ref h0), (1, .int x1), (2, .int x2), (3, .int x3), (4, .int x4), (7, .long x7), (9, .int x9)] → W p l e ({ frames := 5, cells := 0, slots := 0, locals := 117 } : Room) s m args below meth c H locs 0 0 Q (F0 m 148 ls [.int y2, .long y1, .long y0]) := by
    intro k32 hk32 x1 x2 x3 x4 x7 x9 y0 y1 y2 moved turned state H locs ls hf hX hl
    unfold fX5_byMisses_L148 at hf
    refine lv_i2l (pc := 148) (v := ((y2).toInt64)) hx hb dX5_byMisses_148 rfl ?_
    refine lv_lmul (pc := 149) hx hb dX5_byMisses_149 ?_
    refine lv_ladd (pc := 150) hx hb dX5_byMisses_150 ?_
    refine lv_topl (fun v12 ev12 => ?_)
    replace hf := bnd_use ev12 hf
    refine lv_lstore (pc := 151) (lv' := [(5, .long v12), (0, .ref h0), (1, .int x1), (2, .int x2), (3, .int x3), (4, .int x4), (7, .long x7), (9, .int x9)]) hx hb dX5_byMisses_151 hl (by decide) rfl (fun ls hl => ?_)
    obtain ⟨v13, ev13⟩ : ∃ y : Int32, y = (x9 + (1 : Int32)) := ⟨_, rfl⟩
    replace hf := bnd_use ev13 hf
    refine lv_iinc (pc := 153) (v := v13) (lv' := [(9, .int v13), (5, .long v12), (0, .ref h0), (1, .int x1), (2, .int x2), (3, .int x3), (4, .int x4), (7, .long x7)]) hx hb dX5_byMisses_153 hl (k := 7) rfl (by rw [ev13]; rfl) (by decide) rfl (fun ls hl => ?_)
    refine lv_goto (pc := 156) (tgt := 32) hx hb dX5_byMisses_156 (by decide) ?_
    exact hk32 x1 x2 x3 x4 v12 x7 v13 moved turned state _ _ _ hf hX (lv_sub hl [2, 3, 4, 5, 6, 1, 7, 0] rfl)
  have L95 : ∀ (k32 : Int32 → Int32 → Int32 → Int32 → Int64 → Int64 → Int32 → Int32 → Int32 → (Nat → Int32) → Option (Int64 × Int32 × Int32 × (Nat → Int32))) (hk32 : ∀ (x1 : Int32) (x2 : Int32) (x3 : Int32) (x4 : Int32) (x5 : Int64) (x7 : Int64) (x9 : Int32) (moved : Int32) (turned : Int32) (state : (Nat → Int32)) (H : Heap) (locs : List Loc) (ls : Array Slot), k32 x1 x2 x3 x4 x5 x7 x9 moved turned state = some (r0, o_moved', o_turned', o_state') → xSt A s D [(h0, .inr (5, [.ref h_state, .ref h_readPage, .ref h_tape, .int taped, .int fault, .int broken, .int brokenAt, .int spot, .int here, .int token, .int value, .ref h_ends, .ref h_letters, .int moved, .int turned, .int worst, .ref h_seen, .int seenMany, .ref h_lastBy, .ref h_isKept, .ref h_lanes, .ref h_lengths, .ref h_cells, .int torn])), (h_state, .inl (cI, 240, .inl state))] H locs → lv_has ls 14 [(0, .ref h0), (1, .int x1), (2, .int x2), (3, .int x3), (4, .int x4), (5, .long x5), (7, .long x7), (9, .int x9)] → W p l e ({ frames := 5, cells := 0, slots := 0, locals := 117 } : Room) s m args below meth c H locs 0 0 Q (F0 m 32 ls [])) (k54 : Int32 → Int32 → Int32 → Int32 → Int64 → Int64 → Int32 → Int64 → Int32 → Int32 → Int32 → (Nat → Int32) → Option (Int64 × Int32 × Int32 × (Nat → Int32))) (hk54 : ∀ (x1 : Int32) (x2 : Int32) (x3 : Int32) (x4 : Int32) (x5 : Int64) (x7 : Int64) (x9 : Int32) (x10 : Int64) (x12 : Int32) (moved : Int32) (turned : Int32) (state : (Nat → Int32)) (H : Heap) (locs : List Loc) (ls : Array Slot), k54 x1 x2 x3 x4 x5 x7 x9 x10 x12 moved turned state = some (r0, o_moved', o_turned', o_state') → xSt A s D [(h0, .inr (5, [.ref h_state, .ref h_readPage, .ref h_tape, .int taped, .int fault, .int broken, .int brokenAt, .int spot, .int here, .int token, .int value, .ref h_ends, .ref h_letters, .int moved, .int turned, .int worst, .ref h_seen, .int seenMany, .ref h_lastBy, .ref h_isKept, .ref h_lanes, .ref h_lengths, .ref h_cells, .int torn])), (h_state, .inl (cI, 240, .inl state))] H locs → lv_has ls 14 [(0, .ref h0), (1, .int x1), (2, .int x2), (3, .int x3), (4, .int x4), (5, .long x5), (7, .long x7), (9, .int x9), (10, .long x10), (12, .int x12)] → W p l e ({ frames := 5, cells := 0, slots := 0, locals := 117 } : Room) s m args below meth c H locs 0 0 Q (F0 m 54 ls [])), ∀ (x1 : Int32) (x2 : Int32) (x3 : Int32) (x4 : Int32) (x5 : Int64) (x7 : Int64) (x9 : Int32) (x12 : Int32) (x13 : Int32) (y0 : Int64) (y1 : Int64) (moved : Int32) (turned : Int32) (state : (Nat → Int32)) (H : Heap) (locs : List Loc) (ls : Array Slot), fX5_byMisses_L95  k32 k54 x1 x2 x3 x4 x5 x7 x9 x12 x13 y0 y1 moved turned state = some (r0, o_moved', o_turned', o_state') → xSt A s D [(h0, .inr (5, [.ref h_state, .ref h_readPage, .ref h_tape, .int taped, .int fault, .int broken, .int brokenAt, .int spot, .int here, .int token, .int value, .ref h_ends, .ref h_letters, .int moved, .int turned, .int worst, .ref h_seen, .int seenMany, .ref h_lastBy, .ref h_isKept, .ref h_lanes, .ref h_lengths, .ref h_cells, .int torn])), (h_state, .inl (cI, 240, .inl state))] H locs → lv_has ls 14 [(0, .ref h0), (1, .int x1), (2, .int x2), (3, .int x3), (4, .int x4), (5, .long x5), (7, .long x7), (9, .int x9), (12, .int x12), (13, .int x13)] → W p l e ({ frames := 5, cells := 0, slots := 0, locals := 117 } : Room) s m args below meth c H locs 0 0 Q (F0 m 95 ls [.long y1, .long y0]) := by
    intro k32 hk32 k54 hk54 x1 x2 x3 x4 x5 x7 x9 x12 x13 y0 y1 moved turned state H locs ls hf hX hl
    unfold fX5_byMisses_L95 at hf
    refine lv_lmul (pc := 95) hx hb dX5_byMisses_95 ?_
    refine lv_topl (fun v16 ev16 => ?_)
    replace hf := bnd_use ev16 hf
    refine lv_lstore (pc := 96) (lv' := [(10, .long v16), (0, .ref h0), (1, .int x1), (2, .int x2), (3, .int x3), (4, .int x4), (5, .long x5), (7, .long x7), (9, .int x9), (12, .int x12), (13, .int x13)]) hx hb dX5_byMisses_96 hl (by decide) rfl (fun ls hl => ?_)
    refine lv_aload_n (pc := 98) hx hb dX5_byMisses_98 rfl (lv_at hl 1 rfl) ?_
    refine lv_sipush (pc := 99) (v := 160) hx hb dX5_byMisses_99 (by decide) ?_
    refine lv_iload (pc := 102) hx hb dX5_byMisses_102 (lv_at hl 10 rfl) ?_
    obtain ⟨u17, u18, u19, g20, hf⟩ := cl3_adv hf
    refine x_callVv (pc := 104) (rest := []) (w2 := [(h0, .inr (5, [.ref h_state, .ref h_readPage, .ref h_tape, .int taped, .int fault, .int broken, .int brokenAt, .int spot, .int here, .int token, .int value, .ref h_ends, .ref h_letters, .int u17, .int u18, .int worst, .ref h_seen, .int seenMany, .ref h_lastBy, .ref h_isKept, .ref h_lanes, .ref h_lengths, .ref h_cells, .int torn])), (h_state, .inl (cI, 240, .inl u19))]) C hX (kX5_stepOn ad l D cI cB cZ cG cS h0 h_state h_readPage h_tape h_ends h_letters h_seen h_lastBy h_isKept h_lanes h_lengths h_cells taped fault broken brokenAt spot here token value moved turned worst seenMany torn state u17 u18 u19 (160 : Int32) x13 g20) (cwV 2 C.1.2.2.2.2 gX5_byMisses_X5_stepOn rfl rfl rfl (by decide +kernel) ⟨Nat.le_of_ble_eq_true rfl, Nat.le_of_ble_eq_true rfl⟩) [0, 1] [] [0, 1] rfl rfl rfl rfl (by decide) rfl rfl 0 rfl rfl rfl hl.1 rfl rfl (Nat.le_of_ble_eq_true rfl) dX5_byMisses_104 (fun H locs hX => ?_)
    obtain ⟨v21, ev21⟩ : ∃ y : Int32, y = (x12 + (1 : Int32)) := ⟨_, rfl⟩
    replace hf := bnd_use ev21 hf
    refine lv_iinc (pc := 107) (v := v21) (lv' := [(12, .int v21), (10, .long v16), (0, .ref h0), (1, .int x1), (2, .int x2), (3, .int x3), (4, .int x4), (5, .long x5), (7, .long x7), (9, .int x9), (13, .int x13)]) hx hb dX5_byMisses_107 hl (k := 9) rfl (by rw [ev21]; rfl) (by decide) rfl (fun ls hl => ?_)
    refine lv_goto (pc := 110) (tgt := 54) hx hb dX5_byMisses_110 (by decide) ?_
    exact hk54 x1 x2 x3 x4 x5 x7 x9 v16 v21 u17 u18 u19 _ _ _ hf hX (lv_sub hl [2, 3, 4, 5, 6, 7, 8, 9, 1, 0] rfl)
  have L76 : ∀ (k32 : Int32 → Int32 → Int32 → Int32 → Int64 → Int64 → Int32 → Int32 → Int32 → (Nat → Int32) → Option (Int64 × Int32 × Int32 × (Nat → Int32))) (hk32 : ∀ (x1 : Int32) (x2 : Int32) (x3 : Int32) (x4 : Int32) (x5 : Int64) (x7 : Int64) (x9 : Int32) (moved : Int32) (turned : Int32) (state : (Nat → Int32)) (H : Heap) (locs : List Loc) (ls : Array Slot), k32 x1 x2 x3 x4 x5 x7 x9 moved turned state = some (r0, o_moved', o_turned', o_state') → xSt A s D [(h0, .inr (5, [.ref h_state, .ref h_readPage, .ref h_tape, .int taped, .int fault, .int broken, .int brokenAt, .int spot, .int here, .int token, .int value, .ref h_ends, .ref h_letters, .int moved, .int turned, .int worst, .ref h_seen, .int seenMany, .ref h_lastBy, .ref h_isKept, .ref h_lanes, .ref h_lengths, .ref h_cells, .int torn])), (h_state, .inl (cI, 240, .inl state))] H locs → lv_has ls 14 [(0, .ref h0), (1, .int x1), (2, .int x2), (3, .int x3), (4, .int x4), (5, .long x5), (7, .long x7), (9, .int x9)] → W p l e ({ frames := 5, cells := 0, slots := 0, locals := 117 } : Room) s m args below meth c H locs 0 0 Q (F0 m 32 ls [])) (k54 : Int32 → Int32 → Int32 → Int32 → Int64 → Int64 → Int32 → Int64 → Int32 → Int32 → Int32 → (Nat → Int32) → Option (Int64 × Int32 × Int32 × (Nat → Int32))) (hk54 : ∀ (x1 : Int32) (x2 : Int32) (x3 : Int32) (x4 : Int32) (x5 : Int64) (x7 : Int64) (x9 : Int32) (x10 : Int64) (x12 : Int32) (moved : Int32) (turned : Int32) (state : (Nat → Int32)) (H : Heap) (locs : List Loc) (ls : Array Slot), k54 x1 x2 x3 x4 x5 x7 x9 x10 x12 moved turned state = some (r0, o_moved', o_turned', o_state') → xSt A s D [(h0, .inr (5, [.ref h_state, .ref h_readPage, .ref h_tape, .int taped, .int fault, .int broken, .int brokenAt, .int spot, .int here, .int token, .int value, .ref h_ends, .ref h_letters, .int moved, .int turned, .int worst, .ref h_seen, .int seenMany, .ref h_lastBy, .ref h_isKept, .ref h_lanes, .ref h_lengths, .ref h_cells, .int torn])), (h_state, .inl (cI, 240, .inl state))] H locs → lv_has ls 14 [(0, .ref h0), (1, .int x1), (2, .int x2), (3, .int x3), (4, .int x4), (5, .long x5), (7, .long x7), (9, .int x9), (10, .long x10), (12, .int x12)] → W p l e ({ frames := 5, cells := 0, slots := 0, locals := 117 } : Room) s m args below meth c H locs 0 0 Q (F0 m 54 ls [])), ∀ (x1 : Int32) (x2 : Int32) (x3 : Int32) (x4 : Int32) (x5 : Int64) (x7 : Int64) (x9 : Int32) (x10 : Int64) (x12 : Int32) (y0 : Int32) (moved : Int32) (turned : Int32) (state : (Nat → Int32)) (H : Heap) (locs : List Loc) (ls : Array Slot), fX5_byMisses_L76  k32 k54 x1 x2 x3 x4 x5 x7 x9 x10 x12 y0 moved turned state = some (r0, o_moved', o_turned', o_state') → xSt A s D [(h0, .inr (5, [.ref h_state, .ref h_readPage, .ref h_tape, .int taped, .int fault, .int broken, .int brokenAt, .int spot, .int here, .int token, .int value, .ref h_ends, .ref h_letters, .int moved, .int turned, .int worst, .ref h_seen, .int seenMany, .ref h_lastBy, .ref h_isKept, .ref h_lanes, .ref h_lengths, .ref h_cells, .int torn])), (h_state, .inl (cI, 240, .inl state))] H locs → lv_has ls 14 [(0, .ref h0), (1, .int x1), (2, .int x2), (3, .int x3), (4, .int x4), (5, .long x5), (7, .long x7), (9, .int x9), (10, .long x10), (12, .int x12)] → W p l e ({ frames := 5, cells := 0, slots := 0, locals := 117 } : Room) s m args below meth c H locs 0 0 Q (F0 m 76 ls [.int y0]) := by
    intro k32 hk32 k54 hk54 x1 x2 x3 x4 x5 x7 x9 x10 x12 y0 moved turned state H locs ls hf hX hl
    unfold fX5_byMisses_L76 at hf
    refine lv_istore (pc := 76) (lv' := [(13, .int y0), (0, .ref h0), (1, .int x1), (2, .int x2), (3, .int x3), (4, .int x4), (5, .long x5), (7, .long x7), (9, .int x9), (10, .long x10), (12, .int x12)]) hx hb dX5_byMisses_76 hl (by decide) rfl (fun ls hl => ?_)
    refine lv_lload (pc := 78) hx hb dX5_byMisses_78 (lv_at hl 9 rfl) ?_
    refine lv_iload (pc := 80) hx hb dX5_byMisses_80 (lv_at hl 0 rfl) ?_
    refine lv_if_eq (pc := 82) (tgt := 90) hx hb dX5_byMisses_82 (by decide) (fun c15 => ?_) (fun c15 => ?_)
    · replace hf := ite_t c15 hf
      refine lv_bipush (pc := 90) (v := 10) hx hb dX5_byMisses_90 (by decide) ?_
      refine lv_iload_n (pc := 92) hx hb dX5_byMisses_92 rfl (lv_at hl 2 rfl) ?_
      refine lv_isub (pc := 93) hx hb dX5_byMisses_93 ?_
      refine lv_i2l (pc := 94) (v := ((((10 : Int32) - x1)).toInt64)) hx hb dX5_byMisses_94 rfl ?_
      exact L95 (k32) hk32 (k54) hk54 x1 x2 x3 x4 x5 x7 x9 x12 y0 x10 ((((10 : Int32) - x1)).toInt64) moved turned state _ _ _ hf hX (lv_sub hl [1, 2, 3, 4, 5, 6, 7, 8, 10, 0] rfl)
    · replace hf := ite_f c15 hf
      refine lv_iload_n (pc := 85) hx hb dX5_byMisses_85 rfl (lv_at hl 2 rfl) ?_
      refine lv_i2l (pc := 86) (v := ((x1).toInt64)) hx hb dX5_byMisses_86 rfl ?_
      refine lv_goto (pc := 87) (tgt := 95) hx hb dX5_byMisses_87 (by decide) ?_
      exact L95 (k32) hk32 (k54) hk54 x1 x2 x3 x4 x5 x7 x9 x12 y0 x10 ((x1).toInt64) moved turned state _ _ _ hf hX (lv_sub hl [1, 2, 3, 4, 5, 6, 7, 8, 10, 0] rfl)
  have L54 : ∀ (k32 : Int32 → Int32 → Int32 → Int32 → Int64 → Int64 → Int32 → Int32 → Int32 → (Nat → Int32) → Option (Int64 × Int32 × Int32 × (Nat → Int32))) (hk32 : ∀ (x1 : Int32) (x2 : Int32) (x3 : Int32) (x4 : Int32) (x5 : Int64) (x7 : Int64) (x9 : Int32) (moved : Int32) (turned : Int32) (state : (Nat → Int32)) (H : Heap) (locs : List Loc) (ls : Array Slot), k32 x1 x2 x3 x4 x5 x7 x9 moved turned state = some (r0, o_moved', o_turned', o_state') → xSt A s D [(h0, .inr (5, [.ref h_state, .ref h_readPage, .ref h_tape, .int taped, .int fault, .int broken, .int brokenAt, .int spot, .int here, .int token, .int value, .ref h_ends, .ref h_letters, .int moved, .int turned, .int worst, .ref h_seen, .int seenMany, .ref h_lastBy, .ref h_isKept, .ref h_lanes, .ref h_lengths, .ref h_cells, .int torn])), (h_state, .inl (cI, 240, .inl state))] H locs → lv_has ls 14 [(0, .ref h0), (1, .int x1), (2, .int x2), (3, .int x3), (4, .int x4), (5, .long x5), (7, .long x7), (9, .int x9)] → W p l e ({ frames := 5, cells := 0, slots := 0, locals := 117 } : Room) s m args below meth c H locs 0 0 Q (F0 m 32 ls [])) (n : Nat), ∀ (x1 : Int32) (x2 : Int32) (x3 : Int32) (x4 : Int32) (x5 : Int64) (x7 : Int64) (x9 : Int32) (x10 : Int64) (x12 : Int32) (moved : Int32) (turned : Int32) (state : (Nat → Int32)) (H : Heap) (locs : List Loc) (ls : Array Slot), fX5_byMisses_L54  k32 n x1 x2 x3 x4 x5 x7 x9 x10 x12 moved turned state = some (r0, o_moved', o_turned', o_state') → xSt A s D [(h0, .inr (5, [.ref h_state, .ref h_readPage, .ref h_tape, .int taped, .int fault, .int broken, .int brokenAt, .int spot, .int here, .int token, .int value, .ref h_ends, .ref h_letters, .int moved, .int turned, .int worst, .ref h_seen, .int seenMany, .ref h_lastBy, .ref h_isKept, .ref h_lanes, .ref h_lengths, .ref h_cells, .int torn])), (h_state, .inl (cI, 240, .inl state))] H locs → lv_has ls 14 [(0, .ref h0), (1, .int x1), (2, .int x2), (3, .int x3), (4, .int x4), (5, .long x5), (7, .long x7), (9, .int x9), (10, .long x10), (12, .int x12)] → W p l e ({ frames := 5, cells := 0, slots := 0, locals := 117 } : Room) s m args below meth c H locs 0 0 Q (F0 m 54 ls []) := by
    intro k32 hk32
    intro n
    induction n with
    | zero =>
      intro x1 x2 x3 x4 x5 x7 x9 x10 x12 moved turned state H locs ls hf
      rw [fX5_byMisses_L54] at hf
      cases hf
    | succ n ih =>
      intro x1 x2 x3 x4 x5 x7 x9 x10 x12 moved turned state H locs ls hf hX hl
      rw [fX5_byMisses_L54] at hf
      refine lv_iload (pc := 54) hx hb dX5_byMisses_54 (lv_at hl 9 rfl) ?_
      refine lv_iload_n (pc := 56) hx hb dX5_byMisses_56 rfl (lv_at hl 3 rfl) ?_
      refine lv_icmp_ge (pc := 57) (tgt := 113) hx hb dX5_byMisses_57 (by decide) (fun c7 => ?_) (fun c7 => ?_)
      · replace hf := ite_t c7 hf
        refine lv_aload_n (pc := 113) hx hb dX5_byMisses_113 rfl (lv_at hl 0 rfl) ?_
        refine lv_sipush (pc := 114) (v := 160) hx hb dX5_byMisses_114 (by decide) ?_
        obtain ⟨r8, g9, hf⟩ := cl1_adv hf
        refine x_callVi (pc := 117) (rest := []) (w2 := [(h0, .inr (5, [.ref h_state, .ref h_readPage, .ref h_tape, .int taped, .int fault, .int broken, .int brokenAt, .int spot, .int here, .int token, .int value, .ref h_ends, .ref h_letters, .int moved, .int turned, .int worst, .ref h_seen, .int seenMany, .ref h_lastBy, .ref h_isKept, .ref h_lanes, .ref h_lengths, .ref h_cells, .int torn])), (h_state, .inl (cI, 240, .inl state))]) C hX (kX5_errorOn ad l D cI cB cZ cG cS h0 h_state h_readPage h_tape h_ends h_letters h_seen h_lastBy h_isKept h_lanes h_lengths h_cells taped fault broken brokenAt spot here token value moved turned worst seenMany torn state r8 (160 : Int32) g9) (cwV 1 C.1.2.2.2.2 gX5_byMisses_X5_errorOn rfl rfl rfl (by decide +kernel) ⟨Nat.le_of_ble_eq_true rfl, Nat.le_of_ble_eq_true rfl⟩) [0, 1] [] [0, 1] rfl rfl rfl rfl (by decide) rfl rfl 0 rfl rfl rfl hl.1 rfl rfl (Nat.le_of_ble_eq_true rfl) dX5_byMisses_117 (fun H locs hX => ?_)
        refine lv_istore (pc := 120) (lv' := [(12, .int r8), (0, .ref h0), (1, .int x1), (2, .int x2), (3, .int x3), (4, .int x4), (5, .long x5), (7, .long x7), (9, .int x9), (10, .long x10)]) hx hb dX5_byMisses_120 hl (by decide) rfl (fun ls hl => ?_)
        refine lv_lload (pc := 122) hx hb dX5_byMisses_122 (lv_at hl 6 rfl) ?_
        refine lv_lload (pc := 124) hx hb dX5_byMisses_124 (lv_at hl 9 rfl) ?_
        refine lv_iload_n (pc := 126) hx hb dX5_byMisses_126 rfl (lv_at hl 3 rfl) ?_
        refine lv_bipush (pc := 127) (v := -4) hx hb dX5_byMisses_127 (by decide) ?_
        refine lv_icmp_ne (pc := 129) (tgt := 137) hx hb dX5_byMisses_129 (by decide) (fun c10 => ?_) (fun c10 => ?_)
        · replace hf := ite_f c10 hf
          refine lv_iload (pc := 137) hx hb dX5_byMisses_137 (lv_at hl 0 rfl) ?_
          refine lv_iload_n (pc := 139) hx hb dX5_byMisses_139 rfl (lv_at hl 3 rfl) ?_
          refine lv_icmp_gt (pc := 140) (tgt := 147) hx hb dX5_byMisses_140 (by decide) (fun c11 => ?_) (fun c11 => ?_)
          · replace hf := ite_t c11 hf
            refine lv_iconst (pc := 147) (v := 0) hx hb dX5_byMisses_147 (by decide) ?_
            exact L148 (k32) hk32 x1 x2 x3 x4 x7 x9 x5 x10 (0 : Int32) moved turned state _ _ _ hf hX (lv_sub hl [1, 2, 3, 4, 5, 7, 8] rfl)
          · replace hf := ite_f c11 hf
            refine lv_iconst (pc := 143) (v := 1) hx hb dX5_byMisses_143 (by decide) ?_
            refine lv_goto (pc := 144) (tgt := 148) hx hb dX5_byMisses_144 (by decide) ?_
            exact L148 (k32) hk32 x1 x2 x3 x4 x7 x9 x5 x10 (1 : Int32) moved turned state _ _ _ hf hX (lv_sub hl [1, 2, 3, 4, 5, 7, 8] rfl)
        · replace hf := ite_t c10 hf
          refine lv_iload (pc := 132) hx hb dX5_byMisses_132 (lv_at hl 0 rfl) ?_
          refine lv_goto (pc := 134) (tgt := 148) hx hb dX5_byMisses_134 (by decide) ?_
          exact L148 (k32) hk32 x1 x2 x3 x4 x7 x9 x5 x10 r8 moved turned state _ _ _ hf hX (lv_sub hl [1, 2, 3, 4, 5, 7, 8] rfl)
      · replace hf := ite_f c7 hf
        refine lv_iload (pc := 60) hx hb dX5_byMisses_60 (lv_at hl 7 rfl) ?_
        refine lv_iload (pc := 62) hx hb dX5_byMisses_62 (lv_at hl 9 rfl) ?_
        refine lv_ishr (pc := 64) hx hb dX5_byMisses_64 ?_
        refine lv_iconst (pc := 65) (v := 1) hx hb dX5_byMisses_65 (by decide) ?_
        refine lv_iand (pc := 66) hx hb dX5_byMisses_66 ?_
        refine lv_iconst (pc := 67) (v := 1) hx hb dX5_byMisses_67 (by decide) ?_
        refine lv_icmp_ne (pc := 68) (tgt := 75) hx hb dX5_byMisses_68 (by decide) (fun c14 => ?_) (fun c14 => ?_)
        · replace hf := ite_f c14 hf
          refine lv_iconst (pc := 75) (v := 0) hx hb dX5_byMisses_75 (by decide) ?_
          exact L76 (k32) hk32 (fX5_byMisses_L54  k32 n) ih x1 x2 x3 x4 x5 x7 x9 x10 x12 (0 : Int32) moved turned state _ _ _ hf hX (lv_sub hl [0, 1, 2, 3, 4, 5, 6, 7, 8, 9] rfl)
        · replace hf := ite_t c14 hf
          refine lv_iconst (pc := 71) (v := 1) hx hb dX5_byMisses_71 (by decide) ?_
          refine lv_goto (pc := 72) (tgt := 76) hx hb dX5_byMisses_72 (by decide) ?_
          exact L76 (k32) hk32 (fX5_byMisses_L54  k32 n) ih x1 x2 x3 x4 x5 x7 x9 x10 x12 (1 : Int32) moved turned state _ _ _ hf hX (lv_sub hl [0, 1, 2, 3, 4, 5, 6, 7, 8, 9] rfl)
  have L32 : ∀ (n : Nat), ∀ (x1 : Int32) (x2 : Int32) (x3 : Int32) (x4 : Int32) (x5 : Int64) (x7 : Int64) (x9 : Int32) (moved : Int32) (turned : Int32) (state : (Nat → Int32)) (H : Heap) (locs : List Loc) (ls : Array Slot), fX5_byMisses_L32  n x1 x2 x3 x4 x5 x7 x9 moved turned state = some (r0, o_moved', o_turned', o_state') → xSt A s D [(h0, .inr (5, [.ref h_state, .ref h_readPage, .ref h_tape, .int taped, .int fault, .int broken, .int brokenAt, .int spot, .int here, .int token, .int value, .ref h_ends, .ref h_letters, .int moved, .int turned, .int worst, .ref h_seen, .int seenMany, .ref h_lastBy, .ref h_isKept, .ref h_lanes, .ref h_lengths, .ref h_cells, .int torn])), (h_state, .inl (cI, 240, .inl state))] H locs → lv_has ls 14 [(0, .ref h0), (1, .int x1), (2, .int x2), (3, .int x3), (4, .int x4), (5, .long x5), (7, .long x7), (9, .int x9)] → W p l e ({ frames := 5, cells := 0, slots := 0, locals := 117 } : Room) s m args below meth c H locs 0 0 Q (F0 m 32 ls []) := by
    intro n
    induction n with
    | zero =>
      intro x1 x2 x3 x4 x5 x7 x9 moved turned state H locs ls hf
      rw [fX5_byMisses_L32] at hf
      cases hf
    | succ n ih =>
      intro x1 x2 x3 x4 x5 x7 x9 moved turned state H locs ls hf hX hl
      rw [fX5_byMisses_L32] at hf
      refine lv_iload (pc := 32) hx hb dX5_byMisses_32 (lv_at hl 7 rfl) ?_
      refine lv_iconst (pc := 34) (v := 1) hx hb dX5_byMisses_34 (by decide) ?_
      refine lv_iload_n (pc := 35) hx hb dX5_byMisses_35 rfl (lv_at hl 3 rfl) ?_
      refine lv_ishl (pc := 36) hx hb dX5_byMisses_36 ?_
      refine lv_icmp_ge (pc := 37) (tgt := 159) hx hb dX5_byMisses_37 (by decide) (fun c2 => ?_) (fun c2 => ?_)
      · replace hf := ite_t c2 hf
        refine lv_lload (pc := 159) hx hb dX5_byMisses_159 (lv_at hl 5 rfl) ?_
        refine lv_lload (pc := 161) hx hb dX5_byMisses_161 (lv_at hl 6 rfl) ?_
        refine lv_iload (pc := 163) hx hb dX5_byMisses_163 (lv_at hl 4 rfl) ?_
        obtain ⟨r3, g4, hf⟩ := cl1_adv hf
        refine x_callSl (pc := 165) (rest := []) C hX (kX5_lowest ad l D cI cB cZ cG cS r3 x5 x7 x4 g4) (va_cwS 3 C.1.2.2.2.2 gX5_byMisses_X5_lowest rfl rfl rfl (by decide +kernel) ⟨Nat.le_of_ble_eq_true rfl, Nat.le_of_ble_eq_true rfl⟩) hl.1 rfl rfl (Nat.le_of_ble_eq_true rfl) dX5_byMisses_165 (fun H locs hX => ?_)
        obtain ⟨rfl, rfl, rfl, rfl⟩ := re4 hf
        exact hret _ _ _ _ _ rfl hX dX5_byMisses_168
      · replace hf := ite_f c2 hf
        refine lv_lconst (pc := 40) (v := 1) hx hb dX5_byMisses_40 (by decide) ?_
        refine lv_lstore (pc := 41) (lv' := [(10, .long (1 : Int64)), (0, .ref h0), (1, .int x1), (2, .int x2), (3, .int x3), (4, .int x4), (5, .long x5), (7, .long x7), (9, .int x9)]) hx hb dX5_byMisses_41 hl (by decide) rfl (fun ls hl => ?_)
        refine lv_aload_n (pc := 43) hx hb dX5_byMisses_43 rfl (lv_at hl 1 rfl) ?_
        refine lv_iconst (pc := 44) (v := 0) hx hb dX5_byMisses_44 (by decide) ?_
        refine lv_sipush (pc := 45) (v := 160) hx hb dX5_byMisses_45 (by decide) ?_
        obtain ⟨u5, g6, hf⟩ := cl1_adv hf
        refine x_callVv (pc := 48) (rest := []) (w2 := [(h0, .inr (5, [.ref h_state, .ref h_readPage, .ref h_tape, .int taped, .int fault, .int broken, .int brokenAt, .int spot, .int here, .int token, .int value, .ref h_ends, .ref h_letters, .int moved, .int turned, .int worst, .ref h_seen, .int seenMany, .ref h_lastBy, .ref h_isKept, .ref h_lanes, .ref h_lengths, .ref h_cells, .int torn])), (h_state, .inl (cI, 240, .inl u5))]) C hX (kX5_copies ad l D cI cB cZ cG cS h0 h_state h_readPage h_tape h_ends h_letters h_seen h_lastBy h_isKept h_lanes h_lengths h_cells taped fault broken brokenAt spot here token value moved turned worst seenMany torn state u5 (0 : Int32) (160 : Int32) g6) (cwV 2 C.1.2.2.2.2 gX5_byMisses_X5_copies rfl rfl rfl (by decide +kernel) ⟨Nat.le_of_ble_eq_true rfl, Nat.le_of_ble_eq_true rfl⟩) [0, 1] [] [0, 1] rfl rfl rfl rfl (by decide) rfl rfl 0 rfl rfl rfl hl.1 rfl rfl (Nat.le_of_ble_eq_true rfl) dX5_byMisses_48 (fun H locs hX => ?_)
        refine lv_iconst (pc := 51) (v := 0) hx hb dX5_byMisses_51 (by decide) ?_
        refine lv_istore (pc := 52) (lv' := [(12, .int (0 : Int32)), (10, .long (1 : Int64)), (0, .ref h0), (1, .int x1), (2, .int x2), (3, .int x3), (4, .int x4), (5, .long x5), (7, .long x7), (9, .int x9)]) hx hb dX5_byMisses_52 hl (by decide) rfl (fun ls hl => ?_)
        exact L54 (fX5_byMisses_L32  n) ih xF x1 x2 x3 x4 x5 x7 x9 (1 : Int64) (0 : Int32) moved turned u5 _ _ _ hf hX (lv_sub hl [2, 3, 4, 5, 6, 7, 8, 9, 1, 0] rfl)
  have L9 : ∀ (n : Nat), ∀ (x1 : Int32) (x2 : Int32) (x3 : Int32) (x4 : Int32) (x5 : Int64) (x7 : Int64) (x9 : Int32) (moved : Int32) (turned : Int32) (state : (Nat → Int32)) (H : Heap) (locs : List Loc) (ls : Array Slot), fX5_byMisses_L9  n x1 x2 x3 x4 x5 x7 x9 moved turned state = some (r0, o_moved', o_turned', o_state') → xSt A s D [(h0, .inr (5, [.ref h_state, .ref h_readPage, .ref h_tape, .int taped, .int fault, .int broken, .int brokenAt, .int spot, .int here, .int token, .int value, .ref h_ends, .ref h_letters, .int moved, .int turned, .int worst, .ref h_seen, .int seenMany, .ref h_lastBy, .ref h_isKept, .ref h_lanes, .ref h_lengths, .ref h_cells, .int torn])), (h_state, .inl (cI, 240, .inl state))] H locs → lv_has ls 14 [(0, .ref h0), (1, .int x1), (2, .int x2), (3, .int x3), (4, .int x4), (5, .long x5), (7, .long x7), (9, .int x9)] → W p l e ({ frames := 5, cells := 0, slots := 0, locals := 117 } : Room) s m args below meth c H locs 0 0 Q (F0 m 9 ls []) := by
    intro n
    induction n with
    | zero =>
      intro x1 x2 x3 x4 x5 x7 x9 moved turned state H locs ls hf
      rw [fX5_byMisses_L9] at hf
      cases hf
    | succ n ih =>
      intro x1 x2 x3 x4 x5 x7 x9 moved turned state H locs ls hf hX hl
      rw [fX5_byMisses_L9] at hf
      refine lv_iload (pc := 9) hx hb dX5_byMisses_9 (lv_at hl 7 rfl) ?_
      refine lv_iload_n (pc := 11) hx hb dX5_byMisses_11 rfl (lv_at hl 3 rfl) ?_
      refine lv_icmp_ge (pc := 12) (tgt := 29) hx hb dX5_byMisses_12 (by decide) (fun c1 => ?_) (fun c1 => ?_)
      · replace hf := ite_t c1 hf
        refine lv_iconst (pc := 29) (v := 0) hx hb dX5_byMisses_29 (by decide) ?_
        refine lv_istore (pc := 30) (lv' := [(9, .int (0 : Int32)), (0, .ref h0), (1, .int x1), (2, .int x2), (3, .int x3), (4, .int x4), (5, .long x5), (7, .long x7)]) hx hb dX5_byMisses_30 hl (by decide) rfl (fun ls hl => ?_)
        exact L32  xF x1 x2 x3 x4 x5 x7 (0 : Int32) moved turned state _ _ _ hf hX (lv_sub hl [1, 2, 3, 4, 5, 6, 7, 0] rfl)
      · replace hf := ite_f c1 hf
        refine lv_lload (pc := 15) hx hb dX5_byMisses_15 (lv_at hl 6 rfl) ?_
        refine lv_ldc2 (pc := 17) hx hb C.1.2.2.2.1 (C.1.2.2.2.2 _ mmX5_byMisses_1) dX5_byMisses_17 ?_
        refine lv_lmul (pc := 20) hx hb dX5_byMisses_20 ?_
        refine lv_topl (fun v22 ev22 => ?_)
        replace hf := bnd_use ev22 hf
        refine lv_lstore (pc := 21) (lv' := [(7, .long v22), (0, .ref h0), (1, .int x1), (2, .int x2), (3, .int x3), (4, .int x4), (5, .long x5), (9, .int x9)]) hx hb dX5_byMisses_21 hl (by decide) rfl (fun ls hl => ?_)
        obtain ⟨v23, ev23⟩ : ∃ y : Int32, y = (x9 + (1 : Int32)) := ⟨_, rfl⟩
        replace hf := bnd_use ev23 hf
        refine lv_iinc (pc := 23) (v := v23) (lv' := [(9, .int v23), (7, .long v22), (0, .ref h0), (1, .int x1), (2, .int x2), (3, .int x3), (4, .int x4), (5, .long x5)]) hx hb dX5_byMisses_23 hl (k := 7) rfl (by rw [ev23]; rfl) (by decide) rfl (fun ls hl => ?_)
        refine lv_goto (pc := 26) (tgt := 9) hx hb dX5_byMisses_26 (by decide) ?_
        exact ih x1 x2 x3 x4 x5 v22 v23 moved turned state _ _ _ hf hX (lv_sub hl [2, 3, 4, 5, 6, 7, 1, 0] rfl)
  unfold fX5_byMisses at hf
  refine lv_lconst (pc := 0) (v := 0) hx hb dX5_byMisses_0 (by decide) ?_
  refine lv_lstore (pc := 1) (lv' := [(5, .long (0 : Int64)), (0, .ref h0), (1, .int p1), (2, .int p2), (3, .int p3), (4, .int p4)]) hx hb dX5_byMisses_1 hl (by decide) rfl (fun ls hl => ?_)
  refine lv_lconst (pc := 3) (v := 1) hx hb dX5_byMisses_3 (by decide) ?_
  refine lv_lstore (pc := 4) (lv' := [(7, .long (1 : Int64)), (5, .long (0 : Int64)), (0, .ref h0), (1, .int p1), (2, .int p2), (3, .int p3), (4, .int p4)]) hx hb dX5_byMisses_4 hl (by decide) rfl (fun ls hl => ?_)
  refine lv_iconst (pc := 6) (v := 0) hx hb dX5_byMisses_6 (by decide) ?_
  refine lv_istore (pc := 7) (lv' := [(9, .int (0 : Int32)), (7, .long (1 : Int64)), (5, .long (0 : Int64)), (0, .ref h0), (1, .int p1), (2, .int p2), (3, .int p3), (4, .int p4)]) hx hb dX5_byMisses_7 hl (by decide) rfl (fun ls hl => ?_)
  exact L9  xF p1 p2 p3 p4 (0 : Int64) (1 : Int64) (0 : Int32) moved turned state _ _ _ hf hX (lv_sub hl [3, 4, 5, 6, 7, 2, 1, 0] rfl)
theorem mmX5_luck_1 : Cond.constantLong RX5 202 (10) ∈ wsX5_luck := List.mem_of_getElem? (i := 1) rfl
theorem mmX5_luck_4 : Cond.constantLong RX5 216 (-1) ∈ wsX5_luck := List.mem_of_getElem? (i := 4) rfl
theorem mmX5_luck_2 : Cond.constantLong RX5 208 (99) ∈ wsX5_luck := List.mem_of_getElem? (i := 2) rfl
theorem mmX5_luck_3 : Cond.constantLong RX5 210 (8) ∈ wsX5_luck := List.mem_of_getElem? (i := 3) rfl
set_option maxHeartbeats 4000000 in
set_option maxRecDepth 100000 in
theorem kX5_luck (ad : xAd) (l : Launch) (D : va_G) (cI cB cZ cG cS : ClassId) (h0 h_state h_readPage h_tape h_ends h_letters h_seen h_lastBy h_isKept h_lanes h_lengths h_cells : Nat) (taped : Int32) (fault : Int32) (broken : Int32) (brokenAt : Int32) (spot : Int32) (here : Int32) (token : Int32) (value : Int32) (moved : Int32) (turned : Int32) (worst : Int32) (seenMany : Int32) (torn : Int32) (state : (Nat → Int32)) (r0 : Int64) (o_moved' : Int32) (o_turned' : Int32) (o_state' : (Nat → Int32)) (p1 : Int32) (p2 : Int32) (p3 : Int32) (p4 : Int32) (hf : fX5_luck p1 p2 p3 p4 moved turned state = some (r0, o_moved', o_turned', o_state')) : xMl ad l yX5_luck wsX5_luck ({ frames := 6, cells := 0, slots := 0, locals := 150 } : Room) D (xTY cI cB cZ cG cS) [.ref h0, .int p1, .int p2, .int p3, .int p4] [(h0, .inr (5, [.ref h_state, .ref h_readPage, .ref h_tape, .int taped, .int fault, .int broken, .int brokenAt, .int spot, .int here, .int token, .int value, .ref h_ends, .ref h_letters, .int moved, .int turned, .int worst, .ref h_seen, .int seenMany, .ref h_lastBy, .ref h_isKept, .ref h_lanes, .ref h_lengths, .ref h_cells, .int torn])), (h_state, .inl (cI, 240, .inl state))] [(h0, .inr (5, [.ref h_state, .ref h_readPage, .ref h_tape, .int taped, .int fault, .int broken, .int brokenAt, .int spot, .int here, .int token, .int value, .ref h_ends, .ref h_letters, .int o_moved', .int o_turned', .int worst, .ref h_seen, .int seenMany, .ref h_lastBy, .ref h_isKept, .ref h_lanes, .ref h_lengths, .ref h_cells, .int torn])), (h_state, .inl (cI, 240, .inl o_state'))] r0 := by
  refine xMl_of (cc := cX5_luck) (maxL := 5) (by decide) rfl (Nat.le_of_ble_eq_true rfl) ?_
  intro p e s m args below meth c A Q ls C hX hl hret
  have hx := C.1.1
  have hb := C.1.2.1
  have hl : lv_has ls 5 [(0, .ref h0), (1, .int p1), (2, .int p2), (3, .int p3), (4, .int p4)] := hl
  unfold fX5_luck at hf
  refine lv_iload_n (pc := 0) hx hb dX5_luck_0 rfl (lv_at hl 1 rfl) ?_
  refine lv_i2l (pc := 1) (v := ((p1).toInt64)) hx hb dX5_luck_1 rfl ?_
  refine lv_lconst (pc := 2) (v := 0) hx hb dX5_luck_2 (by decide) ?_
  refine lv_ldc2 (pc := 3) hx hb C.1.2.2.2.1 (C.1.2.2.2.2 _ mmX5_luck_1) dX5_luck_3 ?_
  obtain ⟨r1, g2, hf⟩ := cl1_adv hf
  refine x_callSi (pc := 6) (rest := []) C hX (kX5_in ad l D cI cB cZ cG cS r1 ((p1).toInt64) (0 : Int64) (10 : Int64) g2) (va_cwS 3 C.1.2.2.2.2 gX5_luck_X5_in rfl rfl rfl (by decide +kernel) ⟨Nat.le_of_ble_eq_true rfl, Nat.le_of_ble_eq_true rfl⟩) hl.1 rfl rfl (Nat.le_of_ble_eq_true rfl) dX5_luck_6 (fun H locs hX => ?_)
  refine lv_if_eq (pc := 9) (tgt := 59) hx hb dX5_luck_9 (by decide) (fun c3 => ?_) (fun c3 => ?_)
  · replace hf := ite_t c3 hf
    refine lv_ldc2 (pc := 59) hx hb C.1.2.2.2.1 (C.1.2.2.2.2 _ mmX5_luck_4) dX5_luck_59 ?_
    obtain ⟨rfl, rfl, rfl, rfl⟩ := re4 hf
    exact hret _ _ _ _ _ rfl hX dX5_luck_62
  · replace hf := ite_f c3 hf
    refine lv_iload_n (pc := 12) hx hb dX5_luck_12 rfl (lv_at hl 2 rfl) ?_
    refine lv_i2l (pc := 13) (v := ((p2).toInt64)) hx hb dX5_luck_13 rfl ?_
    refine lv_lconst (pc := 14) (v := 0) hx hb dX5_luck_14 (by decide) ?_
    refine lv_ldc2 (pc := 15) hx hb C.1.2.2.2.1 (C.1.2.2.2.2 _ mmX5_luck_2) dX5_luck_15 ?_
    obtain ⟨r4, g5, hf⟩ := cl1_adv hf
    refine x_callSi (pc := 18) (rest := []) C hX (kX5_in ad l D cI cB cZ cG cS r4 ((p2).toInt64) (0 : Int64) (99 : Int64) g5) (va_cwS 3 C.1.2.2.2.2 gX5_luck_X5_in rfl rfl rfl (by decide +kernel) ⟨Nat.le_of_ble_eq_true rfl, Nat.le_of_ble_eq_true rfl⟩) hl.1 rfl rfl (Nat.le_of_ble_eq_true rfl) dX5_luck_18 (fun H locs hX => ?_)
    refine lv_if_eq (pc := 21) (tgt := 59) hx hb dX5_luck_21 (by decide) (fun c6 => ?_) (fun c6 => ?_)
    · replace hf := ite_t c6 hf
      refine lv_ldc2 (pc := 59) hx hb C.1.2.2.2.1 (C.1.2.2.2.2 _ mmX5_luck_4) dX5_luck_59 ?_
      obtain ⟨rfl, rfl, rfl, rfl⟩ := re4 hf
      exact hret _ _ _ _ _ rfl hX dX5_luck_62
    · replace hf := ite_f c6 hf
      refine lv_iload_n (pc := 24) hx hb dX5_luck_24 rfl (lv_at hl 3 rfl) ?_
      refine lv_i2l (pc := 25) (v := ((p3).toInt64)) hx hb dX5_luck_25 rfl ?_
      refine lv_lconst (pc := 26) (v := 0) hx hb dX5_luck_26 (by decide) ?_
      refine lv_ldc2 (pc := 27) hx hb C.1.2.2.2.1 (C.1.2.2.2.2 _ mmX5_luck_3) dX5_luck_27 ?_
      obtain ⟨r7, g8, hf⟩ := cl1_adv hf
      refine x_callSi (pc := 30) (rest := []) C hX (kX5_in ad l D cI cB cZ cG cS r7 ((p3).toInt64) (0 : Int64) (8 : Int64) g8) (va_cwS 3 C.1.2.2.2.2 gX5_luck_X5_in rfl rfl rfl (by decide +kernel) ⟨Nat.le_of_ble_eq_true rfl, Nat.le_of_ble_eq_true rfl⟩) hl.1 rfl rfl (Nat.le_of_ble_eq_true rfl) dX5_luck_30 (fun H locs hX => ?_)
      refine lv_if_eq (pc := 33) (tgt := 59) hx hb dX5_luck_33 (by decide) (fun c9 => ?_) (fun c9 => ?_)
      · replace hf := ite_t c9 hf
        refine lv_ldc2 (pc := 59) hx hb C.1.2.2.2.1 (C.1.2.2.2.2 _ mmX5_luck_4) dX5_luck_59 ?_
        obtain ⟨rfl, rfl, rfl, rfl⟩ := re4 hf
        exact hret _ _ _ _ _ rfl hX dX5_luck_62
      · replace hf := ite_f c9 hf
        refine lv_iload (pc := 36) hx hb dX5_luck_36 (lv_at hl 4 rfl) ?_
        refine lv_i2l (pc := 38) (v := ((p4).toInt64)) hx hb dX5_luck_38 rfl ?_
        refine lv_lconst (pc := 39) (v := 0) hx hb dX5_luck_39 (by decide) ?_
        refine lv_lconst (pc := 40) (v := 1) hx hb dX5_luck_40 (by decide) ?_
        obtain ⟨r10, g11, hf⟩ := cl1_adv hf
        refine x_callSi (pc := 41) (rest := []) C hX (kX5_in ad l D cI cB cZ cG cS r10 ((p4).toInt64) (0 : Int64) (1 : Int64) g11) (va_cwS 3 C.1.2.2.2.2 gX5_luck_X5_in rfl rfl rfl (by decide +kernel) ⟨Nat.le_of_ble_eq_true rfl, Nat.le_of_ble_eq_true rfl⟩) hl.1 rfl rfl (Nat.le_of_ble_eq_true rfl) dX5_luck_41 (fun H locs hX => ?_)
        refine lv_if_eq (pc := 44) (tgt := 59) hx hb dX5_luck_44 (by decide) (fun c12 => ?_) (fun c12 => ?_)
        · replace hf := ite_t c12 hf
          refine lv_ldc2 (pc := 59) hx hb C.1.2.2.2.1 (C.1.2.2.2.2 _ mmX5_luck_4) dX5_luck_59 ?_
          obtain ⟨rfl, rfl, rfl, rfl⟩ := re4 hf
          exact hret _ _ _ _ _ rfl hX dX5_luck_62
        · replace hf := ite_f c12 hf
          refine lv_aload_n (pc := 47) hx hb dX5_luck_47 rfl (lv_at hl 0 rfl) ?_
          refine lv_iload_n (pc := 48) hx hb dX5_luck_48 rfl (lv_at hl 1 rfl) ?_
          refine lv_iload_n (pc := 49) hx hb dX5_luck_49 rfl (lv_at hl 2 rfl) ?_
          refine lv_iload_n (pc := 50) hx hb dX5_luck_50 rfl (lv_at hl 3 rfl) ?_
          refine lv_iload (pc := 51) hx hb dX5_luck_51 (lv_at hl 4 rfl) ?_
          obtain ⟨r13, u14, u15, u16, g17, hf⟩ := cl4_adv hf
          refine x_callVl (pc := 53) (rest := []) (w2 := [(h0, .inr (5, [.ref h_state, .ref h_readPage, .ref h_tape, .int taped, .int fault, .int broken, .int brokenAt, .int spot, .int here, .int token, .int value, .ref h_ends, .ref h_letters, .int u14, .int u15, .int worst, .ref h_seen, .int seenMany, .ref h_lastBy, .ref h_isKept, .ref h_lanes, .ref h_lengths, .ref h_cells, .int torn])), (h_state, .inl (cI, 240, .inl u16))]) C hX (kX5_byMisses ad l D cI cB cZ cG cS h0 h_state h_readPage h_tape h_ends h_letters h_seen h_lastBy h_isKept h_lanes h_lengths h_cells taped fault broken brokenAt spot here token value moved turned worst seenMany torn state r13 u14 u15 u16 p1 p2 p3 p4 g17) (cwV 4 C.1.2.2.2.2 gX5_luck_X5_byMisses rfl rfl rfl (by decide +kernel) ⟨Nat.le_of_ble_eq_true rfl, Nat.le_of_ble_eq_true rfl⟩) [0, 1] [] [0, 1] rfl rfl rfl rfl (by decide) rfl rfl 0 rfl rfl rfl hl.1 rfl rfl (Nat.le_of_ble_eq_true rfl) dX5_luck_53 (fun H locs hX => ?_)
          refine lv_goto (pc := 56) (tgt := 62) hx hb dX5_luck_56 (by decide) ?_
          obtain ⟨rfl, rfl, rfl, rfl⟩ := re4 hf
          exact hret _ _ _ _ _ rfl hX dX5_luck_62
theorem mmX5_mean_1 : Cond.constantLong RX5 202 (10) ∈ wsX5_mean := List.mem_of_getElem? (i := 1) rfl
theorem mmX5_mean_3 : Cond.constantLong RX5 216 (-1) ∈ wsX5_mean := List.mem_of_getElem? (i := 3) rfl
theorem mmX5_mean_2 : Cond.constantLong RX5 210 (8) ∈ wsX5_mean := List.mem_of_getElem? (i := 2) rfl
set_option maxHeartbeats 4000000 in
set_option maxRecDepth 100000 in
theorem kX5_mean (ad : xAd) (l : Launch) (D : va_G) (cI cB cZ cG cS : ClassId) (h0 h_state h_readPage h_tape h_ends h_letters h_seen h_lastBy h_isKept h_lanes h_lengths h_cells : Nat) (taped : Int32) (fault : Int32) (broken : Int32) (brokenAt : Int32) (spot : Int32) (here : Int32) (token : Int32) (value : Int32) (moved : Int32) (turned : Int32) (worst : Int32) (seenMany : Int32) (torn : Int32) (state : (Nat → Int32)) (r0 : Int64) (o_moved' : Int32) (o_turned' : Int32) (o_state' : (Nat → Int32)) (p1 : Int32) (p2 : Int32) (p3 : Int32) (hf : fX5_mean p1 p2 p3 moved turned state = some (r0, o_moved', o_turned', o_state')) : xMl ad l yX5_mean wsX5_mean ({ frames := 6, cells := 0, slots := 0, locals := 150 } : Room) D (xTY cI cB cZ cG cS) [.ref h0, .int p1, .int p2, .int p3] [(h0, .inr (5, [.ref h_state, .ref h_readPage, .ref h_tape, .int taped, .int fault, .int broken, .int brokenAt, .int spot, .int here, .int token, .int value, .ref h_ends, .ref h_letters, .int moved, .int turned, .int worst, .ref h_seen, .int seenMany, .ref h_lastBy, .ref h_isKept, .ref h_lanes, .ref h_lengths, .ref h_cells, .int torn])), (h_state, .inl (cI, 240, .inl state))] [(h0, .inr (5, [.ref h_state, .ref h_readPage, .ref h_tape, .int taped, .int fault, .int broken, .int brokenAt, .int spot, .int here, .int token, .int value, .ref h_ends, .ref h_letters, .int o_moved', .int o_turned', .int worst, .ref h_seen, .int seenMany, .ref h_lastBy, .ref h_isKept, .ref h_lanes, .ref h_lengths, .ref h_cells, .int torn])), (h_state, .inl (cI, 240, .inl o_state'))] r0 := by
  refine xMl_of (cc := cX5_mean) (maxL := 4) (by decide) rfl (Nat.le_of_ble_eq_true rfl) ?_
  intro p e s m args below meth c A Q ls C hX hl hret
  have hx := C.1.1
  have hb := C.1.2.1
  have hl : lv_has ls 4 [(0, .ref h0), (1, .int p1), (2, .int p2), (3, .int p3)] := hl
  unfold fX5_mean at hf
  refine lv_iload_n (pc := 0) hx hb dX5_mean_0 rfl (lv_at hl 1 rfl) ?_
  refine lv_i2l (pc := 1) (v := ((p1).toInt64)) hx hb dX5_mean_1 rfl ?_
  refine lv_lconst (pc := 2) (v := 0) hx hb dX5_mean_2 (by decide) ?_
  refine lv_ldc2 (pc := 3) hx hb C.1.2.2.2.1 (C.1.2.2.2.2 _ mmX5_mean_1) dX5_mean_3 ?_
  obtain ⟨r1, g2, hf⟩ := cl1_adv hf
  refine x_callSi (pc := 6) (rest := []) C hX (kX5_in ad l D cI cB cZ cG cS r1 ((p1).toInt64) (0 : Int64) (10 : Int64) g2) (va_cwS 3 C.1.2.2.2.2 gX5_mean_X5_in rfl rfl rfl (by decide +kernel) ⟨Nat.le_of_ble_eq_true rfl, Nat.le_of_ble_eq_true rfl⟩) hl.1 rfl rfl (Nat.le_of_ble_eq_true rfl) dX5_mean_6 (fun H locs hX => ?_)
  refine lv_if_eq (pc := 9) (tgt := 46) hx hb dX5_mean_9 (by decide) (fun c3 => ?_) (fun c3 => ?_)
  · replace hf := ite_t c3 hf
    refine lv_ldc2 (pc := 46) hx hb C.1.2.2.2.1 (C.1.2.2.2.2 _ mmX5_mean_3) dX5_mean_46 ?_
    obtain ⟨rfl, rfl, rfl, rfl⟩ := re4 hf
    exact hret _ _ _ _ _ rfl hX dX5_mean_49
  · replace hf := ite_f c3 hf
    refine lv_iload_n (pc := 12) hx hb dX5_mean_12 rfl (lv_at hl 2 rfl) ?_
    refine lv_i2l (pc := 13) (v := ((p2).toInt64)) hx hb dX5_mean_13 rfl ?_
    refine lv_lconst (pc := 14) (v := 0) hx hb dX5_mean_14 (by decide) ?_
    refine lv_ldc2 (pc := 15) hx hb C.1.2.2.2.1 (C.1.2.2.2.2 _ mmX5_mean_2) dX5_mean_15 ?_
    obtain ⟨r4, g5, hf⟩ := cl1_adv hf
    refine x_callSi (pc := 18) (rest := []) C hX (kX5_in ad l D cI cB cZ cG cS r4 ((p2).toInt64) (0 : Int64) (8 : Int64) g5) (va_cwS 3 C.1.2.2.2.2 gX5_mean_X5_in rfl rfl rfl (by decide +kernel) ⟨Nat.le_of_ble_eq_true rfl, Nat.le_of_ble_eq_true rfl⟩) hl.1 rfl rfl (Nat.le_of_ble_eq_true rfl) dX5_mean_18 (fun H locs hX => ?_)
    refine lv_if_eq (pc := 21) (tgt := 46) hx hb dX5_mean_21 (by decide) (fun c6 => ?_) (fun c6 => ?_)
    · replace hf := ite_t c6 hf
      refine lv_ldc2 (pc := 46) hx hb C.1.2.2.2.1 (C.1.2.2.2.2 _ mmX5_mean_3) dX5_mean_46 ?_
      obtain ⟨rfl, rfl, rfl, rfl⟩ := re4 hf
      exact hret _ _ _ _ _ rfl hX dX5_mean_49
    · replace hf := ite_f c6 hf
      refine lv_iload_n (pc := 24) hx hb dX5_mean_24 rfl (lv_at hl 3 rfl) ?_
      refine lv_i2l (pc := 25) (v := ((p3).toInt64)) hx hb dX5_mean_25 rfl ?_
      refine lv_lconst (pc := 26) (v := 0) hx hb dX5_mean_26 (by decide) ?_
      refine lv_lconst (pc := 27) (v := 1) hx hb dX5_mean_27 (by decide) ?_
      obtain ⟨r7, g8, hf⟩ := cl1_adv hf
      refine x_callSi (pc := 28) (rest := []) C hX (kX5_in ad l D cI cB cZ cG cS r7 ((p3).toInt64) (0 : Int64) (1 : Int64) g8) (va_cwS 3 C.1.2.2.2.2 gX5_mean_X5_in rfl rfl rfl (by decide +kernel) ⟨Nat.le_of_ble_eq_true rfl, Nat.le_of_ble_eq_true rfl⟩) hl.1 rfl rfl (Nat.le_of_ble_eq_true rfl) dX5_mean_28 (fun H locs hX => ?_)
      refine lv_if_eq (pc := 31) (tgt := 46) hx hb dX5_mean_31 (by decide) (fun c9 => ?_) (fun c9 => ?_)
      · replace hf := ite_t c9 hf
        refine lv_ldc2 (pc := 46) hx hb C.1.2.2.2.1 (C.1.2.2.2.2 _ mmX5_mean_3) dX5_mean_46 ?_
        obtain ⟨rfl, rfl, rfl, rfl⟩ := re4 hf
        exact hret _ _ _ _ _ rfl hX dX5_mean_49
      · replace hf := ite_f c9 hf
        refine lv_aload_n (pc := 34) hx hb dX5_mean_34 rfl (lv_at hl 0 rfl) ?_
        refine lv_iload_n (pc := 35) hx hb dX5_mean_35 rfl (lv_at hl 1 rfl) ?_
        refine lv_bipush (pc := 36) (v := -4) hx hb dX5_mean_36 (by decide) ?_
        refine lv_iload_n (pc := 38) hx hb dX5_mean_38 rfl (lv_at hl 2 rfl) ?_
        refine lv_iload_n (pc := 39) hx hb dX5_mean_39 rfl (lv_at hl 3 rfl) ?_
        obtain ⟨r10, u11, u12, u13, g14, hf⟩ := cl4_adv hf
        refine x_callVl (pc := 40) (rest := []) (w2 := [(h0, .inr (5, [.ref h_state, .ref h_readPage, .ref h_tape, .int taped, .int fault, .int broken, .int brokenAt, .int spot, .int here, .int token, .int value, .ref h_ends, .ref h_letters, .int u11, .int u12, .int worst, .ref h_seen, .int seenMany, .ref h_lastBy, .ref h_isKept, .ref h_lanes, .ref h_lengths, .ref h_cells, .int torn])), (h_state, .inl (cI, 240, .inl u13))]) C hX (kX5_byMisses ad l D cI cB cZ cG cS h0 h_state h_readPage h_tape h_ends h_letters h_seen h_lastBy h_isKept h_lanes h_lengths h_cells taped fault broken brokenAt spot here token value moved turned worst seenMany torn state r10 u11 u12 u13 p1 (-4 : Int32) p2 p3 g14) (cwV 4 C.1.2.2.2.2 gX5_mean_X5_byMisses rfl rfl rfl (by decide +kernel) ⟨Nat.le_of_ble_eq_true rfl, Nat.le_of_ble_eq_true rfl⟩) [0, 1] [] [0, 1] rfl rfl rfl rfl (by decide) rfl rfl 0 rfl rfl rfl hl.1 rfl rfl (Nat.le_of_ble_eq_true rfl) dX5_mean_40 (fun H locs hX => ?_)
        refine lv_goto (pc := 43) (tgt := 49) hx hb dX5_mean_43 (by decide) ?_
        obtain ⟨rfl, rfl, rfl, rfl⟩ := re4 hf
        exact hret _ _ _ _ _ rfl hX dX5_mean_49
