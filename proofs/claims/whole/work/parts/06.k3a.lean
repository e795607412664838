theorem mmX3_append_1 : Cond.fieldLink RX3 15 "SlackArms$Tape" "length" "I" ∈ wsX3_append := List.mem_of_getElem? (i := 1) rfl
theorem miX3_append_X3 : ∀ w ∈ u_ws RX3 TX3 7, w ∈ wsX3_append := fun w h => List.mem_cons_of_mem _ (List.mem_append_right _ h)
theorem mmX3_append_2 : Cond.fieldLink RX3 9 "SlackArms$Tape" "bytes" "[B" ∈ wsX3_append := List.mem_of_getElem? (i := 2) rfl
set_option maxHeartbeats 4000000 in
set_option maxRecDepth 100000 in
theorem kX3_append (ad : xAd) (l : Launch) (D : va_G) (cI cB cZ cG cS : ClassId) (h0 h_bytes : Nat) (length : Int32) (fault : Int32) (faultPlace : Int32) (token : Int32) (tokenStart : Int32) (tokenEnd : Int32) (bytes : (Nat → Int32)) (r0 : Int32) (o_length' : Int32) (o_bytes' : (Nat → Int32)) (p1 : Int32) (hf : fX3_append p1 length bytes = some (r0, o_length', o_bytes')) : xMi ad l yX3_append wsX3_append ({ frames := 0, cells := 0, slots := 0, locals := 0 } : Room) D (xTY cI cB cZ cG cS) [.ref h0, .int p1] [(h0, .inr (3, [.ref h_bytes, .int length, .int fault, .int faultPlace, .int token, .int tokenStart, .int tokenEnd])), (h_bytes, .inl (cB, 160, .inl bytes))] [(h0, .inr (3, [.ref h_bytes, .int o_length', .int fault, .int faultPlace, .int token, .int tokenStart, .int tokenEnd])), (h_bytes, .inl (cB, 160, .inl o_bytes'))] r0 := by
  refine xMi_of (cc := cX3_append) (maxL := 2) (ty := .boolean) (by decide) rfl (Nat.le_of_ble_eq_true rfl) ?_
  intro p e s m args below meth c A Q ls C hX hl hret
  have hx := C.1.1
  have hb := C.1.2.1
  have hl : lv_has ls 2 [(0, .ref h0), (1, .int p1)] := hl
  unfold fX3_append at hf
  refine lv_aload_n (pc := 0) hx hb dX3_append_0 rfl (lv_at hl 0 rfl) ?_
  refine x_getf (pc := 1) (Cn := RX3) (T := TX3) (N := 7) C hX 0 rfl rfl miX3_append_X3 1 (by decide) mmX3_append_1 rfl dX3_append_1 ?_
  refine lv_sipush (pc := 4) (v := 160) hx hb dX3_append_4 (by decide) ?_
  refine lv_icmp_lt (pc := 7) (tgt := 12) hx hb dX3_append_7 (by decide) (fun c1 => ?_) (fun c1 => ?_)
  · replace hf := ite_t c1 hf
    refine lv_aload_n (pc := 12) hx hb dX3_append_12 rfl (lv_at hl 0 rfl) ?_
    refine x_getf (pc := 13) (Cn := RX3) (T := TX3) (N := 7) C hX 0 rfl rfl miX3_append_X3 0 (by decide) mmX3_append_2 rfl dX3_append_13 ?_
    refine lv_aload_n (pc := 16) hx hb dX3_append_16 rfl (lv_at hl 0 rfl) ?_
    refine x_getf (pc := 17) (Cn := RX3) (T := TX3) (N := 7) C hX 0 rfl rfl miX3_append_X3 1 (by decide) mmX3_append_1 rfl dX3_append_17 ?_
    refine lv_iload_n (pc := 20) hx hb dX3_append_20 rfl (lv_at hl 1 rfl) ?_
    refine lv_i2b (pc := 21) (v := ((p1).toInt8.toInt32)) hx hb dX3_append_21 rfl ?_
    refine lv_topi (fun v2 ev2 => ?_)
    replace hf := bnd_use ev2 hf
    replace hf := chk_adv hf
    have i3 := hf.1
    replace hf := hf.2
    obtain ⟨f4, ef4⟩ : ∃ y : Nat → Int32, y = (upd bytes (length).toNatClampNeg (vp_nar .byte v2)) := ⟨_, rfl⟩
    replace hf := bnd_use ef4 hf
    refine x_bast (pc := 22) C hX 1 1 rfl rfl i3 [(h0, .inr (3, [.ref h_bytes, .int length, .int fault, .int faultPlace, .int token, .int tokenStart, .int tokenEnd])), (h_bytes, .inl (cB, 160, .inl f4))] (by subst ef4; rfl) dX3_append_22 (fun H locs hX => ?_)
    refine lv_aload_n (pc := 23) hx hb dX3_append_23 rfl (lv_at hl 0 rfl) ?_
    refine lv_dup (pc := 24) hx hb dX3_append_24 rfl ?_
    refine x_getf (pc := 25) (Cn := RX3) (T := TX3) (N := 7) C hX 0 rfl rfl miX3_append_X3 1 (by decide) mmX3_append_1 rfl dX3_append_25 ?_
    refine lv_iconst (pc := 28) (v := 1) hx hb dX3_append_28 (by decide) ?_
    refine lv_iadd (pc := 29) hx hb dX3_append_29 ?_
    refine lv_topi (fun v5 ev5 => ?_)
    replace hf := bnd_use ev5 hf
    refine x_putf (pc := 30) (Cn := RX3) (T := TX3) (N := 7) C hX tyX3 tyX3_ok nmX3 0 rfl rfl miX3_append_X3 1 (by decide) mmX3_append_1 rfl rfl (Nat.le_of_ble_eq_true rfl) [(h0, .inr (3, [.ref h_bytes, .int v5, .int fault, .int faultPlace, .int token, .int tokenStart, .int tokenEnd])), (h_bytes, .inl (cB, 160, .inl f4))] rfl dX3_append_30 (fun H locs hX => ?_)
    refine lv_iconst (pc := 33) (v := 1) hx hb dX3_append_33 (by decide) ?_
    obtain ⟨rfl, rfl, rfl⟩ := re3 hf
    exact hret _ _ _ _ _ rfl rfl hX dX3_append_34
  · replace hf := ite_f c1 hf
    refine lv_iconst (pc := 10) (v := 0) hx hb dX3_append_10 (by decide) ?_
    obtain ⟨rfl, rfl, rfl⟩ := re3 hf
    exact hret _ _ _ _ _ rfl rfl hX dX3_append_11
theorem mmX3_endOfRun_1 : Cond.fieldLink RX3 15 "SlackArms$Tape" "length" "I" ∈ wsX3_endOfRun := List.mem_of_getElem? (i := 1) rfl
theorem miX3_endOfRun_X3 : ∀ w ∈ u_ws RX3 TX3 7, w ∈ wsX3_endOfRun := fun w h => List.mem_cons_of_mem _ (List.mem_append_right _ h)
theorem mmX3_endOfRun_2 : Cond.fieldLink RX3 9 "SlackArms$Tape" "bytes" "[B" ∈ wsX3_endOfRun := List.mem_of_getElem? (i := 2) rfl
theorem mmX3_endOfRun_4 : Cond.initialized RX4 ∈ wsX3_endOfRun := List.mem_of_getElem? (i := 4) rfl
theorem mmX3_endOfRun_3 : Cond.static yX4_within ∈ wsX3_endOfRun := List.mem_of_getElem? (i := 3) rfl
set_option maxHeartbeats 4000000 in
set_option maxRecDepth 100000 in
theorem kX3_endOfRun (ad : xAd) (l : Launch) (D : va_G) (cI cB cZ cG cS : ClassId) (h0 h_bytes : Nat) (length : Int32) (fault : Int32) (faultPlace : Int32) (token : Int32) (tokenStart : Int32) (tokenEnd : Int32) (bytes : (Nat → Int32)) (r0 : Int32) (p1 : Int32) (p2 : Int32) (p3 : Int32) (hf : fX3_endOfRun p1 p2 p3 length bytes = some r0) : xMi ad l yX3_endOfRun wsX3_endOfRun ({ frames := 1, cells := 0, slots := 0, locals := 22 } : Room) D (xTY cI cB cZ cG cS) [.ref h0, .int p1, .int p2, .int p3] [(h0, .inr (3, [.ref h_bytes, .int length, .int fault, .int faultPlace, .int token, .int tokenStart, .int tokenEnd])), (h_bytes, .inl (cB, 160, .inl bytes))] [(h0, .inr (3, [.ref h_bytes, .int length, .int fault, .int faultPlace, .int token, .int tokenStart, .int tokenEnd])), (h_bytes, .inl (cB, 160, .inl bytes))] r0 := by
  refine xMi_of (cc := cX3_endOfRun) (maxL := 5) (ty := .int) (by decide) rfl (Nat.le_of_ble_eq_true rfl) ?_
  intro p e s m args below meth c A Q ls C hX hl hret
  have hx := C.1.1
  have hb := C.1.2.1
  have hl : lv_has ls 5 [(0, .ref h0), (1, .int p1), (2, .int p2), (3, .int p3)] := hl
  have L3 : ∀ (n : Nat), ∀ (x2 : Int32) (x3 : Int32) (x4 : Int32) (H : Heap) (locs : List Loc) (ls : Array Slot), fX3_endOfRun_L3 length bytes n x2 x3 x4 = some r0 → xSt A s D [(h0, .inr (3, [.ref h_bytes, .int length, .int fault, .int faultPlace, .int token, .int tokenStart, .int tokenEnd])), (h_bytes, .inl (cB, 160, .inl bytes))] H locs → lv_has ls 5 [(0, .ref h0), (2, .int x2), (3, .int x3), (4, .int x4)] → W p l e ({ frames := 1, cells := 0, slots := 0, locals := 22 } : Room) s m args below meth c H locs 0 0 Q (F0 m 3 ls []) := by
    intro n
    induction n with
    | zero =>
      intro x2 x3 x4 H locs ls hf
      rw [fX3_endOfRun_L3] at hf
      cases hf
    | succ n ih =>
      intro x2 x3 x4 H locs ls hf hX hl
      rw [fX3_endOfRun_L3] at hf
      refine lv_iload (pc := 3) hx hb dX3_endOfRun_3 (lv_at hl 3 rfl) ?_
      refine lv_aload_n (pc := 5) hx hb dX3_endOfRun_5 rfl (lv_at hl 0 rfl) ?_
      refine x_getf (pc := 6) (Cn := RX3) (T := TX3) (N := 7) C hX 0 rfl rfl miX3_endOfRun_X3 1 (by decide) mmX3_endOfRun_1 rfl dX3_endOfRun_6 ?_
      refine lv_icmp_ge (pc := 9) (tgt := 33) hx hb dX3_endOfRun_9 (by decide) (fun c1 => ?_) (fun c1 => ?_)
      · replace hf := ite_t c1 hf
        refine lv_iload (pc := 33) hx hb dX3_endOfRun_33 (lv_at hl 3 rfl) ?_
        obtain ⟨rfl⟩ := re1 hf
        exact hret _ _ _ _ _ rfl rfl hX dX3_endOfRun_35
      · replace hf := ite_f c1 hf
        refine lv_aload_n (pc := 12) hx hb dX3_endOfRun_12 rfl (lv_at hl 0 rfl) ?_
        refine x_getf (pc := 13) (Cn := RX3) (T := TX3) (N := 7) C hX 0 rfl rfl miX3_endOfRun_X3 0 (by decide) mmX3_endOfRun_2 rfl dX3_endOfRun_13 ?_
        refine lv_iload (pc := 16) hx hb dX3_endOfRun_16 (lv_at hl 3 rfl) ?_
        replace hf := chk_adv hf
        have i2 := hf.1
        replace hf := hf.2
        refine x_bald (pc := 18) C hX 1 1 rfl rfl i2 dX3_endOfRun_18 ?_
        refine lv_iload_n (pc := 19) hx hb dX3_endOfRun_19 rfl (lv_at hl 1 rfl) ?_
        refine lv_iload_n (pc := 20) hx hb dX3_endOfRun_20 rfl (lv_at hl 2 rfl) ?_
        obtain ⟨r3, g4, hf⟩ := cl1_adv hf
        refine x_callNi (pc := 21) (rest := []) C hX (kX4_within ad l D cI cB cZ cG cS r3 (bytes (x4).toNatClampNeg) x2 x3 g4) ⟨va_cnB 3 C.1.2.2.2.2 gX3_endOfRun_X4_within_n97 rfl rfl rfl C.2.2.2.1.2 (C.1.2.2.2.2 _ mmX3_endOfRun_4) (by decide +kernel) ⟨Nat.le_of_ble_eq_true rfl, Nat.le_of_ble_eq_true rfl⟩, C.1.2.2.2.2 _ mmX3_endOfRun_3, trivial⟩ hl.1 rfl rfl (Nat.le_of_ble_eq_true rfl) dX3_endOfRun_21 (fun H locs hX => ?_)
        refine lv_if_eq (pc := 24) (tgt := 33) hx hb dX3_endOfRun_24 (by decide) (fun c5 => ?_) (fun c5 => ?_)
        · replace hf := ite_t c5 hf
          refine lv_iload (pc := 33) hx hb dX3_endOfRun_33 (lv_at hl 3 rfl) ?_
          obtain ⟨rfl⟩ := re1 hf
          exact hret _ _ _ _ _ rfl rfl hX dX3_endOfRun_35
        · replace hf := ite_f c5 hf
          obtain ⟨v6, ev6⟩ : ∃ y : Int32, y = (x4 + (1 : Int32)) := ⟨_, rfl⟩
          replace hf := bnd_use ev6 hf
          refine lv_iinc (pc := 27) (v := v6) (lv' := [(4, .int v6), (0, .ref h0), (2, .int x2), (3, .int x3)]) hx hb dX3_endOfRun_27 hl (k := 3) rfl (by rw [ev6]; rfl) (by decide) rfl (fun ls hl => ?_)
          refine lv_goto (pc := 30) (tgt := 3) hx hb dX3_endOfRun_30 (by decide) ?_
          exact ih x2 x3 v6 _ _ _ hf hX (lv_sub hl [1, 2, 3, 0] rfl)
  unfold fX3_endOfRun at hf
  refine lv_iload_n (pc := 0) hx hb dX3_endOfRun_0 rfl (lv_at hl 1 rfl) ?_
  refine lv_istore (pc := 1) (lv' := [(4, .int p1), (0, .ref h0), (1, .int p1), (2, .int p2), (3, .int p3)]) hx hb dX3_endOfRun_1 hl (by decide) rfl (fun ls hl => ?_)
  exact L3  xF p2 p3 p1 _ _ _ hf hX (lv_sub hl [1, 3, 4, 0] rfl)
theorem mmX3_takeToken_1 : Cond.fieldLink RX3 31 "SlackArms$Tape" "tokenEnd" "I" ∈ wsX3_takeToken := List.mem_of_getElem? (i := 1) rfl
theorem miX3_takeToken_X3 : ∀ w ∈ u_ws RX3 TX3 7, w ∈ wsX3_takeToken := fun w h => List.mem_cons_of_mem _ (List.mem_append_right _ h)
theorem mmX3_takeToken_2 : Cond.fieldLink RX3 15 "SlackArms$Tape" "length" "I" ∈ wsX3_takeToken := List.mem_of_getElem? (i := 2) rfl
theorem mmX3_takeToken_4 : Cond.fieldLink RX3 28 "SlackArms$Tape" "tokenStart" "I" ∈ wsX3_takeToken := List.mem_of_getElem? (i := 4) rfl
theorem mmX3_takeToken_3 : Cond.fieldLink RX3 9 "SlackArms$Tape" "bytes" "[B" ∈ wsX3_takeToken := List.mem_of_getElem? (i := 3) rfl
theorem mmX3_takeToken_7 : Cond.initialized RX4 ∈ wsX3_takeToken := List.mem_of_getElem? (i := 7) rfl
theorem mmX3_takeToken_6 : Cond.static yX4_within ∈ wsX3_takeToken := List.mem_of_getElem? (i := 6) rfl
theorem mmX3_takeToken_5 : Cond.fieldLink RX3 25 "SlackArms$Tape" "token" "I" ∈ wsX3_takeToken := List.mem_of_getElem? (i := 5) rfl
set_option maxHeartbeats 4000000 in
set_option maxRecDepth 100000 in
theorem kX3_takeToken (ad : xAd) (l : Launch) (D : va_G) (cI cB cZ cG cS : ClassId) (h0 h_bytes : Nat) (length : Int32) (fault : Int32) (faultPlace : Int32) (token : Int32) (tokenStart : Int32) (tokenEnd : Int32) (bytes : (Nat → Int32)) (o_token' : Int32) (o_tokenStart' : Int32) (o_tokenEnd' : Int32)  (hf : fX3_takeToken  length token tokenStart tokenEnd bytes = some (o_token', o_tokenStart', o_tokenEnd')) : xMv ad l yX3_takeToken wsX3_takeToken ({ frames := 2, cells := 0, slots := 0, locals := 46 } : Room) D (xTY cI cB cZ cG cS) [.ref h0] [(h0, .inr (3, [.ref h_bytes, .int length, .int fault, .int faultPlace, .int token, .int tokenStart, .int tokenEnd])), (h_bytes, .inl (cB, 160, .inl bytes))] [(h0, .inr (3, [.ref h_bytes, .int length, .int fault, .int faultPlace, .int o_token', .int o_tokenStart', .int o_tokenEnd'])), (h_bytes, .inl (cB, 160, .inl bytes))] := by
  refine xMv_of (cc := cX3_takeToken) (maxL := 3) (by decide) rfl (Nat.le_of_ble_eq_true rfl) ?_
  intro p e s m args below meth c A Q ls C hX hl hret
  have hx := C.1.1
  have hb := C.1.2.1
  have hl : lv_has ls 3 [(0, .ref h0)] := hl
  have L30 : ∀ (x1 : Int32) (token : Int32) (tokenStart : Int32) (tokenEnd : Int32) (H : Heap) (locs : List Loc) (ls : Array Slot), fX3_takeToken_L30 length bytes x1 token tokenStart tokenEnd = some (o_token', o_tokenStart', o_tokenEnd') → xSt A s D [(h0, .inr (3, [.ref h_bytes, .int length, .int fault, .int faultPlace, .int token, .int tokenStart, .int tokenEnd])), (h_bytes, .inl (cB, 160, .inl bytes))] H locs → lv_has ls 3 [(0, .ref h0), (1, .int x1)] → W p l e ({ frames := 2, cells := 0, slots := 0, locals := 46 } : Room) s m args below meth c H locs 0 0 Q (F0 m 30 ls []) := by
    intro  x1 token tokenStart tokenEnd H locs ls hf hX hl
    unfold fX3_takeToken_L30 at hf
    refine lv_aload_n (pc := 30) hx hb dX3_takeToken_30 rfl (lv_at hl 0 rfl) ?_
    refine lv_iload_n (pc := 31) hx hb dX3_takeToken_31 rfl (lv_at hl 1 rfl) ?_
    refine x_putf (pc := 32) (Cn := RX3) (T := TX3) (N := 7) C hX tyX3 tyX3_ok nmX3 0 rfl rfl miX3_takeToken_X3 5 (by decide) mmX3_takeToken_4 rfl rfl (Nat.le_of_ble_eq_true rfl) [(h0, .inr (3, [.ref h_bytes, .int length, .int fault, .int faultPlace, .int token, .int x1, .int tokenEnd])), (h_bytes, .inl (cB, 160, .inl bytes))] rfl dX3_takeToken_32 (fun H locs hX => ?_)
    refine lv_iload_n (pc := 35) hx hb dX3_takeToken_35 rfl (lv_at hl 1 rfl) ?_
    refine lv_aload_n (pc := 36) hx hb dX3_takeToken_36 rfl (lv_at hl 0 rfl) ?_
    refine x_getf (pc := 37) (Cn := RX3) (T := TX3) (N := 7) C hX 0 rfl rfl miX3_takeToken_X3 1 (by decide) mmX3_takeToken_2 rfl dX3_takeToken_37 ?_
    refine lv_icmp_lt (pc := 40) (tgt := 56) hx hb dX3_takeToken_40 (by decide) (fun c2 => ?_) (fun c2 => ?_)
    · replace hf := ite_t c2 hf
      refine lv_aload_n (pc := 56) hx hb dX3_takeToken_56 rfl (lv_at hl 0 rfl) ?_
      refine x_getf (pc := 57) (Cn := RX3) (T := TX3) (N := 7) C hX 0 rfl rfl miX3_takeToken_X3 0 (by decide) mmX3_takeToken_3 rfl dX3_takeToken_57 ?_
      refine lv_iload_n (pc := 60) hx hb dX3_takeToken_60 rfl (lv_at hl 1 rfl) ?_
      replace hf := chk_adv hf
      have i3 := hf.1
      replace hf := hf.2
      refine x_bald (pc := 61) C hX 1 1 rfl rfl i3 dX3_takeToken_61 ?_
      refine lv_bipush (pc := 62) (v := 59) hx hb dX3_takeToken_62 (by decide) ?_
      refine lv_icmp_ne (pc := 64) (tgt := 82) hx hb dX3_takeToken_64 (by decide) (fun c4 => ?_) (fun c4 => ?_)
      · replace hf := ite_f c4 hf
        refine lv_aload_n (pc := 82) hx hb dX3_takeToken_82 rfl (lv_at hl 0 rfl) ?_
        refine x_getf (pc := 83) (Cn := RX3) (T := TX3) (N := 7) C hX 0 rfl rfl miX3_takeToken_X3 0 (by decide) mmX3_takeToken_3 rfl dX3_takeToken_83 ?_
        refine lv_iload_n (pc := 86) hx hb dX3_takeToken_86 rfl (lv_at hl 1 rfl) ?_
        replace hf := chk_adv hf
        have i5 := hf.1
        replace hf := hf.2
        refine x_bald (pc := 87) C hX 1 1 rfl rfl i5 dX3_takeToken_87 ?_
        refine lv_bipush (pc := 88) (v := 97) hx hb dX3_takeToken_88 (by decide) ?_
        refine lv_bipush (pc := 90) (v := 122) hx hb dX3_takeToken_90 (by decide) ?_
        obtain ⟨r6, g7, hf⟩ := cl1_adv hf
        refine x_callNi (pc := 92) (rest := []) C hX (kX4_within ad l D cI cB cZ cG cS r6 (bytes (x1).toNatClampNeg) (97 : Int32) (122 : Int32) g7) ⟨va_cnB 3 C.1.2.2.2.2 gX3_takeToken_X4_within_n97 rfl rfl rfl C.2.2.2.1.2 (C.1.2.2.2.2 _ mmX3_takeToken_7) (by decide +kernel) ⟨Nat.le_of_ble_eq_true rfl, Nat.le_of_ble_eq_true rfl⟩, C.1.2.2.2.2 _ mmX3_takeToken_6, trivial⟩ hl.1 rfl rfl (Nat.le_of_ble_eq_true rfl) dX3_takeToken_92 (fun H locs hX => ?_)
        refine lv_if_eq (pc := 95) (tgt := 119) hx hb dX3_takeToken_95 (by decide) (fun c8 => ?_) (fun c8 => ?_)
        · replace hf := ite_t c8 hf
          refine lv_aload_n (pc := 119) hx hb dX3_takeToken_119 rfl (lv_at hl 0 rfl) ?_
          refine lv_aload_n (pc := 120) hx hb dX3_takeToken_120 rfl (lv_at hl 0 rfl) ?_
          refine lv_iload_n (pc := 121) hx hb dX3_takeToken_121 rfl (lv_at hl 1 rfl) ?_
          refine lv_bipush (pc := 122) (v := 48) hx hb dX3_takeToken_122 (by decide) ?_
          refine lv_bipush (pc := 124) (v := 57) hx hb dX3_takeToken_124 (by decide) ?_
          obtain ⟨r9, g10, hf⟩ := cl1_adv hf
          refine x_callVi (pc := 126) (rest := [.ref h0]) (w2 := [(h0, .inr (3, [.ref h_bytes, .int length, .int fault, .int faultPlace, .int token, .int x1, .int tokenEnd])), (h_bytes, .inl (cB, 160, .inl bytes))]) C hX (kX3_endOfRun ad l D cI cB cZ cG cS h0 h_bytes length fault faultPlace token x1 tokenEnd bytes r9 x1 (48 : Int32) (57 : Int32) g10) (cwV 3 C.1.2.2.2.2 gX3_takeToken_X3_endOfRun rfl rfl rfl (by decide +kernel) ⟨Nat.le_of_ble_eq_true rfl, Nat.le_of_ble_eq_true rfl⟩) [0, 1] [] [0, 1] rfl rfl rfl rfl (by decide) rfl rfl 0 rfl rfl rfl hl.1 rfl rfl (Nat.le_of_ble_eq_true rfl) dX3_takeToken_126 (fun H locs hX => ?_)
          refine x_putf (pc := 129) (Cn := RX3) (T := TX3) (N := 7) C hX tyX3 tyX3_ok nmX3 0 rfl rfl miX3_takeToken_X3 6 (by decide) mmX3_takeToken_1 rfl rfl (Nat.le_of_ble_eq_true rfl) [(h0, .inr (3, [.ref h_bytes, .int length, .int fault, .int faultPlace, .int token, .int x1, .int r9])), (h_bytes, .inl (cB, 160, .inl bytes))] rfl dX3_takeToken_129 (fun H locs hX => ?_)
          refine lv_aload_n (pc := 132) hx hb dX3_takeToken_132 rfl (lv_at hl 0 rfl) ?_
          refine x_getf (pc := 133) (Cn := RX3) (T := TX3) (N := 7) C hX 0 rfl rfl miX3_takeToken_X3 6 (by decide) mmX3_takeToken_1 rfl dX3_takeToken_133 ?_
          refine lv_iload_n (pc := 136) hx hb dX3_takeToken_136 rfl (lv_at hl 1 rfl) ?_
          refine lv_isub (pc := 137) hx hb dX3_takeToken_137 ?_
          refine lv_topi (fun v11 ev11 => ?_)
          replace hf := bnd_use ev11 hf
          refine lv_istore_n (pc := 138) (lv' := [(2, .int v11), (0, .ref h0), (1, .int x1)]) hx hb dX3_takeToken_138 rfl hl (by decide) rfl (fun ls hl => ?_)
          refine lv_aload_n (pc := 139) hx hb dX3_takeToken_139 rfl (lv_at hl 1 rfl) ?_
          refine lv_iload_n (pc := 140) hx hb dX3_takeToken_140 rfl (lv_at hl 0 rfl) ?_
          refine lv_iconst (pc := 141) (v := 1) hx hb dX3_takeToken_141 (by decide) ?_
          refine lv_iconst (pc := 142) (v := 2) hx hb dX3_takeToken_142 (by decide) ?_
          obtain ⟨r12, g13, hf⟩ := cl1_adv hf
          refine x_callNi (pc := 143) (rest := [.ref h0]) C hX (kX4_within ad l D cI cB cZ cG cS r12 v11 (1 : Int32) (2 : Int32) g13) ⟨va_cnB 3 C.1.2.2.2.2 gX3_takeToken_X4_within_n97 rfl rfl rfl C.2.2.2.1.2 (C.1.2.2.2.2 _ mmX3_takeToken_7) (by decide +kernel) ⟨Nat.le_of_ble_eq_true rfl, Nat.le_of_ble_eq_true rfl⟩, C.1.2.2.2.2 _ mmX3_takeToken_6, trivial⟩ hl.1 rfl rfl (Nat.le_of_ble_eq_true rfl) dX3_takeToken_143 (fun H locs hX => ?_)
          refine lv_if_eq (pc := 146) (tgt := 153) hx hb dX3_takeToken_146 (by decide) (fun c14 => ?_) (fun c14 => ?_)
          · replace hf := ite_t c14 hf
            refine lv_iconst (pc := 153) (v := 1) hx hb dX3_takeToken_153 (by decide) ?_
            refine x_putf (pc := 154) (Cn := RX3) (T := TX3) (N := 7) C hX tyX3 tyX3_ok nmX3 0 rfl rfl miX3_takeToken_X3 4 (by decide) mmX3_takeToken_5 rfl rfl (Nat.le_of_ble_eq_true rfl) [(h0, .inr (3, [.ref h_bytes, .int length, .int fault, .int faultPlace, .int (1 : Int32), .int x1, .int r9])), (h_bytes, .inl (cB, 160, .inl bytes))] rfl dX3_takeToken_154 (fun H locs hX => ?_)
            obtain ⟨rfl, rfl, rfl⟩ := re3 hf
            exact hret _ _ _ _ hX dX3_takeToken_157
          · replace hf := ite_f c14 hf
            refine lv_iconst (pc := 149) (v := 3) hx hb dX3_takeToken_149 (by decide) ?_
            refine lv_goto (pc := 150) (tgt := 154) hx hb dX3_takeToken_150 (by decide) ?_
            refine x_putf (pc := 154) (Cn := RX3) (T := TX3) (N := 7) C hX tyX3 tyX3_ok nmX3 0 rfl rfl miX3_takeToken_X3 4 (by decide) mmX3_takeToken_5 rfl rfl (Nat.le_of_ble_eq_true rfl) [(h0, .inr (3, [.ref h_bytes, .int length, .int fault, .int faultPlace, .int (3 : Int32), .int x1, .int r9])), (h_bytes, .inl (cB, 160, .inl bytes))] rfl dX3_takeToken_154 (fun H locs hX => ?_)
            obtain ⟨rfl, rfl, rfl⟩ := re3 hf
            exact hret _ _ _ _ hX dX3_takeToken_157
        · replace hf := ite_f c8 hf
          refine lv_aload_n (pc := 98) hx hb dX3_takeToken_98 rfl (lv_at hl 0 rfl) ?_
          refine lv_aload_n (pc := 99) hx hb dX3_takeToken_99 rfl (lv_at hl 0 rfl) ?_
          refine lv_iload_n (pc := 100) hx hb dX3_takeToken_100 rfl (lv_at hl 1 rfl) ?_
          refine lv_bipush (pc := 101) (v := 97) hx hb dX3_takeToken_101 (by decide) ?_
          refine lv_bipush (pc := 103) (v := 122) hx hb dX3_takeToken_103 (by decide) ?_
          obtain ⟨r15, g16, hf⟩ := cl1_adv hf
          refine x_callVi (pc := 105) (rest := [.ref h0]) (w2 := [(h0, .inr (3, [.ref h_bytes, .int length, .int fault, .int faultPlace, .int token, .int x1, .int tokenEnd])), (h_bytes, .inl (cB, 160, .inl bytes))]) C hX (kX3_endOfRun ad l D cI cB cZ cG cS h0 h_bytes length fault faultPlace token x1 tokenEnd bytes r15 x1 (97 : Int32) (122 : Int32) g16) (cwV 3 C.1.2.2.2.2 gX3_takeToken_X3_endOfRun rfl rfl rfl (by decide +kernel) ⟨Nat.le_of_ble_eq_true rfl, Nat.le_of_ble_eq_true rfl⟩) [0, 1] [] [0, 1] rfl rfl rfl rfl (by decide) rfl rfl 0 rfl rfl rfl hl.1 rfl rfl (Nat.le_of_ble_eq_true rfl) dX3_takeToken_105 (fun H locs hX => ?_)
          refine x_putf (pc := 108) (Cn := RX3) (T := TX3) (N := 7) C hX tyX3 tyX3_ok nmX3 0 rfl rfl miX3_takeToken_X3 6 (by decide) mmX3_takeToken_1 rfl rfl (Nat.le_of_ble_eq_true rfl) [(h0, .inr (3, [.ref h_bytes, .int length, .int fault, .int faultPlace, .int token, .int x1, .int r15])), (h_bytes, .inl (cB, 160, .inl bytes))] rfl dX3_takeToken_108 (fun H locs hX => ?_)
          refine lv_aload_n (pc := 111) hx hb dX3_takeToken_111 rfl (lv_at hl 0 rfl) ?_
          refine lv_iconst (pc := 112) (v := 2) hx hb dX3_takeToken_112 (by decide) ?_
          refine x_putf (pc := 113) (Cn := RX3) (T := TX3) (N := 7) C hX tyX3 tyX3_ok nmX3 0 rfl rfl miX3_takeToken_X3 4 (by decide) mmX3_takeToken_5 rfl rfl (Nat.le_of_ble_eq_true rfl) [(h0, .inr (3, [.ref h_bytes, .int length, .int fault, .int faultPlace, .int (2 : Int32), .int x1, .int r15])), (h_bytes, .inl (cB, 160, .inl bytes))] rfl dX3_takeToken_113 (fun H locs hX => ?_)
          refine lv_goto (pc := 116) (tgt := 157) hx hb dX3_takeToken_116 (by decide) ?_
          obtain ⟨rfl, rfl, rfl⟩ := re3 hf
          exact hret _ _ _ _ hX dX3_takeToken_157
      · replace hf := ite_t c4 hf
        refine lv_aload_n (pc := 67) hx hb dX3_takeToken_67 rfl (lv_at hl 0 rfl) ?_
        refine lv_iload_n (pc := 68) hx hb dX3_takeToken_68 rfl (lv_at hl 1 rfl) ?_
        refine lv_iconst (pc := 69) (v := 1) hx hb dX3_takeToken_69 (by decide) ?_
        refine lv_iadd (pc := 70) hx hb dX3_takeToken_70 ?_
        refine lv_topi (fun v17 ev17 => ?_)
        replace hf := bnd_use ev17 hf
        refine x_putf (pc := 71) (Cn := RX3) (T := TX3) (N := 7) C hX tyX3 tyX3_ok nmX3 0 rfl rfl miX3_takeToken_X3 6 (by decide) mmX3_takeToken_1 rfl rfl (Nat.le_of_ble_eq_true rfl) [(h0, .inr (3, [.ref h_bytes, .int length, .int fault, .int faultPlace, .int token, .int x1, .int v17])), (h_bytes, .inl (cB, 160, .inl bytes))] rfl dX3_takeToken_71 (fun H locs hX => ?_)
        refine lv_aload_n (pc := 74) hx hb dX3_takeToken_74 rfl (lv_at hl 0 rfl) ?_
        refine lv_iconst (pc := 75) (v := 4) hx hb dX3_takeToken_75 (by decide) ?_
        refine x_putf (pc := 76) (Cn := RX3) (T := TX3) (N := 7) C hX tyX3 tyX3_ok nmX3 0 rfl rfl miX3_takeToken_X3 4 (by decide) mmX3_takeToken_5 rfl rfl (Nat.le_of_ble_eq_true rfl) [(h0, .inr (3, [.ref h_bytes, .int length, .int fault, .int faultPlace, .int (4 : Int32), .int x1, .int v17])), (h_bytes, .inl (cB, 160, .inl bytes))] rfl dX3_takeToken_76 (fun H locs hX => ?_)
        refine lv_goto (pc := 79) (tgt := 157) hx hb dX3_takeToken_79 (by decide) ?_
        obtain ⟨rfl, rfl, rfl⟩ := re3 hf
        exact hret _ _ _ _ hX dX3_takeToken_157
    · replace hf := ite_f c2 hf
      refine lv_aload_n (pc := 43) hx hb dX3_takeToken_43 rfl (lv_at hl 0 rfl) ?_
      refine lv_iload_n (pc := 44) hx hb dX3_takeToken_44 rfl (lv_at hl 1 rfl) ?_
      refine x_putf (pc := 45) (Cn := RX3) (T := TX3) (N := 7) C hX tyX3 tyX3_ok nmX3 0 rfl rfl miX3_takeToken_X3 6 (by decide) mmX3_takeToken_1 rfl rfl (Nat.le_of_ble_eq_true rfl) [(h0, .inr (3, [.ref h_bytes, .int length, .int fault, .int faultPlace, .int token, .int x1, .int x1])), (h_bytes, .inl (cB, 160, .inl bytes))] rfl dX3_takeToken_45 (fun H locs hX => ?_)
      refine lv_aload_n (pc := 48) hx hb dX3_takeToken_48 rfl (lv_at hl 0 rfl) ?_
      refine lv_iconst (pc := 49) (v := 0) hx hb dX3_takeToken_49 (by decide) ?_
      refine x_putf (pc := 50) (Cn := RX3) (T := TX3) (N := 7) C hX tyX3 tyX3_ok nmX3 0 rfl rfl miX3_takeToken_X3 4 (by decide) mmX3_takeToken_5 rfl rfl (Nat.le_of_ble_eq_true rfl) [(h0, .inr (3, [.ref h_bytes, .int length, .int fault, .int faultPlace, .int (0 : Int32), .int x1, .int x1])), (h_bytes, .inl (cB, 160, .inl bytes))] rfl dX3_takeToken_50 (fun H locs hX => ?_)
      refine lv_goto (pc := 53) (tgt := 157) hx hb dX3_takeToken_53 (by decide) ?_
      obtain ⟨rfl, rfl, rfl⟩ := re3 hf
      exact hret _ _ _ _ hX dX3_takeToken_157
  have L5 : ∀ (n : Nat), ∀ (x1 : Int32) (token : Int32) (tokenStart : Int32) (tokenEnd : Int32) (H : Heap) (locs : List Loc) (ls : Array Slot), fX3_takeToken_L5 length bytes n x1 token tokenStart tokenEnd = some (o_token', o_tokenStart', o_tokenEnd') → xSt A s D [(h0, .inr (3, [.ref h_bytes, .int length, .int fault, .int faultPlace, .int token, .int tokenStart, .int tokenEnd])), (h_bytes, .inl (cB, 160, .inl bytes))] H locs → lv_has ls 3 [(0, .ref h0), (1, .int x1)] → W p l e ({ frames := 2, cells := 0, slots := 0, locals := 46 } : Room) s m args below meth c H locs 0 0 Q (F0 m 5 ls []) := by
    intro n
    induction n with
    | zero =>
      intro x1 token tokenStart tokenEnd H locs ls hf
      rw [fX3_takeToken_L5] at hf
      cases hf
    | succ n ih =>
      intro x1 token tokenStart tokenEnd H locs ls hf hX hl
      rw [fX3_takeToken_L5] at hf
      refine lv_iload_n (pc := 5) hx hb dX3_takeToken_5 rfl (lv_at hl 1 rfl) ?_
      refine lv_aload_n (pc := 6) hx hb dX3_takeToken_6 rfl (lv_at hl 0 rfl) ?_
      refine x_getf (pc := 7) (Cn := RX3) (T := TX3) (N := 7) C hX 0 rfl rfl miX3_takeToken_X3 1 (by decide) mmX3_takeToken_2 rfl dX3_takeToken_7 ?_
      refine lv_icmp_ge (pc := 10) (tgt := 30) hx hb dX3_takeToken_10 (by decide) (fun c1 => ?_) (fun c1 => ?_)
      · replace hf := ite_t c1 hf
        exact L30  x1 token tokenStart tokenEnd _ _ _ hf hX (lv_sub hl [0, 1] rfl)
      · replace hf := ite_f c1 hf
        refine lv_aload_n (pc := 13) hx hb dX3_takeToken_13 rfl (lv_at hl 0 rfl) ?_
        refine x_getf (pc := 14) (Cn := RX3) (T := TX3) (N := 7) C hX 0 rfl rfl miX3_takeToken_X3 0 (by decide) mmX3_takeToken_3 rfl dX3_takeToken_14 ?_
        refine lv_iload_n (pc := 17) hx hb dX3_takeToken_17 rfl (lv_at hl 1 rfl) ?_
        replace hf := chk_adv hf
        have i18 := hf.1
        replace hf := hf.2
        refine x_bald (pc := 18) C hX 1 1 rfl rfl i18 dX3_takeToken_18 ?_
        refine lv_bipush (pc := 19) (v := 32) hx hb dX3_takeToken_19 (by decide) ?_
        refine lv_icmp_ne (pc := 21) (tgt := 30) hx hb dX3_takeToken_21 (by decide) (fun c19 => ?_) (fun c19 => ?_)
        · replace hf := ite_f c19 hf
          exact L30  x1 token tokenStart tokenEnd _ _ _ hf hX (lv_sub hl [0, 1] rfl)
        · replace hf := ite_t c19 hf
          obtain ⟨v20, ev20⟩ : ∃ y : Int32, y = (x1 + (1 : Int32)) := ⟨_, rfl⟩
          replace hf := bnd_use ev20 hf
          refine lv_iinc (pc := 24) (v := v20) (lv' := [(1, .int v20), (0, .ref h0)]) hx hb dX3_takeToken_24 hl (k := 1) rfl (by rw [ev20]; rfl) (by decide) rfl (fun ls hl => ?_)
          refine lv_goto (pc := 27) (tgt := 5) hx hb dX3_takeToken_27 (by decide) ?_
          exact ih v20 token tokenStart tokenEnd _ _ _ hf hX (lv_sub hl [1, 0] rfl)
  unfold fX3_takeToken at hf
  refine lv_aload_n (pc := 0) hx hb dX3_takeToken_0 rfl (lv_at hl 0 rfl) ?_
  refine x_getf (pc := 1) (Cn := RX3) (T := TX3) (N := 7) C hX 0 rfl rfl miX3_takeToken_X3 6 (by decide) mmX3_takeToken_1 rfl dX3_takeToken_1 ?_
  refine lv_istore_n (pc := 4) (lv' := [(1, .int tokenEnd), (0, .ref h0)]) hx hb dX3_takeToken_4 rfl hl (by decide) rfl (fun ls hl => ?_)
  exact L5  xF tokenEnd token tokenStart tokenEnd _ _ _ hf hX (lv_sub hl [1, 0] rfl)
theorem mmX3_refuse_1 : Cond.fieldLink RX3 19 "SlackArms$Tape" "fault" "I" ∈ wsX3_refuse := List.mem_of_getElem? (i := 1) rfl
theorem miX3_refuse_X3 : ∀ w ∈ u_ws RX3 TX3 7, w ∈ wsX3_refuse := fun w h => List.mem_cons_of_mem _ (List.mem_append_right _ h)
theorem mmX3_refuse_2 : Cond.fieldLink RX3 28 "SlackArms$Tape" "tokenStart" "I" ∈ wsX3_refuse := List.mem_of_getElem? (i := 2) rfl
theorem mmX3_refuse_3 : Cond.fieldLink RX3 22 "SlackArms$Tape" "faultPlace" "I" ∈ wsX3_refuse := List.mem_of_getElem? (i := 3) rfl
set_option maxHeartbeats 4000000 in
set_option maxRecDepth 100000 in
theorem kX3_refuse (ad : xAd) (l : Launch) (D : va_G) (cI cB cZ cG cS : ClassId) (h0 h_bytes : Nat) (length : Int32) (fault : Int32) (faultPlace : Int32) (token : Int32) (tokenStart : Int32) (tokenEnd : Int32) (bytes : (Nat → Int32)) (r0 : Int32) (o_fault' : Int32) (o_faultPlace' : Int32) (p1 : Int32) (hf : fX3_refuse p1 fault faultPlace tokenStart = some (r0, o_fault', o_faultPlace')) : xMi ad l yX3_refuse wsX3_refuse ({ frames := 0, cells := 0, slots := 0, locals := 0 } : Room) D (xTY cI cB cZ cG cS) [.ref h0, .int p1] [(h0, .inr (3, [.ref h_bytes, .int length, .int fault, .int faultPlace, .int token, .int tokenStart, .int tokenEnd])), (h_bytes, .inl (cB, 160, .inl bytes))] [(h0, .inr (3, [.ref h_bytes, .int length, .int o_fault', .int o_faultPlace', .int token, .int tokenStart, .int tokenEnd])), (h_bytes, .inl (cB, 160, .inl bytes))] r0 := by
  refine xMi_of (cc := cX3_refuse) (maxL := 2) (ty := .boolean) (by decide) rfl (Nat.le_of_ble_eq_true rfl) ?_
  intro p e s m args below meth c A Q ls C hX hl hret
  have hx := C.1.1
  have hb := C.1.2.1
  have hl : lv_has ls 2 [(0, .ref h0), (1, .int p1)] := hl
  unfold fX3_refuse at hf
  refine lv_aload_n (pc := 0) hx hb dX3_refuse_0 rfl (lv_at hl 0 rfl) ?_
  refine lv_iload_n (pc := 1) hx hb dX3_refuse_1 rfl (lv_at hl 1 rfl) ?_
  refine x_putf (pc := 2) (Cn := RX3) (T := TX3) (N := 7) C hX tyX3 tyX3_ok nmX3 0 rfl rfl miX3_refuse_X3 2 (by decide) mmX3_refuse_1 rfl rfl (Nat.le_of_ble_eq_true rfl) [(h0, .inr (3, [.ref h_bytes, .int length, .int p1, .int faultPlace, .int token, .int tokenStart, .int tokenEnd])), (h_bytes, .inl (cB, 160, .inl bytes))] rfl dX3_refuse_2 (fun H locs hX => ?_)
  refine lv_aload_n (pc := 5) hx hb dX3_refuse_5 rfl (lv_at hl 0 rfl) ?_
  refine lv_aload_n (pc := 6) hx hb dX3_refuse_6 rfl (lv_at hl 0 rfl) ?_
  refine x_getf (pc := 7) (Cn := RX3) (T := TX3) (N := 7) C hX 0 rfl rfl miX3_refuse_X3 5 (by decide) mmX3_refuse_2 rfl dX3_refuse_7 ?_
  refine x_putf (pc := 10) (Cn := RX3) (T := TX3) (N := 7) C hX tyX3 tyX3_ok nmX3 0 rfl rfl miX3_refuse_X3 3 (by decide) mmX3_refuse_3 rfl rfl (Nat.le_of_ble_eq_true rfl) [(h0, .inr (3, [.ref h_bytes, .int length, .int p1, .int tokenStart, .int token, .int tokenStart, .int tokenEnd])), (h_bytes, .inl (cB, 160, .inl bytes))] rfl dX3_refuse_10 (fun H locs hX => ?_)
  refine lv_iconst (pc := 13) (v := 0) hx hb dX3_refuse_13 (by decide) ?_
  obtain ⟨rfl, rfl, rfl⟩ := re3 hf
  exact hret _ _ _ _ _ rfl rfl hX dX3_refuse_14
theorem mmX3_stands_1 : Cond.fieldLink RX3 25 "SlackArms$Tape" "token" "I" ∈ wsX3_stands := List.mem_of_getElem? (i := 1) rfl
theorem miX3_stands_X3 : ∀ w ∈ u_ws RX3 TX3 7, w ∈ wsX3_stands := fun w h => List.mem_cons_of_mem _ (List.mem_append_right _ h)
set_option maxHeartbeats 4000000 in
set_option maxRecDepth 100000 in
theorem kX3_stands (ad : xAd) (l : Launch) (D : va_G) (cI cB cZ cG cS : ClassId) (h0 h_bytes : Nat) (length : Int32) (fault : Int32) (faultPlace : Int32) (token : Int32) (tokenStart : Int32) (tokenEnd : Int32) (bytes : (Nat → Int32)) (r0 : Int32) (o_fault' : Int32) (o_faultPlace' : Int32) (p1 : Int32) (hf : fX3_stands p1 fault faultPlace token tokenStart = some (r0, o_fault', o_faultPlace')) : xMi ad l yX3_stands wsX3_stands ({ frames := 1, cells := 0, slots := 0, locals := 21 } : Room) D (xTY cI cB cZ cG cS) [.ref h0, .int p1] [(h0, .inr (3, [.ref h_bytes, .int length, .int fault, .int faultPlace, .int token, .int tokenStart, .int tokenEnd])), (h_bytes, .inl (cB, 160, .inl bytes))] [(h0, .inr (3, [.ref h_bytes, .int length, .int o_fault', .int o_faultPlace', .int token, .int tokenStart, .int tokenEnd])), (h_bytes, .inl (cB, 160, .inl bytes))] r0 := by
  refine xMi_of (cc := cX3_stands) (maxL := 2) (ty := .boolean) (by decide) rfl (Nat.le_of_ble_eq_true rfl) ?_
  intro p e s m args below meth c A Q ls C hX hl hret
  have hx := C.1.1
  have hb := C.1.2.1
  have hl : lv_has ls 2 [(0, .ref h0), (1, .int p1)] := hl
  have L24 : ∀ (y0 : Int32) (fault : Int32) (faultPlace : Int32) (H : Heap) (locs : List Loc) (ls : Array Slot), fX3_stands_L24 token tokenStart y0 fault faultPlace = some (r0, o_fault', o_faultPlace') → xSt A s D [(h0, .inr (3, [.ref h_bytes, .int length, .int fault, .int faultPlace, .int token, .int tokenStart, .int tokenEnd])), (h_bytes, .inl (cB, 160, .inl bytes))] H locs → lv_has ls 2 [] → W p l e ({ frames := 1, cells := 0, slots := 0, locals := 21 } : Room) s m args below meth c H locs 0 0 Q (F0 m 24 ls [.int y0, .ref h0]) := by
    intro  y0 fault faultPlace H locs ls hf hX hl
    unfold fX3_stands_L24 at hf
    obtain ⟨r3, u4, u5, g6, hf⟩ := cl3_adv hf
    refine x_callVi (pc := 24) (rest := []) (w2 := [(h0, .inr (3, [.ref h_bytes, .int length, .int u4, .int u5, .int token, .int tokenStart, .int tokenEnd])), (h_bytes, .inl (cB, 160, .inl bytes))]) C hX (kX3_refuse ad l D cI cB cZ cG cS h0 h_bytes length fault faultPlace token tokenStart tokenEnd bytes r3 u4 u5 y0 g6) (cwV 1 C.1.2.2.2.2 gX3_stands_X3_refuse rfl rfl rfl (by decide +kernel) ⟨Nat.le_of_ble_eq_true rfl, Nat.le_of_ble_eq_true rfl⟩) [0, 1] [] [0, 1] rfl rfl rfl rfl (by decide) rfl rfl 0 rfl rfl rfl hl.1 rfl rfl (Nat.le_of_ble_eq_true rfl) dX3_stands_24 (fun H locs hX => ?_)
    replace hf := chk_adv hf
    have i7 := hf.1
    replace hf := hf.2
    obtain ⟨rfl, rfl, rfl⟩ := re3 hf
    exact hret _ _ _ _ _ rfl (xbz_nar i7) hX dX3_stands_27
  unfold fX3_stands at hf
  refine lv_aload_n (pc := 0) hx hb dX3_stands_0 rfl (lv_at hl 0 rfl) ?_
  refine x_getf (pc := 1) (Cn := RX3) (T := TX3) (N := 7) C hX 0 rfl rfl miX3_stands_X3 4 (by decide) mmX3_stands_1 rfl dX3_stands_1 ?_
  refine lv_iload_n (pc := 4) hx hb dX3_stands_4 rfl (lv_at hl 1 rfl) ?_
  refine lv_icmp_ne (pc := 5) (tgt := 10) hx hb dX3_stands_5 (by decide) (fun c1 => ?_) (fun c1 => ?_)
  · replace hf := ite_f c1 hf
    refine lv_aload_n (pc := 10) hx hb dX3_stands_10 rfl (lv_at hl 0 rfl) ?_
    refine lv_aload_n (pc := 11) hx hb dX3_stands_11 rfl (lv_at hl 0 rfl) ?_
    refine x_getf (pc := 12) (Cn := RX3) (T := TX3) (N := 7) C hX 0 rfl rfl miX3_stands_X3 4 (by decide) mmX3_stands_1 rfl dX3_stands_12 ?_
    refine lv_iconst (pc := 15) (v := 1) hx hb dX3_stands_15 (by decide) ?_
    refine lv_icmp_ne (pc := 16) (tgt := 23) hx hb dX3_stands_16 (by decide) (fun c2 => ?_) (fun c2 => ?_)
    · replace hf := ite_f c2 hf
      refine lv_iconst (pc := 23) (v := 2) hx hb dX3_stands_23 (by decide) ?_
      exact L24  (2 : Int32) fault faultPlace _ _ _ hf hX (lv_sub hl [] rfl)
    · replace hf := ite_t c2 hf
      refine lv_iconst (pc := 19) (v := 1) hx hb dX3_stands_19 (by decide) ?_
      refine lv_goto (pc := 20) (tgt := 24) hx hb dX3_stands_20 (by decide) ?_
      exact L24  (1 : Int32) fault faultPlace _ _ _ hf hX (lv_sub hl [] rfl)
  · replace hf := ite_t c1 hf
    refine lv_iconst (pc := 8) (v := 1) hx hb dX3_stands_8 (by decide) ?_
    obtain ⟨rfl, rfl, rfl⟩ := re3 hf
    exact hret _ _ _ _ _ rfl rfl hX dX3_stands_9
theorem mmX3_numberOfToken_1 : Cond.fieldLink RX3 28 "SlackArms$Tape" "tokenStart" "I" ∈ wsX3_numberOfToken := List.mem_of_getElem? (i := 1) rfl
theorem miX3_numberOfToken_X3 : ∀ w ∈ u_ws RX3 TX3 7, w ∈ wsX3_numberOfToken := fun w h => List.mem_cons_of_mem _ (List.mem_append_right _ h)
theorem mmX3_numberOfToken_2 : Cond.fieldLink RX3 31 "SlackArms$Tape" "tokenEnd" "I" ∈ wsX3_numberOfToken := List.mem_of_getElem? (i := 2) rfl
theorem mmX3_numberOfToken_3 : Cond.fieldLink RX3 9 "SlackArms$Tape" "bytes" "[B" ∈ wsX3_numberOfToken := List.mem_of_getElem? (i := 3) rfl
set_option maxHeartbeats 4000000 in
set_option maxRecDepth 100000 in
theorem kX3_numberOfToken (ad : xAd) (l : Launch) (D : va_G) (cI cB cZ cG cS : ClassId) (h0 h_bytes : Nat) (length : Int32) (fault : Int32) (faultPlace : Int32) (token : Int32) (tokenStart : Int32) (tokenEnd : Int32) (bytes : (Nat → Int32)) (r0 : Int32)  (hf : fX3_numberOfToken  tokenStart tokenEnd bytes = some r0) : xMi ad l yX3_numberOfToken wsX3_numberOfToken ({ frames := 0, cells := 0, slots := 0, locals := 0 } : Room) D (xTY cI cB cZ cG cS) [.ref h0] [(h0, .inr (3, [.ref h_bytes, .int length, .int fault, .int faultPlace, .int token, .int tokenStart, .int tokenEnd])), (h_bytes, .inl (cB, 160, .inl bytes))] [(h0, .inr (3, [.ref h_bytes, .int length, .int fault, .int faultPlace, .int token, .int tokenStart, .int tokenEnd])), (h_bytes, .inl (cB, 160, .inl bytes))] r0 := by
  refine xMi_of (cc := cX3_numberOfToken) (maxL := 3) (ty := .int) (by decide) rfl (Nat.le_of_ble_eq_true rfl) ?_
  intro p e s m args below meth c A Q ls C hX hl hret
  have hx := C.1.1
  have hb := C.1.2.1
  have hl : lv_has ls 3 [(0, .ref h0)] := hl
  have L7 : ∀ (n : Nat), ∀ (x1 : Int32) (x2 : Int32) (H : Heap) (locs : List Loc) (ls : Array Slot), fX3_numberOfToken_L7 tokenStart tokenEnd bytes n x1 x2 = some r0 → xSt A s D [(h0, .inr (3, [.ref h_bytes, .int length, .int fault, .int faultPlace, .int token, .int tokenStart, .int tokenEnd])), (h_bytes, .inl (cB, 160, .inl bytes))] H locs → lv_has ls 3 [(0, .ref h0), (1, .int x1), (2, .int x2)] → W p l e ({ frames := 0, cells := 0, slots := 0, locals := 0 } : Room) s m args below meth c H locs 0 0 Q (F0 m 7 ls []) := by
    intro n
    induction n with
    | zero =>
      intro x1 x2 H locs ls hf
      rw [fX3_numberOfToken_L7] at hf
      cases hf
    | succ n ih =>
      intro x1 x2 H locs ls hf hX hl
      rw [fX3_numberOfToken_L7] at hf
      refine lv_iload_n (pc := 7) hx hb dX3_numberOfToken_7 rfl (lv_at hl 2 rfl) ?_
      refine lv_aload_n (pc := 8) hx hb dX3_numberOfToken_8 rfl (lv_at hl 0 rfl) ?_
      refine x_getf (pc := 9) (Cn := RX3) (T := TX3) (N := 7) C hX 0 rfl rfl miX3_numberOfToken_X3 6 (by decide) mmX3_numberOfToken_2 rfl dX3_numberOfToken_9 ?_
      refine lv_icmp_ge (pc := 12) (tgt := 36) hx hb dX3_numberOfToken_12 (by decide) (fun c1 => ?_) (fun c1 => ?_)
      · replace hf := ite_t c1 hf
        refine lv_iload_n (pc := 36) hx hb dX3_numberOfToken_36 rfl (lv_at hl 1 rfl) ?_
        obtain ⟨rfl⟩ := re1 hf
        exact hret _ _ _ _ _ rfl rfl hX dX3_numberOfToken_37
      · replace hf := ite_f c1 hf
        refine lv_iload_n (pc := 15) hx hb dX3_numberOfToken_15 rfl (lv_at hl 1 rfl) ?_
        refine lv_bipush (pc := 16) (v := 10) hx hb dX3_numberOfToken_16 (by decide) ?_
        refine lv_imul (pc := 18) hx hb dX3_numberOfToken_18 ?_
        refine lv_aload_n (pc := 19) hx hb dX3_numberOfToken_19 rfl (lv_at hl 0 rfl) ?_
        refine x_getf (pc := 20) (Cn := RX3) (T := TX3) (N := 7) C hX 0 rfl rfl miX3_numberOfToken_X3 0 (by decide) mmX3_numberOfToken_3 rfl dX3_numberOfToken_20 ?_
        refine lv_iload_n (pc := 23) hx hb dX3_numberOfToken_23 rfl (lv_at hl 2 rfl) ?_
        replace hf := chk_adv hf
        have i2 := hf.1
        replace hf := hf.2
        refine x_bald (pc := 24) C hX 1 1 rfl rfl i2 dX3_numberOfToken_24 ?_
        refine lv_iadd (pc := 25) hx hb dX3_numberOfToken_25 ?_
        refine lv_bipush (pc := 26) (v := 48) hx hb dX3_numberOfToken_26 (by decide) ?_
        refine lv_isub (pc := 28) hx hb dX3_numberOfToken_28 ?_
        refine lv_topi (fun v3 ev3 => ?_)
        replace hf := bnd_use ev3 hf
        refine lv_istore_n (pc := 29) (lv' := [(1, .int v3), (0, .ref h0), (2, .int x2)]) hx hb dX3_numberOfToken_29 rfl hl (by decide) rfl (fun ls hl => ?_)
        obtain ⟨v4, ev4⟩ : ∃ y : Int32, y = (x2 + (1 : Int32)) := ⟨_, rfl⟩
        replace hf := bnd_use ev4 hf
        refine lv_iinc (pc := 30) (v := v4) (lv' := [(2, .int v4), (1, .int v3), (0, .ref h0)]) hx hb dX3_numberOfToken_30 hl (k := 2) rfl (by rw [ev4]; rfl) (by decide) rfl (fun ls hl => ?_)
        refine lv_goto (pc := 33) (tgt := 7) hx hb dX3_numberOfToken_33 (by decide) ?_
        exact ih v3 v4 _ _ _ hf hX (lv_sub hl [2, 1, 0] rfl)
  unfold fX3_numberOfToken at hf
  refine lv_iconst (pc := 0) (v := 0) hx hb dX3_numberOfToken_0 (by decide) ?_
  refine lv_istore_n (pc := 1) (lv' := [(1, .int (0 : Int32)), (0, .ref h0)]) hx hb dX3_numberOfToken_1 rfl hl (by decide) rfl (fun ls hl => ?_)
  refine lv_aload_n (pc := 2) hx hb dX3_numberOfToken_2 rfl (lv_at hl 1 rfl) ?_
  refine x_getf (pc := 3) (Cn := RX3) (T := TX3) (N := 7) C hX 0 rfl rfl miX3_numberOfToken_X3 5 (by decide) mmX3_numberOfToken_1 rfl dX3_numberOfToken_3 ?_
  refine lv_istore_n (pc := 6) (lv' := [(2, .int tokenStart), (1, .int (0 : Int32)), (0, .ref h0)]) hx hb dX3_numberOfToken_6 rfl hl (by decide) rfl (fun ls hl => ?_)
  exact L7  xF (0 : Int32) tokenStart _ _ _ hf hX (lv_sub hl [2, 1, 0] rfl)
