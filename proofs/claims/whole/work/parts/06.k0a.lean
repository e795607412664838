set_option maxHeartbeats 4000000 in
set_option maxRecDepth 100000 in
theorem kJ6_signum_0f7a4 (ad : xAd) (l : Launch) (D : va_G) (cI cB cZ cG cS : ClassId)   (r0 : Int32) (p1 : Int32) (hf : fJ6_signum_0f7a4 p1  = some r0) : xMi ad l yJ6_signum_0f7a4 wsJ6_signum_0f7a4 ({ frames := 0, cells := 0, slots := 0, locals := 0 } : Room) D (xTY cI cB cZ cG cS) [.int p1] [] [] r0 := by
  refine xMi_of (cc := cJ6_signum_0f7a4) (maxL := 1) (ty := .int) (by decide) rfl (Nat.le_of_ble_eq_true rfl) ?_
  intro p e s m args below meth c A Q ls C hX hl hret
  have hx := C.1.1
  have hb := C.1.2.1
  have hl : lv_has ls 1 [(0, .int p1)] := hl
  unfold fJ6_signum_0f7a4 at hf
  refine lv_iload_n (pc := 0) hx hb dJ6_signum_0f7a4_0 rfl (lv_at hl 0 rfl) ?_
  refine lv_bipush (pc := 1) (v := 31) hx hb dJ6_signum_0f7a4_1 (by decide) ?_
  refine lv_ishr (pc := 3) hx hb dJ6_signum_0f7a4_3 ?_
  refine lv_iload_n (pc := 4) hx hb dJ6_signum_0f7a4_4 rfl (lv_at hl 0 rfl) ?_
  refine lv_ineg (pc := 5) hx hb dJ6_signum_0f7a4_5 ?_
  refine lv_bipush (pc := 6) (v := 31) hx hb dJ6_signum_0f7a4_6 (by decide) ?_
  refine lv_iushr (pc := 8) (v := (iushr (-p1) (31 : Int32))) hx hb dJ6_signum_0f7a4_8 rfl ?_
  refine lv_ior (pc := 9) hx hb dJ6_signum_0f7a4_9 ?_
  obtain ⟨rfl⟩ := re1 hf
  exact hret _ _ _ _ _ rfl rfl hX dJ6_signum_0f7a4_10
theorem mmJ6_bitCount_0f7a4_1 : Cond.constant RJ6 265 (1431655765) ∈ wsJ6_bitCount_0f7a4 := List.mem_of_getElem? (i := 1) rfl
theorem mmJ6_bitCount_0f7a4_2 : Cond.constant RJ6 266 (858993459) ∈ wsJ6_bitCount_0f7a4 := List.mem_of_getElem? (i := 2) rfl
theorem mmJ6_bitCount_0f7a4_3 : Cond.constant RJ6 267 (252645135) ∈ wsJ6_bitCount_0f7a4 := List.mem_of_getElem? (i := 3) rfl
set_option maxHeartbeats 4000000 in
set_option maxRecDepth 100000 in
theorem kJ6_bitCount_0f7a4 (ad : xAd) (l : Launch) (D : va_G) (cI cB cZ cG cS : ClassId)   (r0 : Int32) (p1 : Int32) (hf : fJ6_bitCount_0f7a4 p1  = some r0) : xMi ad l yJ6_bitCount_0f7a4 wsJ6_bitCount_0f7a4 ({ frames := 0, cells := 0, slots := 0, locals := 0 } : Room) D (xTY cI cB cZ cG cS) [.int p1] [] [] r0 := by
  refine xMi_of (cc := cJ6_bitCount_0f7a4) (maxL := 1) (ty := .int) (by decide) rfl (Nat.le_of_ble_eq_true rfl) ?_
  intro p e s m args below meth c A Q ls C hX hl hret
  have hx := C.1.1
  have hb := C.1.2.1
  have hl : lv_has ls 1 [(0, .int p1)] := hl
  unfold fJ6_bitCount_0f7a4 at hf
  refine lv_iload_n (pc := 0) hx hb dJ6_bitCount_0f7a4_0 rfl (lv_at hl 0 rfl) ?_
  refine lv_iload_n (pc := 1) hx hb dJ6_bitCount_0f7a4_1 rfl (lv_at hl 0 rfl) ?_
  refine lv_iconst (pc := 2) (v := 1) hx hb dJ6_bitCount_0f7a4_2 (by decide) ?_
  refine lv_iushr (pc := 3) (v := (iushr p1 (1 : Int32))) hx hb dJ6_bitCount_0f7a4_3 rfl ?_
  refine lv_ldcw (pc := 4) hx hb C.1.2.2.2.1 (C.1.2.2.2.2 _ mmJ6_bitCount_0f7a4_1) dJ6_bitCount_0f7a4_4 ?_
  refine lv_iand (pc := 7) hx hb dJ6_bitCount_0f7a4_7 ?_
  refine lv_isub (pc := 8) hx hb dJ6_bitCount_0f7a4_8 ?_
  refine lv_topi (fun v1 ev1 => ?_)
  replace hf := bnd_use ev1 hf
  refine lv_istore_n (pc := 9) (lv' := [(0, .int v1)]) hx hb dJ6_bitCount_0f7a4_9 rfl hl (by decide) rfl (fun ls hl => ?_)
  refine lv_iload_n (pc := 10) hx hb dJ6_bitCount_0f7a4_10 rfl (lv_at hl 0 rfl) ?_
  refine lv_ldcw (pc := 11) hx hb C.1.2.2.2.1 (C.1.2.2.2.2 _ mmJ6_bitCount_0f7a4_2) dJ6_bitCount_0f7a4_11 ?_
  refine lv_iand (pc := 14) hx hb dJ6_bitCount_0f7a4_14 ?_
  refine lv_iload_n (pc := 15) hx hb dJ6_bitCount_0f7a4_15 rfl (lv_at hl 0 rfl) ?_
  refine lv_iconst (pc := 16) (v := 2) hx hb dJ6_bitCount_0f7a4_16 (by decide) ?_
  refine lv_iushr (pc := 17) (v := (iushr v1 (2 : Int32))) hx hb dJ6_bitCount_0f7a4_17 rfl ?_
  refine lv_ldcw (pc := 18) hx hb C.1.2.2.2.1 (C.1.2.2.2.2 _ mmJ6_bitCount_0f7a4_2) dJ6_bitCount_0f7a4_18 ?_
  refine lv_iand (pc := 21) hx hb dJ6_bitCount_0f7a4_21 ?_
  refine lv_iadd (pc := 22) hx hb dJ6_bitCount_0f7a4_22 ?_
  refine lv_topi (fun v2 ev2 => ?_)
  replace hf := bnd_use ev2 hf
  refine lv_istore_n (pc := 23) (lv' := [(0, .int v2)]) hx hb dJ6_bitCount_0f7a4_23 rfl hl (by decide) rfl (fun ls hl => ?_)
  refine lv_iload_n (pc := 24) hx hb dJ6_bitCount_0f7a4_24 rfl (lv_at hl 0 rfl) ?_
  refine lv_iload_n (pc := 25) hx hb dJ6_bitCount_0f7a4_25 rfl (lv_at hl 0 rfl) ?_
  refine lv_iconst (pc := 26) (v := 4) hx hb dJ6_bitCount_0f7a4_26 (by decide) ?_
  refine lv_iushr (pc := 27) (v := (iushr v2 (4 : Int32))) hx hb dJ6_bitCount_0f7a4_27 rfl ?_
  refine lv_iadd (pc := 28) hx hb dJ6_bitCount_0f7a4_28 ?_
  refine lv_ldcw (pc := 29) hx hb C.1.2.2.2.1 (C.1.2.2.2.2 _ mmJ6_bitCount_0f7a4_3) dJ6_bitCount_0f7a4_29 ?_
  refine lv_iand (pc := 32) hx hb dJ6_bitCount_0f7a4_32 ?_
  refine lv_topi (fun v3 ev3 => ?_)
  replace hf := bnd_use ev3 hf
  refine lv_istore_n (pc := 33) (lv' := [(0, .int v3)]) hx hb dJ6_bitCount_0f7a4_33 rfl hl (by decide) rfl (fun ls hl => ?_)
  refine lv_iload_n (pc := 34) hx hb dJ6_bitCount_0f7a4_34 rfl (lv_at hl 0 rfl) ?_
  refine lv_iload_n (pc := 35) hx hb dJ6_bitCount_0f7a4_35 rfl (lv_at hl 0 rfl) ?_
  refine lv_bipush (pc := 36) (v := 8) hx hb dJ6_bitCount_0f7a4_36 (by decide) ?_
  refine lv_iushr (pc := 38) (v := (iushr v3 (8 : Int32))) hx hb dJ6_bitCount_0f7a4_38 rfl ?_
  refine lv_iadd (pc := 39) hx hb dJ6_bitCount_0f7a4_39 ?_
  refine lv_topi (fun v4 ev4 => ?_)
  replace hf := bnd_use ev4 hf
  refine lv_istore_n (pc := 40) (lv' := [(0, .int v4)]) hx hb dJ6_bitCount_0f7a4_40 rfl hl (by decide) rfl (fun ls hl => ?_)
  refine lv_iload_n (pc := 41) hx hb dJ6_bitCount_0f7a4_41 rfl (lv_at hl 0 rfl) ?_
  refine lv_iload_n (pc := 42) hx hb dJ6_bitCount_0f7a4_42 rfl (lv_at hl 0 rfl) ?_
  refine lv_bipush (pc := 43) (v := 16) hx hb dJ6_bitCount_0f7a4_43 (by decide) ?_
  refine lv_iushr (pc := 45) (v := (iushr v4 (16 : Int32))) hx hb dJ6_bitCount_0f7a4_45 rfl ?_
  refine lv_iadd (pc := 46) hx hb dJ6_bitCount_0f7a4_46 ?_
  refine lv_topi (fun v5 ev5 => ?_)
  replace hf := bnd_use ev5 hf
  refine lv_istore_n (pc := 47) (lv' := [(0, .int v5)]) hx hb dJ6_bitCount_0f7a4_47 rfl hl (by decide) rfl (fun ls hl => ?_)
  refine lv_iload_n (pc := 48) hx hb dJ6_bitCount_0f7a4_48 rfl (lv_at hl 0 rfl) ?_
  refine lv_bipush (pc := 49) (v := 63) hx hb dJ6_bitCount_0f7a4_49 (by decide) ?_
  refine lv_iand (pc := 51) hx hb dJ6_bitCount_0f7a4_51 ?_
  obtain ⟨rfl⟩ := re1 hf
  exact hret _ _ _ _ _ rfl rfl hX dJ6_bitCount_0f7a4_52
set_option maxHeartbeats 4000000 in
set_option maxRecDepth 100000 in
theorem kX4_within (ad : xAd) (l : Launch) (D : va_G) (cI cB cZ cG cS : ClassId)   (r0 : Int32) (p1 : Int32) (p2 : Int32) (p3 : Int32) (hf : fX4_within p1 p2 p3  = some r0) : xMi ad l yX4_within wsX4_within ({ frames := 0, cells := 0, slots := 0, locals := 0 } : Room) D (xTY cI cB cZ cG cS) [.int p1, .int p2, .int p3] [] [] r0 := by
  refine xMi_of (cc := cX4_within) (maxL := 3) (ty := .boolean) (by decide) rfl (Nat.le_of_ble_eq_true rfl) ?_
  intro p e s m args below meth c A Q ls C hX hl hret
  have hx := C.1.1
  have hb := C.1.2.1
  have hl : lv_has ls 3 [(0, .int p1), (1, .int p2), (2, .int p3)] := hl
  unfold fX4_within at hf
  refine lv_iload_n (pc := 0) hx hb dX4_within_0 rfl (lv_at hl 1 rfl) ?_
  refine lv_iload_n (pc := 1) hx hb dX4_within_1 rfl (lv_at hl 0 rfl) ?_
  refine lv_icmp_gt (pc := 2) (tgt := 14) hx hb dX4_within_2 (by decide) (fun c1 => ?_) (fun c1 => ?_)
  · replace hf := ite_t c1 hf
    refine lv_iconst (pc := 14) (v := 0) hx hb dX4_within_14 (by decide) ?_
    obtain ⟨rfl⟩ := re1 hf
    exact hret _ _ _ _ _ rfl rfl hX dX4_within_15
  · replace hf := ite_f c1 hf
    refine lv_iload_n (pc := 5) hx hb dX4_within_5 rfl (lv_at hl 0 rfl) ?_
    refine lv_iload_n (pc := 6) hx hb dX4_within_6 rfl (lv_at hl 2 rfl) ?_
    refine lv_icmp_gt (pc := 7) (tgt := 14) hx hb dX4_within_7 (by decide) (fun c2 => ?_) (fun c2 => ?_)
    · replace hf := ite_t c2 hf
      refine lv_iconst (pc := 14) (v := 0) hx hb dX4_within_14 (by decide) ?_
      obtain ⟨rfl⟩ := re1 hf
      exact hret _ _ _ _ _ rfl rfl hX dX4_within_15
    · replace hf := ite_f c2 hf
      refine lv_iconst (pc := 10) (v := 1) hx hb dX4_within_10 (by decide) ?_
      refine lv_goto (pc := 11) (tgt := 15) hx hb dX4_within_11 (by decide) ?_
      obtain ⟨rfl⟩ := re1 hf
      exact hret _ _ _ _ _ rfl rfl hX dX4_within_15
set_option maxHeartbeats 4000000 in
set_option maxRecDepth 100000 in
theorem kX4_mostOf (ad : xAd) (l : Launch) (D : va_G) (cI cB cZ cG cS : ClassId)   (r0 : Int32) (p1 : Int32) (hf : fX4_mostOf p1  = some r0) : xMi ad l yX4_mostOf wsX4_mostOf ({ frames := 0, cells := 0, slots := 0, locals := 0 } : Room) D (xTY cI cB cZ cG cS) [.int p1] [] [] r0 := by
  refine xMi_of (cc := cX4_mostOf) (maxL := 1) (ty := .int) (by decide) rfl (Nat.le_of_ble_eq_true rfl) ?_
  intro p e s m args below meth c A Q ls C hX hl hret
  have hx := C.1.1
  have hb := C.1.2.1
  have hl : lv_has ls 1 [(0, .int p1)] := hl
  unfold fX4_mostOf at hf
  refine lv_iload_n (pc := 0) hx hb dX4_mostOf_0 rfl (lv_at hl 0 rfl) ?_
  refine lv_if_ne (pc := 1) (tgt := 6) hx hb dX4_mostOf_1 (by decide) (fun c1 => ?_) (fun c1 => ?_)
  · replace hf := ite_f c1 hf
    refine lv_iload_n (pc := 6) hx hb dX4_mostOf_6 rfl (lv_at hl 0 rfl) ?_
    refine lv_iconst (pc := 7) (v := 1) hx hb dX4_mostOf_7 (by decide) ?_
    refine lv_icmp_ne (pc := 8) (tgt := 16) hx hb dX4_mostOf_8 (by decide) (fun c2 => ?_) (fun c2 => ?_)
    · replace hf := ite_f c2 hf
      refine lv_bipush (pc := 16) (v := 9) hx hb dX4_mostOf_16 (by decide) ?_
      obtain ⟨rfl⟩ := re1 hf
      exact hret _ _ _ _ _ rfl rfl hX dX4_mostOf_18
    · replace hf := ite_t c2 hf
      refine lv_bipush (pc := 11) (v := 9) hx hb dX4_mostOf_11 (by decide) ?_
      refine lv_goto (pc := 13) (tgt := 18) hx hb dX4_mostOf_13 (by decide) ?_
      obtain ⟨rfl⟩ := re1 hf
      exact hret _ _ _ _ _ rfl rfl hX dX4_mostOf_18
  · replace hf := ite_t c1 hf
    refine lv_iconst (pc := 4) (v := 3) hx hb dX4_mostOf_4 (by decide) ?_
    obtain ⟨rfl⟩ := re1 hf
    exact hret _ _ _ _ _ rfl rfl hX dX4_mostOf_5
set_option maxHeartbeats 4000000 in
set_option maxRecDepth 100000 in
theorem kX4_isShiftedStroke (ad : xAd) (l : Launch) (D : va_G) (cI cB cZ cG cS : ClassId)   (r0 : Int32) (p1 : Int32) (hf : fX4_isShiftedStroke p1  = some r0) : xMi ad l yX4_isShiftedStroke wsX4_isShiftedStroke ({ frames := 1, cells := 0, slots := 0, locals := 22 } : Room) D (xTY cI cB cZ cG cS) [.int p1] [] [] r0 := by
  refine xMi_of (cc := cX4_isShiftedStroke) (maxL := 1) (ty := .boolean) (by decide) rfl (Nat.le_of_ble_eq_true rfl) ?_
  intro p e s m args below meth c A Q ls C hX hl hret
  have hx := C.1.1
  have hb := C.1.2.1
  have hl : lv_has ls 1 [(0, .int p1)] := hl
  unfold fX4_isShiftedStroke at hf
  refine lv_iload_n (pc := 0) hx hb dX4_isShiftedStroke_0 rfl (lv_at hl 0 rfl) ?_
  refine lv_iconst (pc := 1) (v := 0) hx hb dX4_isShiftedStroke_1 (by decide) ?_
  refine lv_bipush (pc := 2) (v := 18) hx hb dX4_isShiftedStroke_2 (by decide) ?_
  obtain ⟨r1, g2, hf⟩ := cl1_adv hf
  refine x_callSi (pc := 4) (rest := []) C hX (kX4_within ad l D cI cB cZ cG cS r1 p1 (0 : Int32) (18 : Int32) g2) (va_cwS 3 C.1.2.2.2.2 gX4_isShiftedStroke_X4_within rfl rfl rfl (by decide +kernel) ⟨Nat.le_of_ble_eq_true rfl, Nat.le_of_ble_eq_true rfl⟩) hl.1 rfl rfl (Nat.le_of_ble_eq_true rfl) dX4_isShiftedStroke_4 (fun H locs hX => ?_)
  replace hf := chk_adv hf
  have i3 := hf.1
  replace hf := hf.2
  obtain ⟨rfl⟩ := re1 hf
  exact hret _ _ _ _ _ rfl (xbz_nar i3) hX dX4_isShiftedStroke_7
set_option maxHeartbeats 4000000 in
set_option maxRecDepth 100000 in
theorem kX4_isAhead (ad : xAd) (l : Launch) (D : va_G) (cI cB cZ cG cS : ClassId)   (r0 : Int32) (p1 : Int32) (hf : fX4_isAhead p1  = some r0) : xMi ad l yX4_isAhead wsX4_isAhead ({ frames := 1, cells := 0, slots := 0, locals := 22 } : Room) D (xTY cI cB cZ cG cS) [.int p1] [] [] r0 := by
  refine xMi_of (cc := cX4_isAhead) (maxL := 1) (ty := .boolean) (by decide) rfl (Nat.le_of_ble_eq_true rfl) ?_
  intro p e s m args below meth c A Q ls C hX hl hret
  have hx := C.1.1
  have hb := C.1.2.1
  have hl : lv_has ls 1 [(0, .int p1)] := hl
  unfold fX4_isAhead at hf
  refine lv_iload_n (pc := 0) hx hb dX4_isAhead_0 rfl (lv_at hl 0 rfl) ?_
  refine lv_iconst (pc := 1) (v := 0) hx hb dX4_isAhead_1 (by decide) ?_
  refine lv_sipush (pc := 2) (v := 200) hx hb dX4_isAhead_2 (by decide) ?_
  obtain ⟨r1, g2, hf⟩ := cl1_adv hf
  refine x_callSi (pc := 5) (rest := []) C hX (kX4_within ad l D cI cB cZ cG cS r1 p1 (0 : Int32) (200 : Int32) g2) (va_cwS 3 C.1.2.2.2.2 gX4_isAhead_X4_within rfl rfl rfl (by decide +kernel) ⟨Nat.le_of_ble_eq_true rfl, Nat.le_of_ble_eq_true rfl⟩) hl.1 rfl rfl (Nat.le_of_ble_eq_true rfl) dX4_isAhead_5 (fun H locs hX => ?_)
  replace hf := chk_adv hf
  have i3 := hf.1
  replace hf := hf.2
  obtain ⟨rfl⟩ := re1 hf
  exact hret _ _ _ _ _ rfl (xbz_nar i3) hX dX4_isAhead_8
theorem mmX4_isShiftedPlace_1 : Cond.constant RX4 264 (100000) ∈ wsX4_isShiftedPlace := List.mem_of_getElem? (i := 1) rfl
theorem mmX4_isShiftedPlace_2 : Cond.constant RX4 265 (300000) ∈ wsX4_isShiftedPlace := List.mem_of_getElem? (i := 2) rfl
set_option maxHeartbeats 4000000 in
set_option maxRecDepth 100000 in
theorem kX4_isShiftedPlace (ad : xAd) (l : Launch) (D : va_G) (cI cB cZ cG cS : ClassId)   (r0 : Int32) (p1 : Int32) (hf : fX4_isShiftedPlace p1  = some r0) : xMi ad l yX4_isShiftedPlace wsX4_isShiftedPlace ({ frames := 1, cells := 0, slots := 0, locals := 22 } : Room) D (xTY cI cB cZ cG cS) [.int p1] [] [] r0 := by
  refine xMi_of (cc := cX4_isShiftedPlace) (maxL := 1) (ty := .boolean) (by decide) rfl (Nat.le_of_ble_eq_true rfl) ?_
  intro p e s m args below meth c A Q ls C hX hl hret
  have hx := C.1.1
  have hb := C.1.2.1
  have hl : lv_has ls 1 [(0, .int p1)] := hl
  unfold fX4_isShiftedPlace at hf
  refine lv_iload_n (pc := 0) hx hb dX4_isShiftedPlace_0 rfl (lv_at hl 0 rfl) ?_
  refine lv_ldcw (pc := 1) hx hb C.1.2.2.2.1 (C.1.2.2.2.2 _ mmX4_isShiftedPlace_1) dX4_isShiftedPlace_1 ?_
  refine lv_ldcw (pc := 4) hx hb C.1.2.2.2.1 (C.1.2.2.2.2 _ mmX4_isShiftedPlace_2) dX4_isShiftedPlace_4 ?_
  obtain ⟨r1, g2, hf⟩ := cl1_adv hf
  refine x_callSi (pc := 7) (rest := []) C hX (kX4_within ad l D cI cB cZ cG cS r1 p1 (100000 : Int32) (300000 : Int32) g2) (va_cwS 3 C.1.2.2.2.2 gX4_isShiftedPlace_X4_within rfl rfl rfl (by decide +kernel) ⟨Nat.le_of_ble_eq_true rfl, Nat.le_of_ble_eq_true rfl⟩) hl.1 rfl rfl (Nat.le_of_ble_eq_true rfl) dX4_isShiftedPlace_7 (fun H locs hX => ?_)
  replace hf := chk_adv hf
  have i3 := hf.1
  replace hf := hf.2
  obtain ⟨rfl⟩ := re1 hf
  exact hret _ _ _ _ _ rfl (xbz_nar i3) hX dX4_isShiftedPlace_10
set_option maxHeartbeats 4000000 in
set_option maxRecDepth 100000 in
theorem kX4_isFirstOrSecond (ad : xAd) (l : Launch) (D : va_G) (cI cB cZ cG cS : ClassId)   (r0 : Int32) (p1 : Int32) (hf : fX4_isFirstOrSecond p1  = some r0) : xMi ad l yX4_isFirstOrSecond wsX4_isFirstOrSecond ({ frames := 1, cells := 0, slots := 0, locals := 22 } : Room) D (xTY cI cB cZ cG cS) [.int p1] [] [] r0 := by
  refine xMi_of (cc := cX4_isFirstOrSecond) (maxL := 1) (ty := .boolean) (by decide) rfl (Nat.le_of_ble_eq_true rfl) ?_
  intro p e s m args below meth c A Q ls C hX hl hret
  have hx := C.1.1
  have hb := C.1.2.1
  have hl : lv_has ls 1 [(0, .int p1)] := hl
  unfold fX4_isFirstOrSecond at hf
  refine lv_iload_n (pc := 0) hx hb dX4_isFirstOrSecond_0 rfl (lv_at hl 0 rfl) ?_
  refine lv_iconst (pc := 1) (v := 0) hx hb dX4_isFirstOrSecond_1 (by decide) ?_
  refine lv_iconst (pc := 2) (v := 1) hx hb dX4_isFirstOrSecond_2 (by decide) ?_
  obtain ⟨r1, g2, hf⟩ := cl1_adv hf
  refine x_callSi (pc := 3) (rest := []) C hX (kX4_within ad l D cI cB cZ cG cS r1 p1 (0 : Int32) (1 : Int32) g2) (va_cwS 3 C.1.2.2.2.2 gX4_isFirstOrSecond_X4_within rfl rfl rfl (by decide +kernel) ⟨Nat.le_of_ble_eq_true rfl, Nat.le_of_ble_eq_true rfl⟩) hl.1 rfl rfl (Nat.le_of_ble_eq_true rfl) dX4_isFirstOrSecond_3 (fun H locs hX => ?_)
  replace hf := chk_adv hf
  have i3 := hf.1
  replace hf := hf.2
  obtain ⟨rfl⟩ := re1 hf
  exact hret _ _ _ _ _ rfl (xbz_nar i3) hX dX4_isFirstOrSecond_6
set_option maxHeartbeats 4000000 in
set_option maxRecDepth 100000 in
theorem kX4_areOdds (ad : xAd) (l : Launch) (D : va_G) (cI cB cZ cG cS : ClassId)   (r0 : Int32) (p1 : Int32) (p2 : Int32) (p3 : Int32) (hf : fX4_areOdds p1 p2 p3  = some r0) : xMi ad l yX4_areOdds wsX4_areOdds ({ frames := 2, cells := 0, slots := 0, locals := 42 } : Room) D (xTY cI cB cZ cG cS) [.int p1, .int p2, .int p3] [] [] r0 := by
  refine xMi_of (cc := cX4_areOdds) (maxL := 3) (ty := .boolean) (by decide) rfl (Nat.le_of_ble_eq_true rfl) ?_
  intro p e s m args below meth c A Q ls C hX hl hret
  have hx := C.1.1
  have hb := C.1.2.1
  have hl : lv_has ls 3 [(0, .int p1), (1, .int p2), (2, .int p3)] := hl
  unfold fX4_areOdds at hf
  refine lv_iload_n (pc := 0) hx hb dX4_areOdds_0 rfl (lv_at hl 0 rfl) ?_
  refine lv_iconst (pc := 1) (v := 0) hx hb dX4_areOdds_1 (by decide) ?_
  refine lv_bipush (pc := 2) (v := 10) hx hb dX4_areOdds_2 (by decide) ?_
  obtain ⟨r1, g2, hf⟩ := cl1_adv hf
  refine x_callSi (pc := 4) (rest := []) C hX (kX4_within ad l D cI cB cZ cG cS r1 p1 (0 : Int32) (10 : Int32) g2) (va_cwS 3 C.1.2.2.2.2 gX4_areOdds_X4_within rfl rfl rfl (by decide +kernel) ⟨Nat.le_of_ble_eq_true rfl, Nat.le_of_ble_eq_true rfl⟩) hl.1 rfl rfl (Nat.le_of_ble_eq_true rfl) dX4_areOdds_4 (fun H locs hX => ?_)
  refine lv_if_eq (pc := 7) (tgt := 31) hx hb dX4_areOdds_7 (by decide) (fun c3 => ?_) (fun c3 => ?_)
  · replace hf := ite_t c3 hf
    refine lv_iconst (pc := 31) (v := 0) hx hb dX4_areOdds_31 (by decide) ?_
    obtain ⟨rfl⟩ := re1 hf
    exact hret _ _ _ _ _ rfl rfl hX dX4_areOdds_32
  · replace hf := ite_f c3 hf
    refine lv_iload_n (pc := 10) hx hb dX4_areOdds_10 rfl (lv_at hl 1 rfl) ?_
    refine lv_iconst (pc := 11) (v := 0) hx hb dX4_areOdds_11 (by decide) ?_
    refine lv_bipush (pc := 12) (v := 8) hx hb dX4_areOdds_12 (by decide) ?_
    obtain ⟨r4, g5, hf⟩ := cl1_adv hf
    refine x_callSi (pc := 14) (rest := []) C hX (kX4_within ad l D cI cB cZ cG cS r4 p2 (0 : Int32) (8 : Int32) g5) (va_cwS 3 C.1.2.2.2.2 gX4_areOdds_X4_within rfl rfl rfl (by decide +kernel) ⟨Nat.le_of_ble_eq_true rfl, Nat.le_of_ble_eq_true rfl⟩) hl.1 rfl rfl (Nat.le_of_ble_eq_true rfl) dX4_areOdds_14 (fun H locs hX => ?_)
    refine lv_if_eq (pc := 17) (tgt := 31) hx hb dX4_areOdds_17 (by decide) (fun c6 => ?_) (fun c6 => ?_)
    · replace hf := ite_t c6 hf
      refine lv_iconst (pc := 31) (v := 0) hx hb dX4_areOdds_31 (by decide) ?_
      obtain ⟨rfl⟩ := re1 hf
      exact hret _ _ _ _ _ rfl rfl hX dX4_areOdds_32
    · replace hf := ite_f c6 hf
      refine lv_iload_n (pc := 20) hx hb dX4_areOdds_20 rfl (lv_at hl 2 rfl) ?_
      obtain ⟨r7, g8, hf⟩ := cl1_adv hf
      refine x_callSi (pc := 21) (rest := []) C hX (kX4_isFirstOrSecond ad l D cI cB cZ cG cS r7 p3 g8) (va_cwS 1 C.1.2.2.2.2 gX4_areOdds_X4_isFirstOrSecond rfl rfl rfl (by decide +kernel) ⟨Nat.le_of_ble_eq_true rfl, Nat.le_of_ble_eq_true rfl⟩) hl.1 rfl rfl (Nat.le_of_ble_eq_true rfl) dX4_areOdds_21 (fun H locs hX => ?_)
      refine lv_if_eq (pc := 24) (tgt := 31) hx hb dX4_areOdds_24 (by decide) (fun c9 => ?_) (fun c9 => ?_)
      · replace hf := ite_t c9 hf
        refine lv_iconst (pc := 31) (v := 0) hx hb dX4_areOdds_31 (by decide) ?_
        obtain ⟨rfl⟩ := re1 hf
        exact hret _ _ _ _ _ rfl rfl hX dX4_areOdds_32
      · replace hf := ite_f c9 hf
        refine lv_iconst (pc := 27) (v := 1) hx hb dX4_areOdds_27 (by decide) ?_
        refine lv_goto (pc := 28) (tgt := 32) hx hb dX4_areOdds_28 (by decide) ?_
        obtain ⟨rfl⟩ := re1 hf
        exact hret _ _ _ _ _ rfl rfl hX dX4_areOdds_32
set_option maxHeartbeats 4000000 in
set_option maxRecDepth 100000 in
theorem kX4_power (ad : xAd) (l : Launch) (D : va_G) (cI cB cZ cG cS : ClassId)   (r0 : Int64) (p1 : Int32) (p2 : Int32) (hf : fX4_power p1 p2  = some r0) : xMl ad l yX4_power wsX4_power ({ frames := 0, cells := 0, slots := 0, locals := 0 } : Room) D (xTY cI cB cZ cG cS) [.int p1, .int p2] [] [] r0 := by
  refine xMl_of (cc := cX4_power) (maxL := 5) (by decide) rfl (Nat.le_of_ble_eq_true rfl) ?_
  intro p e s m args below meth c A Q ls C hX hl hret
  have hx := C.1.1
  have hb := C.1.2.1
  have hl : lv_has ls 5 [(0, .int p1), (1, .int p2)] := hl
  have L5 : ∀ (n : Nat), ∀ (x0 : Int32) (x1 : Int32) (x2 : Int64) (x4 : Int32) (H : Heap) (locs : List Loc) (ls : Array Slot), fX4_power_L5  n x0 x1 x2 x4 = some r0 → xSt A s D [] H locs → lv_has ls 5 [(0, .int x0), (1, .int x1), (2, .long x2), (4, .int x4)] → W p l e ({ frames := 0, cells := 0, slots := 0, locals := 0 } : Room) s m args below meth c H locs 0 0 Q (F0 m 5 ls []) := by
    intro n
    induction n with
    | zero =>
      intro x0 x1 x2 x4 H locs ls hf
      rw [fX4_power_L5] at hf
      cases hf
    | succ n ih =>
      intro x0 x1 x2 x4 H locs ls hf hX hl
      rw [fX4_power_L5] at hf
      refine lv_iload (pc := 5) hx hb dX4_power_5 (lv_at hl 3 rfl) ?_
      refine lv_iload_n (pc := 7) hx hb dX4_power_7 rfl (lv_at hl 1 rfl) ?_
      refine lv_icmp_ge (pc := 8) (tgt := 22) hx hb dX4_power_8 (by decide) (fun c1 => ?_) (fun c1 => ?_)
      · replace hf := ite_t c1 hf
        refine lv_lload_n (pc := 22) hx hb dX4_power_22 rfl (lv_at hl 2 rfl) ?_
        obtain ⟨rfl⟩ := re1 hf
        exact hret _ _ _ _ _ rfl hX dX4_power_23
      · replace hf := ite_f c1 hf
        refine lv_lload_n (pc := 11) hx hb dX4_power_11 rfl (lv_at hl 2 rfl) ?_
        refine lv_iload_n (pc := 12) hx hb dX4_power_12 rfl (lv_at hl 0 rfl) ?_
        refine lv_i2l (pc := 13) (v := ((x0).toInt64)) hx hb dX4_power_13 rfl ?_
        refine lv_lmul (pc := 14) hx hb dX4_power_14 ?_
        refine lv_topl (fun v2 ev2 => ?_)
        replace hf := bnd_use ev2 hf
        refine lv_lstore_n (pc := 15) (lv' := [(2, .long v2), (0, .int x0), (1, .int x1), (4, .int x4)]) hx hb dX4_power_15 rfl hl (by decide) rfl (fun ls hl => ?_)
        obtain ⟨v3, ev3⟩ : ∃ y : Int32, y = (x4 + (1 : Int32)) := ⟨_, rfl⟩
        replace hf := bnd_use ev3 hf
        refine lv_iinc (pc := 16) (v := v3) (lv' := [(4, .int v3), (2, .long v2), (0, .int x0), (1, .int x1)]) hx hb dX4_power_16 hl (k := 3) rfl (by rw [ev3]; rfl) (by decide) rfl (fun ls hl => ?_)
        refine lv_goto (pc := 19) (tgt := 5) hx hb dX4_power_19 (by decide) ?_
        exact ih x0 x1 v2 v3 _ _ _ hf hX (lv_sub hl [2, 3, 1, 0] rfl)
  unfold fX4_power at hf
  refine lv_lconst (pc := 0) (v := 1) hx hb dX4_power_0 (by decide) ?_
  refine lv_lstore_n (pc := 1) (lv' := [(2, .long (1 : Int64)), (0, .int p1), (1, .int p2)]) hx hb dX4_power_1 rfl hl (by decide) rfl (fun ls hl => ?_)
  refine lv_iconst (pc := 2) (v := 0) hx hb dX4_power_2 (by decide) ?_
  refine lv_istore (pc := 3) (lv' := [(4, .int (0 : Int32)), (2, .long (1 : Int64)), (0, .int p1), (1, .int p2)]) hx hb dX4_power_3 hl (by decide) rfl (fun ls hl => ?_)
  exact L5  xF p1 p2 (1 : Int64) (0 : Int32) _ _ _ hf hX (lv_sub hl [2, 3, 1, 0] rfl)
set_option maxHeartbeats 4000000 in
set_option maxRecDepth 100000 in
theorem kX4_weightOf (ad : xAd) (l : Launch) (D : va_G) (cI cB cZ cG cS : ClassId)   (r0 : Int64) (p1 : Int32) (p2 : Int32) (p3 : Int32) (hf : fX4_weightOf p1 p2 p3  = some r0) : xMl ad l yX4_weightOf wsX4_weightOf ({ frames := 1, cells := 0, slots := 0, locals := 24 } : Room) D (xTY cI cB cZ cG cS) [.int p1, .int p2, .int p3] [] [] r0 := by
  refine xMl_of (cc := cX4_weightOf) (maxL := 4) (by decide) rfl (Nat.le_of_ble_eq_true rfl) ?_
  intro p e s m args below meth c A Q ls C hX hl hret
  have hx := C.1.1
  have hb := C.1.2.1
  have hl : lv_has ls 4 [(0, .int p1), (1, .int p2), (2, .int p3)] := hl
  unfold fX4_weightOf at hf
  refine lv_iload_n (pc := 0) hx hb dX4_weightOf_0 rfl (lv_at hl 0 rfl) ?_
  obtain ⟨r1, g2, hf⟩ := cl1_adv hf
  refine x_callSi (pc := 1) (rest := []) C hX (kJ6_bitCount_0f7a4 ad l D cI cB cZ cG cS r1 p1 g2) (va_cwS 1 C.1.2.2.2.2 gX4_weightOf_J6_bitCount_0f7a4 rfl rfl rfl (by decide +kernel) ⟨Nat.le_of_ble_eq_true rfl, Nat.le_of_ble_eq_true rfl⟩) hl.1 rfl rfl (Nat.le_of_ble_eq_true rfl) dX4_weightOf_1 (fun H locs hX => ?_)
  refine lv_istore_n (pc := 4) (lv' := [(3, .int r1), (0, .int p1), (1, .int p2), (2, .int p3)]) hx hb dX4_weightOf_4 rfl hl (by decide) rfl (fun ls hl => ?_)
  refine lv_iload_n (pc := 5) hx hb dX4_weightOf_5 rfl (lv_at hl 2 rfl) ?_
  refine lv_iload_n (pc := 6) hx hb dX4_weightOf_6 rfl (lv_at hl 0 rfl) ?_
  obtain ⟨r3, g4, hf⟩ := cl1_adv hf
  refine x_callSl (pc := 7) (rest := []) C hX (kX4_power ad l D cI cB cZ cG cS r3 p2 r1 g4) (va_cwS 2 C.1.2.2.2.2 gX4_weightOf_X4_power rfl rfl rfl (by decide +kernel) ⟨Nat.le_of_ble_eq_true rfl, Nat.le_of_ble_eq_true rfl⟩) hl.1 rfl rfl (Nat.le_of_ble_eq_true rfl) dX4_weightOf_7 (fun H locs hX => ?_)
  refine lv_bipush (pc := 10) (v := 10) hx hb dX4_weightOf_10 (by decide) ?_
  refine lv_iload_n (pc := 12) hx hb dX4_weightOf_12 rfl (lv_at hl 2 rfl) ?_
  refine lv_isub (pc := 13) hx hb dX4_weightOf_13 ?_
  refine lv_iload_n (pc := 14) hx hb dX4_weightOf_14 rfl (lv_at hl 3 rfl) ?_
  refine lv_iload_n (pc := 15) hx hb dX4_weightOf_15 rfl (lv_at hl 0 rfl) ?_
  refine lv_isub (pc := 16) hx hb dX4_weightOf_16 ?_
  obtain ⟨r5, g6, hf⟩ := cl1_adv hf
  refine x_callSl (pc := 17) (rest := [.long r3]) C hX (kX4_power ad l D cI cB cZ cG cS r5 ((10 : Int32) - p2) (p3 - r1) g6) (va_cwS 2 C.1.2.2.2.2 gX4_weightOf_X4_power rfl rfl rfl (by decide +kernel) ⟨Nat.le_of_ble_eq_true rfl, Nat.le_of_ble_eq_true rfl⟩) hl.1 rfl rfl (Nat.le_of_ble_eq_true rfl) dX4_weightOf_17 (fun H locs hX => ?_)
  refine lv_lmul (pc := 20) hx hb dX4_weightOf_20 ?_
  obtain ⟨rfl⟩ := re1 hf
  exact hret _ _ _ _ _ rfl hX dX4_weightOf_21
set_option maxHeartbeats 4000000 in
set_option maxRecDepth 100000 in
theorem kX4_greatestDivisor (ad : xAd) (l : Launch) (D : va_G) (cI cB cZ cG cS : ClassId)   (r0 : Int64) (p1 : Int64) (p2 : Int64) (hf : fX4_greatestDivisor p1 p2  = some r0) : xMl ad l yX4_greatestDivisor wsX4_greatestDivisor ({ frames := 0, cells := 0, slots := 0, locals := 0 } : Room) D (xTY cI cB cZ cG cS) [.long p1, .long p2] [] [] r0 := by
  refine xMl_of (cc := cX4_greatestDivisor) (maxL := 11) (by decide) rfl (Nat.le_of_ble_eq_true rfl) ?_
  intro p e s m args below meth c A Q ls C hX hl hret
  have hx := C.1.1
  have hb := C.1.2.1
  have hl : lv_has ls 11 [(0, .long p1), (2, .long p2)] := hl
  have L9 : ∀ (n : Nat), ∀ (x4 : Int64) (x6 : Int64) (x8 : Int32) (H : Heap) (locs : List Loc) (ls : Array Slot), fX4_greatestDivisor_L9  n x4 x6 x8 = some r0 → xSt A s D [] H locs → lv_has ls 11 [(4, .long x4), (6, .long x6), (8, .int x8)] → W p l e ({ frames := 0, cells := 0, slots := 0, locals := 0 } : Room) s m args below meth c H locs 0 0 Q (F0 m 9 ls []) := by
    intro n
    induction n with
    | zero =>
      intro x4 x6 x8 H locs ls hf
      rw [fX4_greatestDivisor_L9] at hf
      cases hf
    | succ n ih =>
      intro x4 x6 x8 H locs ls hf hX hl
      rw [fX4_greatestDivisor_L9] at hf
      refine lv_iload (pc := 9) hx hb dX4_greatestDivisor_9 (lv_at hl 2 rfl) ?_
      refine lv_sipush (pc := 11) (v := 200) hx hb dX4_greatestDivisor_11 (by decide) ?_
      refine lv_icmp_ge (pc := 14) (tgt := 45) hx hb dX4_greatestDivisor_14 (by decide) (fun c1 => ?_) (fun c1 => ?_)
      · replace hf := ite_t c1 hf
        refine lv_lload (pc := 45) hx hb dX4_greatestDivisor_45 (lv_at hl 0 rfl) ?_
        obtain ⟨rfl⟩ := re1 hf
        exact hret _ _ _ _ _ rfl hX dX4_greatestDivisor_47
      · replace hf := ite_f c1 hf
        refine lv_lload (pc := 17) hx hb dX4_greatestDivisor_17 (lv_at hl 1 rfl) ?_
        refine lv_lconst (pc := 19) (v := 0) hx hb dX4_greatestDivisor_19 (by decide) ?_
        refine W.lcmp (pc := 20) hx hb dX4_greatestDivisor_20 ?_
        refine lv_if_eq (pc := 21) (tgt := 45) hx hb dX4_greatestDivisor_21 (by decide) (fun c2 => ?_) (fun c2 => ?_)
        · replace hf := ite_t c2 hf
          refine lv_lload (pc := 45) hx hb dX4_greatestDivisor_45 (lv_at hl 0 rfl) ?_
          obtain ⟨rfl⟩ := re1 hf
          exact hret _ _ _ _ _ rfl hX dX4_greatestDivisor_47
        · replace hf := ite_f c2 hf
          refine lv_lload (pc := 24) hx hb dX4_greatestDivisor_24 (lv_at hl 0 rfl) ?_
          refine lv_lload (pc := 26) hx hb dX4_greatestDivisor_26 (lv_at hl 1 rfl) ?_
          replace hf := chk_adv hf
          have i3 := hf.1
          replace hf := hf.2
          refine lv_lrem (pc := 28) hx hb dX4_greatestDivisor_28 i3 ?_
          refine lv_topl (fun v4 ev4 => ?_)
          replace hf := bnd_use ev4 hf
          refine lv_lstore (pc := 29) (lv' := [(9, .long v4), (4, .long x4), (6, .long x6), (8, .int x8)]) hx hb dX4_greatestDivisor_29 hl (by decide) rfl (fun ls hl => ?_)
          refine lv_lload (pc := 31) hx hb dX4_greatestDivisor_31 (lv_at hl 2 rfl) ?_
          refine lv_lstore (pc := 33) (lv' := [(4, .long x6), (9, .long v4), (6, .long x6), (8, .int x8)]) hx hb dX4_greatestDivisor_33 hl (by decide) rfl (fun ls hl => ?_)
          refine lv_lload (pc := 35) hx hb dX4_greatestDivisor_35 (lv_at hl 1 rfl) ?_
          refine lv_lstore (pc := 37) (lv' := [(6, .long v4), (4, .long x6), (9, .long v4), (8, .int x8)]) hx hb dX4_greatestDivisor_37 hl (by decide) rfl (fun ls hl => ?_)
          obtain ⟨v5, ev5⟩ : ∃ y : Int32, y = (x8 + (1 : Int32)) := ⟨_, rfl⟩
          replace hf := bnd_use ev5 hf
          refine lv_iinc (pc := 39) (v := v5) (lv' := [(8, .int v5), (6, .long v4), (4, .long x6), (9, .long v4)]) hx hb dX4_greatestDivisor_39 hl (k := 3) rfl (by rw [ev5]; rfl) (by decide) rfl (fun ls hl => ?_)
          refine lv_goto (pc := 42) (tgt := 9) hx hb dX4_greatestDivisor_42 (by decide) ?_
          exact ih x6 v4 v5 _ _ _ hf hX (lv_sub hl [2, 1, 0] rfl)
  unfold fX4_greatestDivisor at hf
  refine lv_lload_n (pc := 0) hx hb dX4_greatestDivisor_0 rfl (lv_at hl 0 rfl) ?_
  refine lv_lstore (pc := 1) (lv' := [(4, .long p1), (0, .long p1), (2, .long p2)]) hx hb dX4_greatestDivisor_1 hl (by decide) rfl (fun ls hl => ?_)
  refine lv_lload_n (pc := 3) hx hb dX4_greatestDivisor_3 rfl (lv_at hl 2 rfl) ?_
  refine lv_lstore (pc := 4) (lv' := [(6, .long p2), (4, .long p1), (0, .long p1), (2, .long p2)]) hx hb dX4_greatestDivisor_4 hl (by decide) rfl (fun ls hl => ?_)
  refine lv_iconst (pc := 6) (v := 0) hx hb dX4_greatestDivisor_6 (by decide) ?_
  refine lv_istore (pc := 7) (lv' := [(8, .int (0 : Int32)), (6, .long p2), (4, .long p1), (0, .long p1), (2, .long p2)]) hx hb dX4_greatestDivisor_7 hl (by decide) rfl (fun ls hl => ?_)
  exact L9  xF p1 p2 (0 : Int32) _ _ _ hf hX (lv_sub hl [2, 1, 0] rfl)
set_option maxHeartbeats 4000000 in
set_option maxRecDepth 100000 in
theorem kX4_ofFraction (ad : xAd) (l : Launch) (D : va_G) (cI cB cZ cG cS : ClassId)   (r0 : Int64) (p1 : Int64) (p2 : Int64) (p3 : Int32) (hf : fX4_ofFraction p1 p2 p3  = some r0) : xMl ad l yX4_ofFraction wsX4_ofFraction ({ frames := 1, cells := 0, slots := 0, locals := 30 } : Room) D (xTY cI cB cZ cG cS) [.long p1, .long p2, .int p3] [] [] r0 := by
  refine xMl_of (cc := cX4_ofFraction) (maxL := 7) (by decide) rfl (Nat.le_of_ble_eq_true rfl) ?_
  intro p e s m args below meth c A Q ls C hX hl hret
  have hx := C.1.1
  have hb := C.1.2.1
  have hl : lv_has ls 7 [(0, .long p1), (2, .long p2), (4, .int p3)] := hl
  unfold fX4_ofFraction at hf
  refine lv_lload_n (pc := 0) hx hb dX4_ofFraction_0 rfl (lv_at hl 0 rfl) ?_
  refine lv_lload_n (pc := 1) hx hb dX4_ofFraction_1 rfl (lv_at hl 1 rfl) ?_
  obtain ⟨r1, g2, hf⟩ := cl1_adv hf
  refine x_callSl (pc := 2) (rest := []) C hX (kX4_greatestDivisor ad l D cI cB cZ cG cS r1 p1 p2 g2) (va_cwS 2 C.1.2.2.2.2 gX4_ofFraction_X4_greatestDivisor rfl rfl rfl (by decide +kernel) ⟨Nat.le_of_ble_eq_true rfl, Nat.le_of_ble_eq_true rfl⟩) hl.1 rfl rfl (Nat.le_of_ble_eq_true rfl) dX4_ofFraction_2 (fun H locs hX => ?_)
  refine lv_lstore (pc := 5) (lv' := [(5, .long r1), (0, .long p1), (2, .long p2), (4, .int p3)]) hx hb dX4_ofFraction_5 hl (by decide) rfl (fun ls hl => ?_)
  refine lv_lload (pc := 7) hx hb dX4_ofFraction_7 (lv_at hl 0 rfl) ?_
  refine lv_lconst (pc := 9) (v := 0) hx hb dX4_ofFraction_9 (by decide) ?_
  refine W.lcmp (pc := 10) hx hb dX4_ofFraction_10 ?_
  refine lv_if_ne (pc := 11) (tgt := 16) hx hb dX4_ofFraction_11 (by decide) (fun c3 => ?_) (fun c3 => ?_)
  · replace hf := ite_f c3 hf
    refine lv_iload (pc := 16) hx hb dX4_ofFraction_16 (lv_at hl 3 rfl) ?_
    refine lv_if_ne (pc := 18) (tgt := 28) hx hb dX4_ofFraction_18 (by decide) (fun c4 => ?_) (fun c4 => ?_)
    · replace hf := ite_f c4 hf
      refine lv_lload_n (pc := 28) hx hb dX4_ofFraction_28 rfl (lv_at hl 2 rfl) ?_
      refine lv_lload (pc := 29) hx hb dX4_ofFraction_29 (lv_at hl 0 rfl) ?_
      replace hf := chk_adv hf
      have i5 := hf.1
      replace hf := hf.2
      refine lv_ldiv (pc := 31) hx hb dX4_ofFraction_31 i5 ?_
      obtain ⟨rfl⟩ := re1 hf
      exact hret _ _ _ _ _ rfl hX dX4_ofFraction_32
    · replace hf := ite_t c4 hf
      refine lv_lload_n (pc := 21) hx hb dX4_ofFraction_21 rfl (lv_at hl 1 rfl) ?_
      refine lv_lload (pc := 22) hx hb dX4_ofFraction_22 (lv_at hl 0 rfl) ?_
      replace hf := chk_adv hf
      have i6 := hf.1
      replace hf := hf.2
      refine lv_ldiv (pc := 24) hx hb dX4_ofFraction_24 i6 ?_
      refine lv_goto (pc := 25) (tgt := 32) hx hb dX4_ofFraction_25 (by decide) ?_
      obtain ⟨rfl⟩ := re1 hf
      exact hret _ _ _ _ _ rfl hX dX4_ofFraction_32
  · replace hf := ite_t c3 hf
    refine lv_lconst (pc := 14) (v := 0) hx hb dX4_ofFraction_14 (by decide) ?_
    obtain ⟨rfl⟩ := re1 hf
    exact hret _ _ _ _ _ rfl hX dX4_ofFraction_15
set_option maxHeartbeats 4000000 in
set_option maxRecDepth 100000 in
theorem kX4_lookIndex (ad : xAd) (l : Launch) (D : va_G) (cI cB cZ cG cS : ClassId)   (r0 : Int32) (p1 : Int32) (p2 : Int32) (hf : fX4_lookIndex p1 p2  = some r0) : xMi ad l yX4_lookIndex wsX4_lookIndex ({ frames := 0, cells := 0, slots := 0, locals := 0 } : Room) D (xTY cI cB cZ cG cS) [.int p1, .int p2] [] [] r0 := by
  refine xMi_of (cc := cX4_lookIndex) (maxL := 2) (ty := .int) (by decide) rfl (Nat.le_of_ble_eq_true rfl) ?_
  intro p e s m args below meth c A Q ls C hX hl hret
  have hx := C.1.1
  have hb := C.1.2.1
  have hl : lv_has ls 2 [(0, .int p1), (1, .int p2)] := hl
  unfold fX4_lookIndex at hf
  refine lv_iload_n (pc := 0) hx hb dX4_lookIndex_0 rfl (lv_at hl 0 rfl) ?_
  refine lv_bipush (pc := 1) (v := 41) hx hb dX4_lookIndex_1 (by decide) ?_
  refine lv_imul (pc := 3) hx hb dX4_lookIndex_3 ?_
  refine lv_iload_n (pc := 4) hx hb dX4_lookIndex_4 rfl (lv_at hl 1 rfl) ?_
  refine lv_iadd (pc := 5) hx hb dX4_lookIndex_5 ?_
  obtain ⟨rfl⟩ := re1 hf
  exact hret _ _ _ _ _ rfl rfl hX dX4_lookIndex_6
set_option maxHeartbeats 4000000 in
set_option maxRecDepth 100000 in
theorem kX4_isSheet (ad : xAd) (l : Launch) (D : va_G) (cI cB cZ cG cS : ClassId)   (r0 : Int32) (p1 : Int32) (hf : fX4_isSheet p1  = some r0) : xMi ad l yX4_isSheet wsX4_isSheet ({ frames := 1, cells := 0, slots := 0, locals := 22 } : Room) D (xTY cI cB cZ cG cS) [.int p1] [] [] r0 := by
  refine xMi_of (cc := cX4_isSheet) (maxL := 1) (ty := .boolean) (by decide) rfl (Nat.le_of_ble_eq_true rfl) ?_
  intro p e s m args below meth c A Q ls C hX hl hret
  have hx := C.1.1
  have hb := C.1.2.1
  have hl : lv_has ls 1 [(0, .int p1)] := hl
  unfold fX4_isSheet at hf
  refine lv_iload_n (pc := 0) hx hb dX4_isSheet_0 rfl (lv_at hl 0 rfl) ?_
  refine lv_iconst (pc := 1) (v := 0) hx hb dX4_isSheet_1 (by decide) ?_
  refine lv_iconst (pc := 2) (v := 3) hx hb dX4_isSheet_2 (by decide) ?_
  obtain ⟨r1, g2, hf⟩ := cl1_adv hf
  refine x_callSi (pc := 3) (rest := []) C hX (kX4_within ad l D cI cB cZ cG cS r1 p1 (0 : Int32) (3 : Int32) g2) (va_cwS 3 C.1.2.2.2.2 gX4_isSheet_X4_within rfl rfl rfl (by decide +kernel) ⟨Nat.le_of_ble_eq_true rfl, Nat.le_of_ble_eq_true rfl⟩) hl.1 rfl rfl (Nat.le_of_ble_eq_true rfl) dX4_isSheet_3 (fun H locs hX => ?_)
  replace hf := chk_adv hf
  have i3 := hf.1
  replace hf := hf.2
  obtain ⟨rfl⟩ := re1 hf
  exact hret _ _ _ _ _ rfl (xbz_nar i3) hX dX4_isSheet_6
