theorem mmX1_renew_1 : Cond.fieldLink RX1 15 "SlackArms$Sheet" "lane" "I" ∈ wsX1_renew := List.mem_of_getElem? (i := 1) rfl
theorem miX1_renew_X1 : ∀ w ∈ u_ws RX1 TX1 3, w ∈ wsX1_renew := fun w h => List.mem_cons_of_mem _ (List.mem_append_right _ h)
theorem mmX1_renew_2 : Cond.fieldLink RX1 19 "SlackArms$Sheet" "size" "I" ∈ wsX1_renew := List.mem_of_getElem? (i := 2) rfl
theorem mmX1_renew_3 : Cond.fieldLink RX1 9 "SlackArms$Sheet" "cells" "[I" ∈ wsX1_renew := List.mem_of_getElem? (i := 3) rfl
set_option maxHeartbeats 4000000 in
set_option maxRecDepth 100000 in
theorem kX1_renew (ad : xAd) (l : Launch) (D : va_G) (cI cB cZ cG cS : ClassId) (h0 h_cells : Nat) (lane : Int32) (size : Int32) (cells : (Nat → Int32)) (o_lane' : Int32) (o_size' : Int32) (o_cells' : (Nat → Int32)) (p1 : Int32) (p2 : Int32) (hf : fX1_renew p1 p2 lane size cells = some (o_lane', o_size', o_cells')) : xMv ad l yX1_renew wsX1_renew ({ frames := 0, cells := 0, slots := 0, locals := 0 } : Room) D (xTY cI cB cZ cG cS) [.ref h0, .int p1, .int p2] [(h0, .inr (1, [.ref h_cells, .int lane, .int size])), (h_cells, .inl (cI, 40, .inl cells))] [(h0, .inr (1, [.ref h_cells, .int o_lane', .int o_size'])), (h_cells, .inl (cI, 40, .inl o_cells'))] := by
  refine xMv_of (cc := cX1_renew) (maxL := 4) (by decide) rfl (Nat.le_of_ble_eq_true rfl) ?_
  intro p e s m args below meth c A Q ls C hX hl hret
  have hx := C.1.1
  have hb := C.1.2.1
  have hl : lv_has ls 4 [(0, .ref h0), (1, .int p1), (2, .int p2)] := hl
  have L12 : ∀ (n : Nat), ∀ (x2 : Int32) (x3 : Int32) (lane : Int32) (size : Int32) (cells : (Nat → Int32)) (H : Heap) (locs : List Loc) (ls : Array Slot), fX1_renew_L12  n x2 x3 lane size cells = some (o_lane', o_size', o_cells') → xSt A s D [(h0, .inr (1, [.ref h_cells, .int lane, .int size])), (h_cells, .inl (cI, 40, .inl cells))] H locs → lv_has ls 4 [(0, .ref h0), (2, .int x2), (3, .int x3)] → W p l e ({ frames := 0, cells := 0, slots := 0, locals := 0 } : Room) s m args below meth c H locs 0 0 Q (F0 m 12 ls []) := by
    intro n
    induction n with
    | zero =>
      intro x2 x3 lane size cells H locs ls hf
      rw [fX1_renew_L12] at hf
      cases hf
    | succ n ih =>
      intro x2 x3 lane size cells H locs ls hf hX hl
      rw [fX1_renew_L12] at hf
      refine lv_iload_n (pc := 12) hx hb dX1_renew_12 rfl (lv_at hl 2 rfl) ?_
      refine lv_iload_n (pc := 13) hx hb dX1_renew_13 rfl (lv_at hl 1 rfl) ?_
      refine lv_icmp_ge (pc := 14) (tgt := 30) hx hb dX1_renew_14 (by decide) (fun c1 => ?_) (fun c1 => ?_)
      · replace hf := ite_t c1 hf
        obtain ⟨rfl, rfl, rfl⟩ := re3 hf
        exact hret _ _ _ _ hX dX1_renew_30
      · replace hf := ite_f c1 hf
        refine lv_aload_n (pc := 17) hx hb dX1_renew_17 rfl (lv_at hl 0 rfl) ?_
        refine x_getf (pc := 18) (Cn := RX1) (T := TX1) (N := 3) C hX 0 rfl rfl miX1_renew_X1 0 (by decide) mmX1_renew_3 rfl dX1_renew_18 ?_
        refine lv_iload_n (pc := 21) hx hb dX1_renew_21 rfl (lv_at hl 2 rfl) ?_
        refine lv_iconst (pc := 22) (v := 0) hx hb dX1_renew_22 (by decide) ?_
        replace hf := chk_adv hf
        have i2 := hf.1
        replace hf := hf.2
        obtain ⟨f3, ef3⟩ : ∃ y : Nat → Int32, y = (upd cells (x3).toNatClampNeg (0 : Int32)) := ⟨_, rfl⟩
        replace hf := bnd_use ef3 hf
        refine x_iast (pc := 23) C hX 1 0 rfl rfl i2 [(h0, .inr (1, [.ref h_cells, .int lane, .int size])), (h_cells, .inl (cI, 40, .inl f3))] (by subst ef3; rfl) dX1_renew_23 (fun H locs hX => ?_)
        obtain ⟨v4, ev4⟩ : ∃ y : Int32, y = (x3 + (1 : Int32)) := ⟨_, rfl⟩
        replace hf := bnd_use ev4 hf
        refine lv_iinc (pc := 24) (v := v4) (lv' := [(3, .int v4), (0, .ref h0), (2, .int x2)]) hx hb dX1_renew_24 hl (k := 2) rfl (by rw [ev4]; rfl) (by decide) rfl (fun ls hl => ?_)
        refine lv_goto (pc := 27) (tgt := 12) hx hb dX1_renew_27 (by decide) ?_
        exact ih x2 v4 lane size f3 _ _ _ hf hX (lv_sub hl [1, 2, 0] rfl)
  unfold fX1_renew at hf
  refine lv_aload_n (pc := 0) hx hb dX1_renew_0 rfl (lv_at hl 0 rfl) ?_
  refine lv_iload_n (pc := 1) hx hb dX1_renew_1 rfl (lv_at hl 1 rfl) ?_
  refine x_putf (pc := 2) (Cn := RX1) (T := TX1) (N := 3) C hX tyX1 tyX1_ok nmX1 0 rfl rfl miX1_renew_X1 1 (by decide) mmX1_renew_1 rfl rfl (Nat.le_of_ble_eq_true rfl) [(h0, .inr (1, [.ref h_cells, .int p1, .int size])), (h_cells, .inl (cI, 40, .inl cells))] rfl dX1_renew_2 (fun H locs hX => ?_)
  refine lv_aload_n (pc := 5) hx hb dX1_renew_5 rfl (lv_at hl 0 rfl) ?_
  refine lv_iload_n (pc := 6) hx hb dX1_renew_6 rfl (lv_at hl 2 rfl) ?_
  refine x_putf (pc := 7) (Cn := RX1) (T := TX1) (N := 3) C hX tyX1 tyX1_ok nmX1 0 rfl rfl miX1_renew_X1 2 (by decide) mmX1_renew_2 rfl rfl (Nat.le_of_ble_eq_true rfl) [(h0, .inr (1, [.ref h_cells, .int p1, .int p2])), (h_cells, .inl (cI, 40, .inl cells))] rfl dX1_renew_7 (fun H locs hX => ?_)
  refine lv_iconst (pc := 10) (v := 0) hx hb dX1_renew_10 (by decide) ?_
  refine lv_istore_n (pc := 11) (lv' := [(3, .int (0 : Int32)), (0, .ref h0), (1, .int p1), (2, .int p2)]) hx hb dX1_renew_11 rfl hl (by decide) rfl (fun ls hl => ?_)
  exact L12  xF p2 (0 : Int32) p1 p2 cells _ _ _ hf hX (lv_sub hl [1, 3, 0] rfl)
theorem mmX1_faultAt_1 : Cond.fieldLink RX1 19 "SlackArms$Sheet" "size" "I" ∈ wsX1_faultAt := List.mem_of_getElem? (i := 1) rfl
theorem miX1_faultAt_X1 : ∀ w ∈ u_ws RX1 TX1 3, w ∈ wsX1_faultAt := fun w h => List.mem_cons_of_mem _ (List.mem_append_right _ h)
theorem mmX1_faultAt_3 : Cond.initialized RX4 ∈ wsX1_faultAt := List.mem_of_getElem? (i := 3) rfl
theorem mmX1_faultAt_2 : Cond.static yX4_within ∈ wsX1_faultAt := List.mem_of_getElem? (i := 2) rfl
set_option maxHeartbeats 4000000 in
set_option maxRecDepth 100000 in
theorem kX1_faultAt (ad : xAd) (l : Launch) (D : va_G) (cI cB cZ cG cS : ClassId) (h0 h_cells : Nat) (lane : Int32) (size : Int32) (cells : (Nat → Int32)) (r0 : Int32) (p1 : Int32) (hf : fX1_faultAt p1 size = some r0) : xMi ad l yX1_faultAt wsX1_faultAt ({ frames := 1, cells := 0, slots := 0, locals := 22 } : Room) D (xTY cI cB cZ cG cS) [.ref h0, .int p1] [(h0, .inr (1, [.ref h_cells, .int lane, .int size])), (h_cells, .inl (cI, 40, .inl cells))] [(h0, .inr (1, [.ref h_cells, .int lane, .int size])), (h_cells, .inl (cI, 40, .inl cells))] r0 := by
  refine xMi_of (cc := cX1_faultAt) (maxL := 2) (ty := .int) (by decide) rfl (Nat.le_of_ble_eq_true rfl) ?_
  intro p e s m args below meth c A Q ls C hX hl hret
  have hx := C.1.1
  have hb := C.1.2.1
  have hl : lv_has ls 2 [(0, .ref h0), (1, .int p1)] := hl
  unfold fX1_faultAt at hf
  refine lv_aload_n (pc := 0) hx hb dX1_faultAt_0 rfl (lv_at hl 0 rfl) ?_
  refine x_getf (pc := 1) (Cn := RX1) (T := TX1) (N := 3) C hX 0 rfl rfl miX1_faultAt_X1 2 (by decide) mmX1_faultAt_1 rfl dX1_faultAt_1 ?_
  refine lv_iconst (pc := 4) (v := -1) hx hb dX1_faultAt_4 (by decide) ?_
  refine lv_icmp_ne (pc := 5) (tgt := 10) hx hb dX1_faultAt_5 (by decide) (fun c1 => ?_) (fun c1 => ?_)
  · replace hf := ite_f c1 hf
    refine lv_iload_n (pc := 10) hx hb dX1_faultAt_10 rfl (lv_at hl 1 rfl) ?_
    refine lv_iconst (pc := 11) (v := 0) hx hb dX1_faultAt_11 (by decide) ?_
    refine lv_aload_n (pc := 12) hx hb dX1_faultAt_12 rfl (lv_at hl 0 rfl) ?_
    refine x_getf (pc := 13) (Cn := RX1) (T := TX1) (N := 3) C hX 0 rfl rfl miX1_faultAt_X1 2 (by decide) mmX1_faultAt_1 rfl dX1_faultAt_13 ?_
    refine lv_iconst (pc := 16) (v := 1) hx hb dX1_faultAt_16 (by decide) ?_
    refine lv_isub (pc := 17) hx hb dX1_faultAt_17 ?_
    obtain ⟨r2, g3, hf⟩ := cl1_adv hf
    refine x_callNi (pc := 18) (rest := []) C hX (kX4_within ad l D cI cB cZ cG cS r2 p1 (0 : Int32) (size - (1 : Int32)) g3) ⟨va_cnB 3 C.1.2.2.2.2 gX1_faultAt_X4_within_n22 rfl rfl rfl C.2.2.2.1.1 (C.1.2.2.2.2 _ mmX1_faultAt_3) (by decide +kernel) ⟨Nat.le_of_ble_eq_true rfl, Nat.le_of_ble_eq_true rfl⟩, C.1.2.2.2.2 _ mmX1_faultAt_2, trivial⟩ hl.1 rfl rfl (Nat.le_of_ble_eq_true rfl) dX1_faultAt_18 (fun H locs hX => ?_)
    refine lv_if_eq (pc := 21) (tgt := 28) hx hb dX1_faultAt_21 (by decide) (fun c4 => ?_) (fun c4 => ?_)
    · replace hf := ite_t c4 hf
      refine lv_iconst (pc := 28) (v := 2) hx hb dX1_faultAt_28 (by decide) ?_
      obtain ⟨rfl⟩ := re1 hf
      exact hret _ _ _ _ _ rfl rfl hX dX1_faultAt_29
    · replace hf := ite_f c4 hf
      refine lv_iconst (pc := 24) (v := 0) hx hb dX1_faultAt_24 (by decide) ?_
      refine lv_goto (pc := 25) (tgt := 29) hx hb dX1_faultAt_25 (by decide) ?_
      obtain ⟨rfl⟩ := re1 hf
      exact hret _ _ _ _ _ rfl rfl hX dX1_faultAt_29
  · replace hf := ite_t c1 hf
    refine lv_iconst (pc := 8) (v := 1) hx hb dX1_faultAt_8 (by decide) ?_
    obtain ⟨rfl⟩ := re1 hf
    exact hret _ _ _ _ _ rfl rfl hX dX1_faultAt_9
theorem mmX1_faultTakenAs_1 : Cond.fieldLink RX1 19 "SlackArms$Sheet" "size" "I" ∈ wsX1_faultTakenAs := List.mem_of_getElem? (i := 1) rfl
theorem miX1_faultTakenAs_X1 : ∀ w ∈ u_ws RX1 TX1 3, w ∈ wsX1_faultTakenAs := fun w h => List.mem_cons_of_mem _ (List.mem_append_right _ h)
theorem mmX1_faultTakenAs_2 : Cond.fieldLink RX1 15 "SlackArms$Sheet" "lane" "I" ∈ wsX1_faultTakenAs := List.mem_of_getElem? (i := 2) rfl
set_option maxHeartbeats 4000000 in
set_option maxRecDepth 100000 in
theorem kX1_faultTakenAs (ad : xAd) (l : Launch) (D : va_G) (cI cB cZ cG cS : ClassId) (h0 h_cells : Nat) (lane : Int32) (size : Int32) (cells : (Nat → Int32)) (r0 : Int32) (p1 : Int32) (p2 : Int32) (hf : fX1_faultTakenAs p1 p2 lane size = some r0) : xMi ad l yX1_faultTakenAs wsX1_faultTakenAs ({ frames := 2, cells := 0, slots := 0, locals := 43 } : Room) D (xTY cI cB cZ cG cS) [.ref h0, .int p1, .int p2] [(h0, .inr (1, [.ref h_cells, .int lane, .int size])), (h_cells, .inl (cI, 40, .inl cells))] [(h0, .inr (1, [.ref h_cells, .int lane, .int size])), (h_cells, .inl (cI, 40, .inl cells))] r0 := by
  refine xMi_of (cc := cX1_faultTakenAs) (maxL := 3) (ty := .int) (by decide) rfl (Nat.le_of_ble_eq_true rfl) ?_
  intro p e s m args below meth c A Q ls C hX hl hret
  have hx := C.1.1
  have hb := C.1.2.1
  have hl : lv_has ls 3 [(0, .ref h0), (1, .int p1), (2, .int p2)] := hl
  have L20 : ∀ (x2 : Int32) (H : Heap) (locs : List Loc) (ls : Array Slot), fX1_faultTakenAs_L20 lane size x2 = some r0 → xSt A s D [(h0, .inr (1, [.ref h_cells, .int lane, .int size])), (h_cells, .inl (cI, 40, .inl cells))] H locs → lv_has ls 3 [(0, .ref h0), (2, .int x2)] → W p l e ({ frames := 2, cells := 0, slots := 0, locals := 43 } : Room) s m args below meth c H locs 0 0 Q (F0 m 20 ls []) := by
    intro  x2 H locs ls hf hX hl
    unfold fX1_faultTakenAs_L20 at hf
    refine lv_aload_n (pc := 20) hx hb dX1_faultTakenAs_20 rfl (lv_at hl 0 rfl) ?_
    refine lv_iload_n (pc := 21) hx hb dX1_faultTakenAs_21 rfl (lv_at hl 1 rfl) ?_
    obtain ⟨r2, g3, hf⟩ := cl1_adv hf
    refine x_callVi (pc := 22) (rest := []) (w2 := [(h0, .inr (1, [.ref h_cells, .int lane, .int size])), (h_cells, .inl (cI, 40, .inl cells))]) C hX (kX1_faultAt ad l D cI cB cZ cG cS h0 h_cells lane size cells r2 x2 g3) (cwV 1 C.1.2.2.2.2 gX1_faultTakenAs_X1_faultAt rfl rfl rfl (by decide +kernel) ⟨Nat.le_of_ble_eq_true rfl, Nat.le_of_ble_eq_true rfl⟩) [0, 1] [] [0, 1] rfl rfl rfl rfl (by decide) rfl rfl 0 rfl rfl rfl hl.1 rfl rfl (Nat.le_of_ble_eq_true rfl) dX1_faultTakenAs_22 (fun H locs hX => ?_)
    obtain ⟨rfl⟩ := re1 hf
    exact hret _ _ _ _ _ rfl rfl hX dX1_faultTakenAs_25
  unfold fX1_faultTakenAs at hf
  refine lv_aload_n (pc := 0) hx hb dX1_faultTakenAs_0 rfl (lv_at hl 0 rfl) ?_
  refine x_getf (pc := 1) (Cn := RX1) (T := TX1) (N := 3) C hX 0 rfl rfl miX1_faultTakenAs_X1 2 (by decide) mmX1_faultTakenAs_1 rfl dX1_faultTakenAs_1 ?_
  refine lv_iconst (pc := 4) (v := -1) hx hb dX1_faultTakenAs_4 (by decide) ?_
  refine lv_icmp_eq (pc := 5) (tgt := 20) hx hb dX1_faultTakenAs_5 (by decide) (fun c1 => ?_) (fun c1 => ?_)
  · replace hf := ite_t c1 hf
    exact L20  p2 _ _ _ hf hX (lv_sub hl [0, 2] rfl)
  · replace hf := ite_f c1 hf
    refine lv_aload_n (pc := 8) hx hb dX1_faultTakenAs_8 rfl (lv_at hl 0 rfl) ?_
    refine x_getf (pc := 9) (Cn := RX1) (T := TX1) (N := 3) C hX 0 rfl rfl miX1_faultTakenAs_X1 1 (by decide) mmX1_faultTakenAs_2 rfl dX1_faultTakenAs_9 ?_
    refine lv_iload_n (pc := 12) hx hb dX1_faultTakenAs_12 rfl (lv_at hl 1 rfl) ?_
    refine lv_icmp_eq (pc := 13) (tgt := 20) hx hb dX1_faultTakenAs_13 (by decide) (fun c4 => ?_) (fun c4 => ?_)
    · replace hf := ite_t c4 hf
      exact L20  p2 _ _ _ hf hX (lv_sub hl [0, 2] rfl)
    · replace hf := ite_f c4 hf
      refine lv_iconst (pc := 16) (v := 3) hx hb dX1_faultTakenAs_16 (by decide) ?_
      refine lv_goto (pc := 17) (tgt := 25) hx hb dX1_faultTakenAs_17 (by decide) ?_
      obtain ⟨rfl⟩ := re1 hf
      exact hret _ _ _ _ _ rfl rfl hX dX1_faultTakenAs_25
theorem mmX1_put_1 : Cond.fieldLink RX1 15 "SlackArms$Sheet" "lane" "I" ∈ wsX1_put := List.mem_of_getElem? (i := 1) rfl
theorem miX1_put_X1 : ∀ w ∈ u_ws RX1 TX1 3, w ∈ wsX1_put := fun w h => List.mem_cons_of_mem _ (List.mem_append_right _ h)
theorem mmX1_put_2 : Cond.fieldLink RX1 9 "SlackArms$Sheet" "cells" "[I" ∈ wsX1_put := List.mem_of_getElem? (i := 2) rfl
set_option maxHeartbeats 4000000 in
set_option maxRecDepth 100000 in
theorem kX1_put (ad : xAd) (l : Launch) (D : va_G) (cI cB cZ cG cS : ClassId) (h0 h_cells : Nat) (lane : Int32) (size : Int32) (cells : (Nat → Int32)) (o_cells' : (Nat → Int32)) (p1 : Int32) (p2 : Int32) (hf : fX1_put p1 p2 lane cells = some o_cells') : xMv ad l yX1_put wsX1_put ({ frames := 0, cells := 0, slots := 0, locals := 0 } : Room) D (xTY cI cB cZ cG cS) [.ref h0, .int p1, .int p2] [(h0, .inr (1, [.ref h_cells, .int lane, .int size])), (h_cells, .inl (cI, 40, .inl cells))] [(h0, .inr (1, [.ref h_cells, .int lane, .int size])), (h_cells, .inl (cI, 40, .inl o_cells'))] := by
  refine xMv_of (cc := cX1_put) (maxL := 3) (by decide) rfl (Nat.le_of_ble_eq_true rfl) ?_
  intro p e s m args below meth c A Q ls C hX hl hret
  have hx := C.1.1
  have hb := C.1.2.1
  have hl : lv_has ls 3 [(0, .ref h0), (1, .int p1), (2, .int p2)] := hl
  unfold fX1_put at hf
  refine lv_aload_n (pc := 0) hx hb dX1_put_0 rfl (lv_at hl 0 rfl) ?_
  refine x_getf (pc := 1) (Cn := RX1) (T := TX1) (N := 3) C hX 0 rfl rfl miX1_put_X1 1 (by decide) mmX1_put_1 rfl dX1_put_1 ?_
  refine lv_if_ne (pc := 4) (tgt := 18) hx hb dX1_put_4 (by decide) (fun c1 => ?_) (fun c1 => ?_)
  · replace hf := ite_f c1 hf
    refine lv_aload_n (pc := 18) hx hb dX1_put_18 rfl (lv_at hl 0 rfl) ?_
    refine x_getf (pc := 19) (Cn := RX1) (T := TX1) (N := 3) C hX 0 rfl rfl miX1_put_X1 1 (by decide) mmX1_put_1 rfl dX1_put_19 ?_
    refine lv_iconst (pc := 22) (v := 1) hx hb dX1_put_22 (by decide) ?_
    refine lv_icmp_ne (pc := 23) (tgt := 37) hx hb dX1_put_23 (by decide) (fun c2 => ?_) (fun c2 => ?_)
    · replace hf := ite_f c2 hf
      refine lv_aload_n (pc := 37) hx hb dX1_put_37 rfl (lv_at hl 0 rfl) ?_
      refine x_getf (pc := 38) (Cn := RX1) (T := TX1) (N := 3) C hX 0 rfl rfl miX1_put_X1 0 (by decide) mmX1_put_2 rfl dX1_put_38 ?_
      refine lv_iload_n (pc := 41) hx hb dX1_put_41 rfl (lv_at hl 1 rfl) ?_
      refine lv_iload_n (pc := 42) hx hb dX1_put_42 rfl (lv_at hl 2 rfl) ?_
      replace hf := chk_adv hf
      have i3 := hf.1
      replace hf := hf.2
      obtain ⟨f4, ef4⟩ : ∃ y : Nat → Int32, y = (upd cells (p1).toNatClampNeg p2) := ⟨_, rfl⟩
      replace hf := bnd_use ef4 hf
      refine x_iast (pc := 43) C hX 1 0 rfl rfl i3 [(h0, .inr (1, [.ref h_cells, .int lane, .int size])), (h_cells, .inl (cI, 40, .inl f4))] (by subst ef4; rfl) dX1_put_43 (fun H locs hX => ?_)
      obtain ⟨rfl⟩ := re1 hf
      exact hret _ _ _ _ hX dX1_put_44
    · replace hf := ite_t c2 hf
      refine lv_aload_n (pc := 26) hx hb dX1_put_26 rfl (lv_at hl 0 rfl) ?_
      refine x_getf (pc := 27) (Cn := RX1) (T := TX1) (N := 3) C hX 0 rfl rfl miX1_put_X1 0 (by decide) mmX1_put_2 rfl dX1_put_27 ?_
      refine lv_iload_n (pc := 30) hx hb dX1_put_30 rfl (lv_at hl 1 rfl) ?_
      refine lv_iload_n (pc := 31) hx hb dX1_put_31 rfl (lv_at hl 2 rfl) ?_
      refine lv_i2s (pc := 32) (v := ((p2).toInt16.toInt32)) hx hb dX1_put_32 rfl ?_
      refine lv_topi (fun v5 ev5 => ?_)
      replace hf := bnd_use ev5 hf
      replace hf := chk_adv hf
      have i6 := hf.1
      replace hf := hf.2
      obtain ⟨f7, ef7⟩ : ∃ y : Nat → Int32, y = (upd cells (p1).toNatClampNeg v5) := ⟨_, rfl⟩
      replace hf := bnd_use ef7 hf
      refine x_iast (pc := 33) C hX 1 0 rfl rfl i6 [(h0, .inr (1, [.ref h_cells, .int lane, .int size])), (h_cells, .inl (cI, 40, .inl f7))] (by subst ef7; rfl) dX1_put_33 (fun H locs hX => ?_)
      refine lv_goto (pc := 34) (tgt := 44) hx hb dX1_put_34 (by decide) ?_
      obtain ⟨rfl⟩ := re1 hf
      exact hret _ _ _ _ hX dX1_put_44
  · replace hf := ite_t c1 hf
    refine lv_aload_n (pc := 7) hx hb dX1_put_7 rfl (lv_at hl 0 rfl) ?_
    refine x_getf (pc := 8) (Cn := RX1) (T := TX1) (N := 3) C hX 0 rfl rfl miX1_put_X1 0 (by decide) mmX1_put_2 rfl dX1_put_8 ?_
    refine lv_iload_n (pc := 11) hx hb dX1_put_11 rfl (lv_at hl 1 rfl) ?_
    refine lv_iload_n (pc := 12) hx hb dX1_put_12 rfl (lv_at hl 2 rfl) ?_
    refine lv_i2b (pc := 13) (v := ((p2).toInt8.toInt32)) hx hb dX1_put_13 rfl ?_
    refine lv_topi (fun v8 ev8 => ?_)
    replace hf := bnd_use ev8 hf
    replace hf := chk_adv hf
    have i9 := hf.1
    replace hf := hf.2
    obtain ⟨f10, ef10⟩ : ∃ y : Nat → Int32, y = (upd cells (p1).toNatClampNeg v8) := ⟨_, rfl⟩
    replace hf := bnd_use ef10 hf
    refine x_iast (pc := 14) C hX 1 0 rfl rfl i9 [(h0, .inr (1, [.ref h_cells, .int lane, .int size])), (h_cells, .inl (cI, 40, .inl f10))] (by subst ef10; rfl) dX1_put_14 (fun H locs hX => ?_)
    refine lv_goto (pc := 15) (tgt := 44) hx hb dX1_put_15 (by decide) ?_
    obtain ⟨rfl⟩ := re1 hf
    exact hret _ _ _ _ hX dX1_put_44
theorem mmX2_append_1 : Cond.fieldLink RX2 21 "SlackArms$Sights" "size" "I" ∈ wsX2_append := List.mem_of_getElem? (i := 1) rfl
theorem miX2_append_X2 : ∀ w ∈ u_ws RX2 TX2 4, w ∈ wsX2_append := fun w h => List.mem_cons_of_mem _ (List.mem_append_right _ h)
theorem mmX2_append_2 : Cond.fieldLink RX2 9 "SlackArms$Sights" "stepRow" "[I" ∈ wsX2_append := List.mem_of_getElem? (i := 2) rfl
theorem mmX2_append_3 : Cond.fieldLink RX2 15 "SlackArms$Sights" "armRow" "[I" ∈ wsX2_append := List.mem_of_getElem? (i := 3) rfl
theorem mmX2_append_4 : Cond.fieldLink RX2 18 "SlackArms$Sights" "placeRow" "[I" ∈ wsX2_append := List.mem_of_getElem? (i := 4) rfl
set_option maxHeartbeats 4000000 in
set_option maxRecDepth 100000 in
theorem kX2_append (ad : xAd) (l : Launch) (D : va_G) (cI cB cZ cG cS : ClassId) (h0 h_stepRow h_armRow h_placeRow : Nat) (size : Int32) (stepRow : (Nat → Int32)) (armRow : (Nat → Int32)) (placeRow : (Nat → Int32)) (r0 : Int32) (o_size' : Int32) (o_stepRow' : (Nat → Int32)) (o_armRow' : (Nat → Int32)) (o_placeRow' : (Nat → Int32)) (p1 : Int32) (p2 : Int32) (p3 : Int32) (hf : fX2_append p1 p2 p3 size stepRow armRow placeRow = some (r0, o_size', o_stepRow', o_armRow', o_placeRow')) : xMi ad l yX2_append wsX2_append ({ frames := 0, cells := 0, slots := 0, locals := 0 } : Room) D (xTY cI cB cZ cG cS) [.ref h0, .int p1, .int p2, .int p3] [(h0, .inr (2, [.ref h_stepRow, .ref h_armRow, .ref h_placeRow, .int size])), (h_stepRow, .inl (cI, 6, .inl stepRow)), (h_armRow, .inl (cI, 6, .inl armRow)), (h_placeRow, .inl (cI, 6, .inl placeRow))] [(h0, .inr (2, [.ref h_stepRow, .ref h_armRow, .ref h_placeRow, .int o_size'])), (h_stepRow, .inl (cI, 6, .inl o_stepRow')), (h_armRow, .inl (cI, 6, .inl o_armRow')), (h_placeRow, .inl (cI, 6, .inl o_placeRow'))] r0 := by
  refine xMi_of (cc := cX2_append) (maxL := 4) (ty := .boolean) (by decide) rfl (Nat.le_of_ble_eq_true rfl) ?_
  intro p e s m args below meth c A Q ls C hX hl hret
  have hx := C.1.1
  have hb := C.1.2.1
  have hl : lv_has ls 4 [(0, .ref h0), (1, .int p1), (2, .int p2), (3, .int p3)] := hl
  unfold fX2_append at hf
  refine lv_aload_n (pc := 0) hx hb dX2_append_0 rfl (lv_at hl 0 rfl) ?_
  refine x_getf (pc := 1) (Cn := RX2) (T := TX2) (N := 4) C hX 0 rfl rfl miX2_append_X2 3 (by decide) mmX2_append_1 rfl dX2_append_1 ?_
  refine lv_bipush (pc := 4) (v := 6) hx hb dX2_append_4 (by decide) ?_
  refine lv_icmp_lt (pc := 6) (tgt := 11) hx hb dX2_append_6 (by decide) (fun c1 => ?_) (fun c1 => ?_)
  · replace hf := ite_t c1 hf
    refine lv_aload_n (pc := 11) hx hb dX2_append_11 rfl (lv_at hl 0 rfl) ?_
    refine x_getf (pc := 12) (Cn := RX2) (T := TX2) (N := 4) C hX 0 rfl rfl miX2_append_X2 0 (by decide) mmX2_append_2 rfl dX2_append_12 ?_
    refine lv_aload_n (pc := 15) hx hb dX2_append_15 rfl (lv_at hl 0 rfl) ?_
    refine x_getf (pc := 16) (Cn := RX2) (T := TX2) (N := 4) C hX 0 rfl rfl miX2_append_X2 3 (by decide) mmX2_append_1 rfl dX2_append_16 ?_
    refine lv_iload_n (pc := 19) hx hb dX2_append_19 rfl (lv_at hl 1 rfl) ?_
    replace hf := chk_adv hf
    have i2 := hf.1
    replace hf := hf.2
    obtain ⟨f3, ef3⟩ : ∃ y : Nat → Int32, y = (upd stepRow (size).toNatClampNeg p1) := ⟨_, rfl⟩
    replace hf := bnd_use ef3 hf
    refine x_iast (pc := 20) C hX 1 0 rfl rfl i2 [(h0, .inr (2, [.ref h_stepRow, .ref h_armRow, .ref h_placeRow, .int size])), (h_stepRow, .inl (cI, 6, .inl f3)), (h_armRow, .inl (cI, 6, .inl armRow)), (h_placeRow, .inl (cI, 6, .inl placeRow))] (by subst ef3; rfl) dX2_append_20 (fun H locs hX => ?_)
    refine lv_aload_n (pc := 21) hx hb dX2_append_21 rfl (lv_at hl 0 rfl) ?_
    refine x_getf (pc := 22) (Cn := RX2) (T := TX2) (N := 4) C hX 0 rfl rfl miX2_append_X2 1 (by decide) mmX2_append_3 rfl dX2_append_22 ?_
    refine lv_aload_n (pc := 25) hx hb dX2_append_25 rfl (lv_at hl 0 rfl) ?_
    refine x_getf (pc := 26) (Cn := RX2) (T := TX2) (N := 4) C hX 0 rfl rfl miX2_append_X2 3 (by decide) mmX2_append_1 rfl dX2_append_26 ?_
    refine lv_iload_n (pc := 29) hx hb dX2_append_29 rfl (lv_at hl 2 rfl) ?_
    replace hf := chk_adv hf
    have i4 := hf.1
    replace hf := hf.2
    obtain ⟨f5, ef5⟩ : ∃ y : Nat → Int32, y = (upd armRow (size).toNatClampNeg p2) := ⟨_, rfl⟩
    replace hf := bnd_use ef5 hf
    refine x_iast (pc := 30) C hX 2 0 rfl rfl i4 [(h0, .inr (2, [.ref h_stepRow, .ref h_armRow, .ref h_placeRow, .int size])), (h_stepRow, .inl (cI, 6, .inl f3)), (h_armRow, .inl (cI, 6, .inl f5)), (h_placeRow, .inl (cI, 6, .inl placeRow))] (by subst ef5; rfl) dX2_append_30 (fun H locs hX => ?_)
    refine lv_aload_n (pc := 31) hx hb dX2_append_31 rfl (lv_at hl 0 rfl) ?_
    refine x_getf (pc := 32) (Cn := RX2) (T := TX2) (N := 4) C hX 0 rfl rfl miX2_append_X2 2 (by decide) mmX2_append_4 rfl dX2_append_32 ?_
    refine lv_aload_n (pc := 35) hx hb dX2_append_35 rfl (lv_at hl 0 rfl) ?_
    refine x_getf (pc := 36) (Cn := RX2) (T := TX2) (N := 4) C hX 0 rfl rfl miX2_append_X2 3 (by decide) mmX2_append_1 rfl dX2_append_36 ?_
    refine lv_iload_n (pc := 39) hx hb dX2_append_39 rfl (lv_at hl 3 rfl) ?_
    replace hf := chk_adv hf
    have i6 := hf.1
    replace hf := hf.2
    obtain ⟨f7, ef7⟩ : ∃ y : Nat → Int32, y = (upd placeRow (size).toNatClampNeg p3) := ⟨_, rfl⟩
    replace hf := bnd_use ef7 hf
    refine x_iast (pc := 40) C hX 3 0 rfl rfl i6 [(h0, .inr (2, [.ref h_stepRow, .ref h_armRow, .ref h_placeRow, .int size])), (h_stepRow, .inl (cI, 6, .inl f3)), (h_armRow, .inl (cI, 6, .inl f5)), (h_placeRow, .inl (cI, 6, .inl f7))] (by subst ef7; rfl) dX2_append_40 (fun H locs hX => ?_)
    refine lv_aload_n (pc := 41) hx hb dX2_append_41 rfl (lv_at hl 0 rfl) ?_
    refine lv_dup (pc := 42) hx hb dX2_append_42 rfl ?_
    refine x_getf (pc := 43) (Cn := RX2) (T := TX2) (N := 4) C hX 0 rfl rfl miX2_append_X2 3 (by decide) mmX2_append_1 rfl dX2_append_43 ?_
    refine lv_iconst (pc := 46) (v := 1) hx hb dX2_append_46 (by decide) ?_
    refine lv_iadd (pc := 47) hx hb dX2_append_47 ?_
    refine lv_topi (fun v8 ev8 => ?_)
    replace hf := bnd_use ev8 hf
    refine x_putf (pc := 48) (Cn := RX2) (T := TX2) (N := 4) C hX tyX2 tyX2_ok nmX2 0 rfl rfl miX2_append_X2 3 (by decide) mmX2_append_1 rfl rfl (Nat.le_of_ble_eq_true rfl) [(h0, .inr (2, [.ref h_stepRow, .ref h_armRow, .ref h_placeRow, .int v8])), (h_stepRow, .inl (cI, 6, .inl f3)), (h_armRow, .inl (cI, 6, .inl f5)), (h_placeRow, .inl (cI, 6, .inl f7))] rfl dX2_append_48 (fun H locs hX => ?_)
    refine lv_iconst (pc := 51) (v := 1) hx hb dX2_append_51 (by decide) ?_
    obtain ⟨rfl, rfl, rfl, rfl, rfl⟩ := re5 hf
    exact hret _ _ _ _ _ rfl rfl hX dX2_append_52
  · replace hf := ite_f c1 hf
    refine lv_iconst (pc := 9) (v := 0) hx hb dX2_append_9 (by decide) ?_
    obtain ⟨rfl, rfl, rfl, rfl, rfl⟩ := re5 hf
    exact hret _ _ _ _ _ rfl rfl hX dX2_append_10
theorem mmX2_lastStep_1 : Cond.fieldLink RX2 21 "SlackArms$Sights" "size" "I" ∈ wsX2_lastStep := List.mem_of_getElem? (i := 1) rfl
theorem miX2_lastStep_X2 : ∀ w ∈ u_ws RX2 TX2 4, w ∈ wsX2_lastStep := fun w h => List.mem_cons_of_mem _ (List.mem_append_right _ h)
theorem mmX2_lastStep_2 : Cond.fieldLink RX2 9 "SlackArms$Sights" "stepRow" "[I" ∈ wsX2_lastStep := List.mem_of_getElem? (i := 2) rfl
theorem mmX2_lastStep_3 : Cond.methodLink RX2 38 yJ9_max_7cf53 ∈ wsX2_lastStep := List.mem_of_getElem? (i := 3) rfl
theorem mmX2_lastStep_4 : Cond.static yJ9_max_7cf53 ∈ wsX2_lastStep := List.mem_of_getElem? (i := 4) rfl
theorem mmX2_lastStep_5 : Cond.initialized RJ9 ∈ wsX2_lastStep := List.mem_of_getElem? (i := 5) rfl
theorem mmX2_lastStep_6 : Cond.code Lib.Math.max.name Lib.Math.max.code 2 (some .int) ∈ wsX2_lastStep := List.mem_of_getElem? (i := 6) rfl
set_option maxHeartbeats 4000000 in
set_option maxRecDepth 100000 in
theorem kX2_lastStep (ad : xAd) (l : Launch) (D : va_G) (cI cB cZ cG cS : ClassId) (h0 h_stepRow h_armRow h_placeRow : Nat) (size : Int32) (stepRow : (Nat → Int32)) (armRow : (Nat → Int32)) (placeRow : (Nat → Int32)) (r0 : Int32)  (hf : fX2_lastStep  size stepRow = some r0) : xMi ad l yX2_lastStep wsX2_lastStep ({ frames := 1, cells := 0, slots := 0, locals := 21 } : Room) D (xTY cI cB cZ cG cS) [.ref h0] [(h0, .inr (2, [.ref h_stepRow, .ref h_armRow, .ref h_placeRow, .int size])), (h_stepRow, .inl (cI, 6, .inl stepRow)), (h_armRow, .inl (cI, 6, .inl armRow)), (h_placeRow, .inl (cI, 6, .inl placeRow))] [(h0, .inr (2, [.ref h_stepRow, .ref h_armRow, .ref h_placeRow, .int size])), (h_stepRow, .inl (cI, 6, .inl stepRow)), (h_armRow, .inl (cI, 6, .inl armRow)), (h_placeRow, .inl (cI, 6, .inl placeRow))] r0 := by
  refine xMi_of (cc := cX2_lastStep) (maxL := 3) (ty := .int) (by decide) rfl (Nat.le_of_ble_eq_true rfl) ?_
  intro p e s m args below meth c A Q ls C hX hl hret
  have hx := C.1.1
  have hb := C.1.2.1
  have hl : lv_has ls 3 [(0, .ref h0)] := hl
  have L4 : ∀ (n : Nat), ∀ (x1 : Int32) (x2 : Int32) (H : Heap) (locs : List Loc) (ls : Array Slot), fX2_lastStep_L4 size stepRow n x1 x2 = some r0 → xSt A s D [(h0, .inr (2, [.ref h_stepRow, .ref h_armRow, .ref h_placeRow, .int size])), (h_stepRow, .inl (cI, 6, .inl stepRow)), (h_armRow, .inl (cI, 6, .inl armRow)), (h_placeRow, .inl (cI, 6, .inl placeRow))] H locs → lv_has ls 3 [(0, .ref h0), (1, .int x1), (2, .int x2)] → W p l e ({ frames := 1, cells := 0, slots := 0, locals := 21 } : Room) s m args below meth c H locs 0 0 Q (F0 m 4 ls []) := by
    intro n
    induction n with
    | zero =>
      intro x1 x2 H locs ls hf
      rw [fX2_lastStep_L4] at hf
      cases hf
    | succ n ih =>
      intro x1 x2 H locs ls hf hX hl
      rw [fX2_lastStep_L4] at hf
      refine lv_iload_n (pc := 4) hx hb dX2_lastStep_4 rfl (lv_at hl 2 rfl) ?_
      refine lv_aload_n (pc := 5) hx hb dX2_lastStep_5 rfl (lv_at hl 0 rfl) ?_
      refine x_getf (pc := 6) (Cn := RX2) (T := TX2) (N := 4) C hX 0 rfl rfl miX2_lastStep_X2 3 (by decide) mmX2_lastStep_1 rfl dX2_lastStep_6 ?_
      refine lv_icmp_ge (pc := 9) (tgt := 29) hx hb dX2_lastStep_9 (by decide) (fun c1 => ?_) (fun c1 => ?_)
      · replace hf := ite_t c1 hf
        refine lv_iload_n (pc := 29) hx hb dX2_lastStep_29 rfl (lv_at hl 1 rfl) ?_
        obtain ⟨rfl⟩ := re1 hf
        exact hret _ _ _ _ _ rfl rfl hX dX2_lastStep_30
      · replace hf := ite_f c1 hf
        refine lv_iload_n (pc := 12) hx hb dX2_lastStep_12 rfl (lv_at hl 1 rfl) ?_
        refine lv_aload_n (pc := 13) hx hb dX2_lastStep_13 rfl (lv_at hl 0 rfl) ?_
        refine x_getf (pc := 14) (Cn := RX2) (T := TX2) (N := 4) C hX 0 rfl rfl miX2_lastStep_X2 0 (by decide) mmX2_lastStep_2 rfl dX2_lastStep_14 ?_
        refine lv_iload_n (pc := 17) hx hb dX2_lastStep_17 rfl (lv_at hl 2 rfl) ?_
        replace hf := chk_adv hf
        have i2 := hf.1
        replace hf := hf.2
        refine x_iald (pc := 18) C hX 1 0 rfl rfl i2 dX2_lastStep_18 ?_
        refine va_mmax (pc := 19) hx hb (C.1.2.2.1.trans hl.1.symm) C.1.2.2.2.1 (C.1.2.2.2.2 _ mmX2_lastStep_3) (C.1.2.2.2.2 _ mmX2_lastStep_4) (C.1.2.2.2.2 _ mmX2_lastStep_5) (C.1.2.2.2.2 _ mmX2_lastStep_6) (Nat.le_of_ble_eq_true rfl) (Nat.le_of_ble_eq_true rfl) (Nat.zero_le _) (Nat.zero_le _) dX2_lastStep_19 ?_
        refine lv_topi (fun v3 ev3 => ?_)
        replace hf := bnd_use (e := (imax x1 (stepRow (x2).toNatClampNeg))) ev3 hf
        refine lv_istore_n (pc := 22) (lv' := [(1, .int v3), (0, .ref h0), (2, .int x2)]) hx hb dX2_lastStep_22 rfl hl (by decide) rfl (fun ls hl => ?_)
        obtain ⟨v4, ev4⟩ : ∃ y : Int32, y = (x2 + (1 : Int32)) := ⟨_, rfl⟩
        replace hf := bnd_use ev4 hf
        refine lv_iinc (pc := 23) (v := v4) (lv' := [(2, .int v4), (1, .int v3), (0, .ref h0)]) hx hb dX2_lastStep_23 hl (k := 2) rfl (by rw [ev4]; rfl) (by decide) rfl (fun ls hl => ?_)
        refine lv_goto (pc := 26) (tgt := 4) hx hb dX2_lastStep_26 (by decide) ?_
        exact ih v3 v4 _ _ _ hf hX (lv_sub hl [2, 1, 0] rfl)
  unfold fX2_lastStep at hf
  refine lv_iconst (pc := 0) (v := 0) hx hb dX2_lastStep_0 (by decide) ?_
  refine lv_istore_n (pc := 1) (lv' := [(1, .int (0 : Int32)), (0, .ref h0)]) hx hb dX2_lastStep_1 rfl hl (by decide) rfl (fun ls hl => ?_)
  refine lv_iconst (pc := 2) (v := 0) hx hb dX2_lastStep_2 (by decide) ?_
  refine lv_istore_n (pc := 3) (lv' := [(2, .int (0 : Int32)), (1, .int (0 : Int32)), (0, .ref h0)]) hx hb dX2_lastStep_3 rfl hl (by decide) rfl (fun ls hl => ?_)
  exact L4  xF (0 : Int32) (0 : Int32) _ _ _ hf hX (lv_sub hl [2, 1, 0] rfl)
theorem mmX2_agreeBehind_1 : Cond.fieldLink RX2 21 "SlackArms$Sights" "size" "I" ∈ wsX2_agreeBehind := List.mem_of_getElem? (i := 1) rfl
theorem miX2_agreeBehind_X2 : ∀ w ∈ u_ws RX2 TX2 4, w ∈ wsX2_agreeBehind := fun w h => List.mem_cons_of_mem _ (List.mem_append_left _ (List.mem_append_right _ h))
theorem mmX2_agreeBehind_2 : Cond.fieldLink RX2 9 "SlackArms$Sights" "stepRow" "[I" ∈ wsX2_agreeBehind := List.mem_of_getElem? (i := 2) rfl
theorem mmX2_agreeBehind_3 : Cond.fieldLink RX2 15 "SlackArms$Sights" "armRow" "[I" ∈ wsX2_agreeBehind := List.mem_of_getElem? (i := 3) rfl
theorem mmX2_agreeBehind_4 : Cond.fieldLink RX2 44 "SlackArms$Gear" "arms" "I" ∈ wsX2_agreeBehind := List.mem_of_getElem? (i := 4) rfl
theorem miX2_agreeBehind_X0 : ∀ w ∈ u_ws RX0 TX0 12, w ∈ wsX2_agreeBehind := fun w h => List.mem_cons_of_mem _ (List.mem_append_right _ h)
theorem mmX2_agreeBehind_5 : Cond.fieldLink RX2 47 "SlackArms$Gear" "placeRow" "[I" ∈ wsX2_agreeBehind := List.mem_of_getElem? (i := 5) rfl
theorem mmX2_agreeBehind_6 : Cond.fieldLink RX2 18 "SlackArms$Sights" "placeRow" "[I" ∈ wsX2_agreeBehind := List.mem_of_getElem? (i := 6) rfl
set_option maxHeartbeats 4000000 in
set_option maxRecDepth 100000 in
theorem kX2_agreeBehind (ad : xAd) (l : Launch) (D : va_G) (cI cB cZ cG cS : ClassId) (h0 h_stepRow h_armRow h_placeRow h_g h_g_kindRow h_g_slackRow h_g_placeRow h_g_turnRow h_g_wayRow h_g_strokeRow : Nat) (size : Int32) (stepRow : (Nat → Int32)) (armRow : (Nat → Int32)) (placeRow : (Nat → Int32)) (g_arms : Int32) (g_strokes : Int32) (g_hand : Int32) (g_step : Int32) (g_travel : Int32) (g_reversals : Int32) (g_kindRow : (Nat → Int32)) (g_slackRow : (Nat → Int32)) (g_placeRow : (Nat → Int32)) (g_turnRow : (Nat → Int32)) (g_wayRow : (Nat → Int32)) (g_strokeRow : (Nat → Int32)) (r0 : Int32) (p1 : Int32) (hf : fX2_agreeBehind p1 size stepRow armRow placeRow g_arms g_placeRow = some r0) : xMi ad l yX2_agreeBehind wsX2_agreeBehind ({ frames := 0, cells := 0, slots := 0, locals := 0 } : Room) D (xTY cI cB cZ cG cS) [.ref h0, .int p1, .ref h_g] [(h0, .inr (2, [.ref h_stepRow, .ref h_armRow, .ref h_placeRow, .int size])), (h_stepRow, .inl (cI, 6, .inl stepRow)), (h_armRow, .inl (cI, 6, .inl armRow)), (h_placeRow, .inl (cI, 6, .inl placeRow)), (h_g, .inr (0, [.ref h_g_kindRow, .ref h_g_slackRow, .ref h_g_placeRow, .ref h_g_turnRow, .ref h_g_wayRow, .ref h_g_strokeRow, .int g_arms, .int g_strokes, .int g_hand, .int g_step, .int g_travel, .int g_reversals])), (h_g_kindRow, .inl (cI, 4, .inl g_kindRow)), (h_g_slackRow, .inl (cI, 4, .inl g_slackRow)), (h_g_placeRow, .inl (cI, 4, .inl g_placeRow)), (h_g_turnRow, .inl (cI, 4, .inl g_turnRow)), (h_g_wayRow, .inl (cI, 4, .inl g_wayRow)), (h_g_strokeRow, .inl (cI, 16, .inl g_strokeRow))] [(h0, .inr (2, [.ref h_stepRow, .ref h_armRow, .ref h_placeRow, .int size])), (h_stepRow, .inl (cI, 6, .inl stepRow)), (h_armRow, .inl (cI, 6, .inl armRow)), (h_placeRow, .inl (cI, 6, .inl placeRow)), (h_g, .inr (0, [.ref h_g_kindRow, .ref h_g_slackRow, .ref h_g_placeRow, .ref h_g_turnRow, .ref h_g_wayRow, .ref h_g_strokeRow, .int g_arms, .int g_strokes, .int g_hand, .int g_step, .int g_travel, .int g_reversals])), (h_g_kindRow, .inl (cI, 4, .inl g_kindRow)), (h_g_slackRow, .inl (cI, 4, .inl g_slackRow)), (h_g_placeRow, .inl (cI, 4, .inl g_placeRow)), (h_g_turnRow, .inl (cI, 4, .inl g_turnRow)), (h_g_wayRow, .inl (cI, 4, .inl g_wayRow)), (h_g_strokeRow, .inl (cI, 16, .inl g_strokeRow))] r0 := by
  refine xMi_of (cc := cX2_agreeBehind) (maxL := 5) (ty := .boolean) (by decide) rfl (Nat.le_of_ble_eq_true rfl) ?_
  intro p e s m args below meth c A Q ls C hX hl hret
  have hx := C.1.1
  have hb := C.1.2.1
  have hl : lv_has ls 5 [(0, .ref h0), (1, .int p1), (2, .ref h_g)] := hl
  have L58 : ∀ (k2 : Int32 → Int32 → Option (Int32)) (hk2 : ∀ (x1 : Int32) (x3 : Int32) (H : Heap) (locs : List Loc) (ls : Array Slot), k2 x1 x3 = some r0 → xSt A s D [(h0, .inr (2, [.ref h_stepRow, .ref h_armRow, .ref h_placeRow, .int size])), (h_stepRow, .inl (cI, 6, .inl stepRow)), (h_armRow, .inl (cI, 6, .inl armRow)), (h_placeRow, .inl (cI, 6, .inl placeRow)), (h_g, .inr (0, [.ref h_g_kindRow, .ref h_g_slackRow, .ref h_g_placeRow, .ref h_g_turnRow, .ref h_g_wayRow, .ref h_g_strokeRow, .int g_arms, .int g_strokes, .int g_hand, .int g_step, .int g_travel, .int g_reversals])), (h_g_kindRow, .inl (cI, 4, .inl g_kindRow)), (h_g_slackRow, .inl (cI, 4, .inl g_slackRow)), (h_g_placeRow, .inl (cI, 4, .inl g_placeRow)), (h_g_turnRow, .inl (cI, 4, .inl g_turnRow)), (h_g_wayRow, .inl (cI, 4, .inl g_wayRow)), (h_g_strokeRow, .inl (cI, 16, .inl g_strokeRow))] H locs → lv_has ls 5 [(0, .ref h0), (1, .int x1), (2, .ref h_g), (3, .int x3)] → W p l e ({ frames := 0, cells := 0, slots := 0, locals := 0 } : Room) s m args below meth c H locs 0 0 Q (F0 m 2 ls [])), ∀ (x1 : Int32) (x3 : Int32) (H : Heap) (locs : List Loc) (ls : Array Slot), fX2_agreeBehind_L58 size stepRow armRow placeRow g_arms g_placeRow k2 x1 x3 = some r0 → xSt A s D [(h0, .inr (2, [.ref h_stepRow, .ref h_armRow, .ref h_placeRow, .int size])), (h_stepRow, .inl (cI, 6, .inl stepRow)), (h_armRow, .inl (cI, 6, .inl armRow)), (h_placeRow, .inl (cI, 6, .inl placeRow)), (h_g, .inr (0, [.ref h_g_kindRow, .ref h_g_slackRow, .ref h_g_placeRow, .ref h_g_turnRow, .ref h_g_wayRow, .ref h_g_strokeRow, .int g_arms, .int g_strokes, .int g_hand, .int g_step, .int g_travel, .int g_reversals])), (h_g_kindRow, .inl (cI, 4, .inl g_kindRow)), (h_g_slackRow, .inl (cI, 4, .inl g_slackRow)), (h_g_placeRow, .inl (cI, 4, .inl g_placeRow)), (h_g_turnRow, .inl (cI, 4, .inl g_turnRow)), (h_g_wayRow, .inl (cI, 4, .inl g_wayRow)), (h_g_strokeRow, .inl (cI, 16, .inl g_strokeRow))] H locs → lv_has ls 5 [(0, .ref h0), (1, .int x1), (2, .ref h_g), (3, .int x3)] → W p l e ({ frames := 0, cells := 0, slots := 0, locals := 0 } : Room) s m args below meth c H locs 0 0 Q (F0 m 58 ls []) := by
    intro k2 hk2 x1 x3 H locs ls hf hX hl
    unfold fX2_agreeBehind_L58 at hf
    obtain ⟨v10, ev10⟩ : ∃ y : Int32, y = (x3 + (1 : Int32)) := ⟨_, rfl⟩
    replace hf := bnd_use ev10 hf
    refine lv_iinc (pc := 58) (v := v10) (lv' := [(3, .int v10), (0, .ref h0), (1, .int x1), (2, .ref h_g)]) hx hb dX2_agreeBehind_58 hl (k := 3) rfl (by rw [ev10]; rfl) (by decide) rfl (fun ls hl => ?_)
    refine lv_goto (pc := 61) (tgt := 2) hx hb dX2_agreeBehind_61 (by decide) ?_
    exact hk2 x1 v10 _ _ _ hf hX (lv_sub hl [1, 2, 3, 0] rfl)
  have L2 : ∀ (n : Nat), ∀ (x1 : Int32) (x3 : Int32) (H : Heap) (locs : List Loc) (ls : Array Slot), fX2_agreeBehind_L2 size stepRow armRow placeRow g_arms g_placeRow n x1 x3 = some r0 → xSt A s D [(h0, .inr (2, [.ref h_stepRow, .ref h_armRow, .ref h_placeRow, .int size])), (h_stepRow, .inl (cI, 6, .inl stepRow)), (h_armRow, .inl (cI, 6, .inl armRow)), (h_placeRow, .inl (cI, 6, .inl placeRow)), (h_g, .inr (0, [.ref h_g_kindRow, .ref h_g_slackRow, .ref h_g_placeRow, .ref h_g_turnRow, .ref h_g_wayRow, .ref h_g_strokeRow, .int g_arms, .int g_strokes, .int g_hand, .int g_step, .int g_travel, .int g_reversals])), (h_g_kindRow, .inl (cI, 4, .inl g_kindRow)), (h_g_slackRow, .inl (cI, 4, .inl g_slackRow)), (h_g_placeRow, .inl (cI, 4, .inl g_placeRow)), (h_g_turnRow, .inl (cI, 4, .inl g_turnRow)), (h_g_wayRow, .inl (cI, 4, .inl g_wayRow)), (h_g_strokeRow, .inl (cI, 16, .inl g_strokeRow))] H locs → lv_has ls 5 [(0, .ref h0), (1, .int x1), (2, .ref h_g), (3, .int x3)] → W p l e ({ frames := 0, cells := 0, slots := 0, locals := 0 } : Room) s m args below meth c H locs 0 0 Q (F0 m 2 ls []) := by
    intro n
    induction n with
    | zero =>
      intro x1 x3 H locs ls hf
      rw [fX2_agreeBehind_L2] at hf
      cases hf
    | succ n ih =>
      intro x1 x3 H locs ls hf hX hl
      rw [fX2_agreeBehind_L2] at hf
      refine lv_iload_n (pc := 2) hx hb dX2_agreeBehind_2 rfl (lv_at hl 3 rfl) ?_
      refine lv_aload_n (pc := 3) hx hb dX2_agreeBehind_3 rfl (lv_at hl 0 rfl) ?_
      refine x_getf (pc := 4) (Cn := RX2) (T := TX2) (N := 4) C hX 0 rfl rfl miX2_agreeBehind_X2 3 (by decide) mmX2_agreeBehind_1 rfl dX2_agreeBehind_4 ?_
      refine lv_icmp_ge (pc := 7) (tgt := 64) hx hb dX2_agreeBehind_7 (by decide) (fun c1 => ?_) (fun c1 => ?_)
      · replace hf := ite_t c1 hf
        refine lv_iconst (pc := 64) (v := 1) hx hb dX2_agreeBehind_64 (by decide) ?_
        obtain ⟨rfl⟩ := re1 hf
        exact hret _ _ _ _ _ rfl rfl hX dX2_agreeBehind_65
      · replace hf := ite_f c1 hf
        refine lv_aload_n (pc := 10) hx hb dX2_agreeBehind_10 rfl (lv_at hl 0 rfl) ?_
        refine x_getf (pc := 11) (Cn := RX2) (T := TX2) (N := 4) C hX 0 rfl rfl miX2_agreeBehind_X2 0 (by decide) mmX2_agreeBehind_2 rfl dX2_agreeBehind_11 ?_
        refine lv_iload_n (pc := 14) hx hb dX2_agreeBehind_14 rfl (lv_at hl 3 rfl) ?_
        replace hf := chk_adv hf
        have i2 := hf.1
        replace hf := hf.2
        refine x_iald (pc := 15) C hX 1 0 rfl rfl i2 dX2_agreeBehind_15 ?_
        refine lv_iload_n (pc := 16) hx hb dX2_agreeBehind_16 rfl (lv_at hl 1 rfl) ?_
        refine lv_icmp_eq (pc := 17) (tgt := 23) hx hb dX2_agreeBehind_17 (by decide) (fun c3 => ?_) (fun c3 => ?_)
        · replace hf := ite_t c3 hf
          refine lv_aload_n (pc := 23) hx hb dX2_agreeBehind_23 rfl (lv_at hl 0 rfl) ?_
          refine x_getf (pc := 24) (Cn := RX2) (T := TX2) (N := 4) C hX 0 rfl rfl miX2_agreeBehind_X2 1 (by decide) mmX2_agreeBehind_3 rfl dX2_agreeBehind_24 ?_
          refine lv_iload_n (pc := 27) hx hb dX2_agreeBehind_27 rfl (lv_at hl 3 rfl) ?_
          replace hf := chk_adv hf
          have i4 := hf.1
          replace hf := hf.2
          refine x_iald (pc := 28) C hX 2 0 rfl rfl i4 dX2_agreeBehind_28 ?_
          refine lv_topi (fun v5 ev5 => ?_)
          replace hf := bnd_use ev5 hf
          refine lv_istore (pc := 29) (lv' := [(4, .int v5), (0, .ref h0), (1, .int x1), (2, .ref h_g), (3, .int x3)]) hx hb dX2_agreeBehind_29 hl (by decide) rfl (fun ls hl => ?_)
          refine lv_iload (pc := 31) hx hb dX2_agreeBehind_31 (lv_at hl 0 rfl) ?_
          refine lv_aload_n (pc := 33) hx hb dX2_agreeBehind_33 rfl (lv_at hl 3 rfl) ?_
          refine x_getf (pc := 34) (Cn := RX0) (T := TX0) (N := 12) C hX 4 rfl rfl miX2_agreeBehind_X0 6 (by decide) mmX2_agreeBehind_4 rfl dX2_agreeBehind_34 ?_
          refine lv_icmp_ge (pc := 37) (tgt := 56) hx hb dX2_agreeBehind_37 (by decide) (fun c6 => ?_) (fun c6 => ?_)
          · replace hf := ite_t c6 hf
            refine lv_iconst (pc := 56) (v := 0) hx hb dX2_agreeBehind_56 (by decide) ?_
            obtain ⟨rfl⟩ := re1 hf
            exact hret _ _ _ _ _ rfl rfl hX dX2_agreeBehind_57
          · replace hf := ite_f c6 hf
            refine lv_aload_n (pc := 40) hx hb dX2_agreeBehind_40 rfl (lv_at hl 3 rfl) ?_
            refine x_getf (pc := 41) (Cn := RX0) (T := TX0) (N := 12) C hX 4 rfl rfl miX2_agreeBehind_X0 2 (by decide) mmX2_agreeBehind_5 rfl dX2_agreeBehind_41 ?_
            refine lv_iload (pc := 44) hx hb dX2_agreeBehind_44 (lv_at hl 0 rfl) ?_
            replace hf := chk_adv hf
            have i7 := hf.1
            replace hf := hf.2
            refine x_iald (pc := 46) C hX 7 0 rfl rfl i7 dX2_agreeBehind_46 ?_
            refine lv_aload_n (pc := 47) hx hb dX2_agreeBehind_47 rfl (lv_at hl 1 rfl) ?_
            refine x_getf (pc := 48) (Cn := RX2) (T := TX2) (N := 4) C hX 0 rfl rfl miX2_agreeBehind_X2 2 (by decide) mmX2_agreeBehind_6 rfl dX2_agreeBehind_48 ?_
            refine lv_iload_n (pc := 51) hx hb dX2_agreeBehind_51 rfl (lv_at hl 4 rfl) ?_
            replace hf := chk_adv hf
            have i8 := hf.1
            replace hf := hf.2
            refine x_iald (pc := 52) C hX 3 0 rfl rfl i8 dX2_agreeBehind_52 ?_
            refine lv_icmp_eq (pc := 53) (tgt := 58) hx hb dX2_agreeBehind_53 (by decide) (fun c9 => ?_) (fun c9 => ?_)
            · replace hf := ite_t c9 hf
              exact L58 (fX2_agreeBehind_L2 size stepRow armRow placeRow g_arms g_placeRow n) ih x1 x3 _ _ _ hf hX (lv_sub hl [1, 2, 3, 4] rfl)
            · replace hf := ite_f c9 hf
              refine lv_iconst (pc := 56) (v := 0) hx hb dX2_agreeBehind_56 (by decide) ?_
              obtain ⟨rfl⟩ := re1 hf
              exact hret _ _ _ _ _ rfl rfl hX dX2_agreeBehind_57
        · replace hf := ite_f c3 hf
          refine lv_goto (pc := 20) (tgt := 58) hx hb dX2_agreeBehind_20 (by decide) ?_
          exact L58 (fX2_agreeBehind_L2 size stepRow armRow placeRow g_arms g_placeRow n) ih x1 x3 _ _ _ hf hX (lv_sub hl [0, 1, 2, 3] rfl)
  unfold fX2_agreeBehind at hf
  refine lv_iconst (pc := 0) (v := 0) hx hb dX2_agreeBehind_0 (by decide) ?_
  refine lv_istore_n (pc := 1) (lv' := [(3, .int (0 : Int32)), (0, .ref h0), (1, .int p1), (2, .ref h_g)]) hx hb dX2_agreeBehind_1 rfl hl (by decide) rfl (fun ls hl => ?_)
  exact L2  xF p1 (0 : Int32) _ _ _ hf hX (lv_sub hl [1, 2, 3, 0] rfl)
set_option maxHeartbeats 4000000 in
set_option maxRecDepth 100000 in
theorem kX2_agreeWith (ad : xAd) (l : Launch) (D : va_G) (cI cB cZ cG cS : ClassId) (h0 h_stepRow h_armRow h_placeRow h_g h_g_kindRow h_g_slackRow h_g_placeRow h_g_turnRow h_g_wayRow h_g_strokeRow : Nat) (size : Int32) (stepRow : (Nat → Int32)) (armRow : (Nat → Int32)) (placeRow : (Nat → Int32)) (g_arms : Int32) (g_strokes : Int32) (g_hand : Int32) (g_step : Int32) (g_travel : Int32) (g_reversals : Int32) (g_kindRow : (Nat → Int32)) (g_slackRow : (Nat → Int32)) (g_placeRow : (Nat → Int32)) (g_turnRow : (Nat → Int32)) (g_wayRow : (Nat → Int32)) (g_strokeRow : (Nat → Int32)) (r0 : Int32) (o_g_hand' : Int32) (o_g_step' : Int32) (o_g_travel' : Int32) (o_g_reversals' : Int32) (o_g_placeRow' : (Nat → Int32)) (o_g_turnRow' : (Nat → Int32)) (o_g_wayRow' : (Nat → Int32))  (hf : fX2_agreeWith  size stepRow armRow placeRow g_arms g_strokes g_hand g_step g_travel g_reversals g_kindRow g_slackRow g_placeRow g_turnRow g_wayRow g_strokeRow = some (r0, o_g_hand', o_g_step', o_g_travel', o_g_reversals', o_g_placeRow', o_g_turnRow', o_g_wayRow')) : xMi ad l yX2_agreeWith wsX2_agreeWith ({ frames := 4, cells := 0, slots := 0, locals := 87 } : Room) D (xTY cI cB cZ cG cS) [.ref h0, .ref h_g] [(h0, .inr (2, [.ref h_stepRow, .ref h_armRow, .ref h_placeRow, .int size])), (h_stepRow, .inl (cI, 6, .inl stepRow)), (h_armRow, .inl (cI, 6, .inl armRow)), (h_placeRow, .inl (cI, 6, .inl placeRow)), (h_g, .inr (0, [.ref h_g_kindRow, .ref h_g_slackRow, .ref h_g_placeRow, .ref h_g_turnRow, .ref h_g_wayRow, .ref h_g_strokeRow, .int g_arms, .int g_strokes, .int g_hand, .int g_step, .int g_travel, .int g_reversals])), (h_g_kindRow, .inl (cI, 4, .inl g_kindRow)), (h_g_slackRow, .inl (cI, 4, .inl g_slackRow)), (h_g_placeRow, .inl (cI, 4, .inl g_placeRow)), (h_g_turnRow, .inl (cI, 4, .inl g_turnRow)), (h_g_wayRow, .inl (cI, 4, .inl g_wayRow)), (h_g_strokeRow, .inl (cI, 16, .inl g_strokeRow))] [(h0, .inr (2, [.ref h_stepRow, .ref h_armRow, .ref h_placeRow, .int size])), (h_stepRow, .inl (cI, 6, .inl stepRow)), (h_armRow, .inl (cI, 6, .inl armRow)), (h_placeRow, .inl (cI, 6, .inl placeRow)), (h_g, .inr (0, [.ref h_g_kindRow, .ref h_g_slackRow, .ref h_g_placeRow, .ref h_g_turnRow, .ref h_g_wayRow, .ref h_g_strokeRow, .int g_arms, .int g_strokes, .int o_g_hand', .int o_g_step', .int o_g_travel', .int o_g_reversals'])), (h_g_kindRow, .inl (cI, 4, .inl g_kindRow)), (h_g_slackRow, .inl (cI, 4, .inl g_slackRow)), (h_g_placeRow, .inl (cI, 4, .inl o_g_placeRow')), (h_g_turnRow, .inl (cI, 4, .inl o_g_turnRow')), (h_g_wayRow, .inl (cI, 4, .inl o_g_wayRow')), (h_g_strokeRow, .inl (cI, 16, .inl g_strokeRow))] r0 := by
  refine xMi_of (cc := cX2_agreeWith) (maxL := 4) (ty := .boolean) (by decide) rfl (Nat.le_of_ble_eq_true rfl) ?_
  intro p e s m args below meth c A Q ls C hX hl hret
  have hx := C.1.1
  have hb := C.1.2.1
  have hl : lv_has ls 4 [(0, .ref h0), (1, .ref h_g)] := hl
  have L20 : ∀ (k7 : Int32 → Int32 → Int32 → Int32 → Int32 → Int32 → (Nat → Int32) → (Nat → Int32) → (Nat → Int32) → Option (Int32 × Int32 × Int32 × Int32 × Int32 × (Nat → Int32) × (Nat → Int32) × (Nat → Int32))) (hk7 : ∀ (x2 : Int32) (x3 : Int32) (g_hand : Int32) (g_step : Int32) (g_travel : Int32) (g_reversals : Int32) (g_placeRow : (Nat → Int32)) (g_turnRow : (Nat → Int32)) (g_wayRow : (Nat → Int32)) (H : Heap) (locs : List Loc) (ls : Array Slot), k7 x2 x3 g_hand g_step g_travel g_reversals g_placeRow g_turnRow g_wayRow = some (r0, o_g_hand', o_g_step', o_g_travel', o_g_reversals', o_g_placeRow', o_g_turnRow', o_g_wayRow') → xSt A s D [(h0, .inr (2, [.ref h_stepRow, .ref h_armRow, .ref h_placeRow, .int size])), (h_stepRow, .inl (cI, 6, .inl stepRow)), (h_armRow, .inl (cI, 6, .inl armRow)), (h_placeRow, .inl (cI, 6, .inl placeRow)), (h_g, .inr (0, [.ref h_g_kindRow, .ref h_g_slackRow, .ref h_g_placeRow, .ref h_g_turnRow, .ref h_g_wayRow, .ref h_g_strokeRow, .int g_arms, .int g_strokes, .int g_hand, .int g_step, .int g_travel, .int g_reversals])), (h_g_kindRow, .inl (cI, 4, .inl g_kindRow)), (h_g_slackRow, .inl (cI, 4, .inl g_slackRow)), (h_g_placeRow, .inl (cI, 4, .inl g_placeRow)), (h_g_turnRow, .inl (cI, 4, .inl g_turnRow)), (h_g_wayRow, .inl (cI, 4, .inl g_wayRow)), (h_g_strokeRow, .inl (cI, 16, .inl g_strokeRow))] H locs → lv_has ls 4 [(0, .ref h0), (1, .ref h_g), (2, .int x2), (3, .int x3)] → W p l e ({ frames := 4, cells := 0, slots := 0, locals := 87 } : Room) s m args below meth c H locs 0 0 Q (F0 m 7 ls [])), ∀ (x2 : Int32) (x3 : Int32) (g_hand : Int32) (g_step : Int32) (g_travel : Int32) (g_reversals : Int32) (g_placeRow : (Nat → Int32)) (g_turnRow : (Nat → Int32)) (g_wayRow : (Nat → Int32)) (H : Heap) (locs : List Loc) (ls : Array Slot), fX2_agreeWith_L20 size stepRow armRow placeRow g_arms g_strokes g_kindRow g_slackRow g_strokeRow k7 x2 x3 g_hand g_step g_travel g_reversals g_placeRow g_turnRow g_wayRow = some (r0, o_g_hand', o_g_step', o_g_travel', o_g_reversals', o_g_placeRow', o_g_turnRow', o_g_wayRow') → xSt A s D [(h0, .inr (2, [.ref h_stepRow, .ref h_armRow, .ref h_placeRow, .int size])), (h_stepRow, .inl (cI, 6, .inl stepRow)), (h_armRow, .inl (cI, 6, .inl armRow)), (h_placeRow, .inl (cI, 6, .inl placeRow)), (h_g, .inr (0, [.ref h_g_kindRow, .ref h_g_slackRow, .ref h_g_placeRow, .ref h_g_turnRow, .ref h_g_wayRow, .ref h_g_strokeRow, .int g_arms, .int g_strokes, .int g_hand, .int g_step, .int g_travel, .int g_reversals])), (h_g_kindRow, .inl (cI, 4, .inl g_kindRow)), (h_g_slackRow, .inl (cI, 4, .inl g_slackRow)), (h_g_placeRow, .inl (cI, 4, .inl g_placeRow)), (h_g_turnRow, .inl (cI, 4, .inl g_turnRow)), (h_g_wayRow, .inl (cI, 4, .inl g_wayRow)), (h_g_strokeRow, .inl (cI, 16, .inl g_strokeRow))] H locs → lv_has ls 4 [(0, .ref h0), (1, .ref h_g), (2, .int x2), (3, .int x3)] → W p l e ({ frames := 4, cells := 0, slots := 0, locals := 87 } : Room) s m args below meth c H locs 0 0 Q (F0 m 20 ls []) := by
    intro k7 hk7 x2 x3 g_hand g_step g_travel g_reversals g_placeRow g_turnRow g_wayRow H locs ls hf hX hl
    unfold fX2_agreeWith_L20 at hf
    refine lv_aload_n (pc := 20) hx hb dX2_agreeWith_20 rfl (lv_at hl 0 rfl) ?_
    refine lv_iload_n (pc := 21) hx hb dX2_agreeWith_21 rfl (lv_at hl 3 rfl) ?_
    refine lv_aload_n (pc := 22) hx hb dX2_agreeWith_22 rfl (lv_at hl 1 rfl) ?_
    obtain ⟨r5, g6, hf⟩ := cl1_adv hf
    refine x_callVi (pc := 23) (rest := []) (w2 := [(h0, .inr (2, [.ref h_stepRow, .ref h_armRow, .ref h_placeRow, .int size])), (h_stepRow, .inl (cI, 6, .inl stepRow)), (h_armRow, .inl (cI, 6, .inl armRow)), (h_placeRow, .inl (cI, 6, .inl placeRow)), (h_g, .inr (0, [.ref h_g_kindRow, .ref h_g_slackRow, .ref h_g_placeRow, .ref h_g_turnRow, .ref h_g_wayRow, .ref h_g_strokeRow, .int g_arms, .int g_strokes, .int g_hand, .int g_step, .int g_travel, .int g_reversals])), (h_g_kindRow, .inl (cI, 4, .inl g_kindRow)), (h_g_slackRow, .inl (cI, 4, .inl g_slackRow)), (h_g_placeRow, .inl (cI, 4, .inl g_placeRow)), (h_g_turnRow, .inl (cI, 4, .inl g_turnRow)), (h_g_wayRow, .inl (cI, 4, .inl g_wayRow)), (h_g_strokeRow, .inl (cI, 16, .inl g_strokeRow))]) C hX (kX2_agreeBehind ad l D cI cB cZ cG cS h0 h_stepRow h_armRow h_placeRow h_g h_g_kindRow h_g_slackRow h_g_placeRow h_g_turnRow h_g_wayRow h_g_strokeRow size stepRow armRow placeRow g_arms g_strokes g_hand g_step g_travel g_reversals g_kindRow g_slackRow g_placeRow g_turnRow g_wayRow g_strokeRow r5 x3 g6) (cwV 2 C.1.2.2.2.2 gX2_agreeWith_X2_agreeBehind rfl rfl rfl (by decide +kernel) ⟨Nat.le_of_ble_eq_true rfl, Nat.le_of_ble_eq_true rfl⟩) [0, 1, 2, 3, 4, 5, 6, 7, 8, 9, 10] [] [0, 1, 2, 3, 4, 5, 6, 7, 8, 9, 10] rfl rfl rfl rfl (by decide) rfl rfl 0 rfl rfl rfl hl.1 rfl rfl (Nat.le_of_ble_eq_true rfl) dX2_agreeWith_23 (fun H locs hX => ?_)
    refine lv_if_ne (pc := 26) (tgt := 31) hx hb dX2_agreeWith_26 (by decide) (fun c7 => ?_) (fun c7 => ?_)
    · replace hf := ite_f c7 hf
      obtain ⟨v8, ev8⟩ : ∃ y : Int32, y = (x3 + (1 : Int32)) := ⟨_, rfl⟩
      replace hf := bnd_use ev8 hf
      refine lv_iinc (pc := 31) (v := v8) (lv' := [(3, .int v8), (0, .ref h0), (1, .ref h_g), (2, .int x2)]) hx hb dX2_agreeWith_31 hl (k := 3) rfl (by rw [ev8]; rfl) (by decide) rfl (fun ls hl => ?_)
      refine lv_goto (pc := 34) (tgt := 7) hx hb dX2_agreeWith_34 (by decide) ?_
      exact hk7 x2 v8 g_hand g_step g_travel g_reversals g_placeRow g_turnRow g_wayRow _ _ _ hf hX (lv_sub hl [1, 2, 3, 0] rfl)
    · replace hf := ite_t c7 hf
      refine lv_iconst (pc := 29) (v := 0) hx hb dX2_agreeWith_29 (by decide) ?_
      obtain ⟨rfl, rfl, rfl, rfl, rfl, rfl, rfl, rfl⟩ := re8 hf
      exact hret _ _ _ _ _ rfl rfl hX dX2_agreeWith_30
  have L7 : ∀ (n : Nat), ∀ (x2 : Int32) (x3 : Int32) (g_hand : Int32) (g_step : Int32) (g_travel : Int32) (g_reversals : Int32) (g_placeRow : (Nat → Int32)) (g_turnRow : (Nat → Int32)) (g_wayRow : (Nat → Int32)) (H : Heap) (locs : List Loc) (ls : Array Slot), fX2_agreeWith_L7 size stepRow armRow placeRow g_arms g_strokes g_kindRow g_slackRow g_strokeRow n x2 x3 g_hand g_step g_travel g_reversals g_placeRow g_turnRow g_wayRow = some (r0, o_g_hand', o_g_step', o_g_travel', o_g_reversals', o_g_placeRow', o_g_turnRow', o_g_wayRow') → xSt A s D [(h0, .inr (2, [.ref h_stepRow, .ref h_armRow, .ref h_placeRow, .int size])), (h_stepRow, .inl (cI, 6, .inl stepRow)), (h_armRow, .inl (cI, 6, .inl armRow)), (h_placeRow, .inl (cI, 6, .inl placeRow)), (h_g, .inr (0, [.ref h_g_kindRow, .ref h_g_slackRow, .ref h_g_placeRow, .ref h_g_turnRow, .ref h_g_wayRow, .ref h_g_strokeRow, .int g_arms, .int g_strokes, .int g_hand, .int g_step, .int g_travel, .int g_reversals])), (h_g_kindRow, .inl (cI, 4, .inl g_kindRow)), (h_g_slackRow, .inl (cI, 4, .inl g_slackRow)), (h_g_placeRow, .inl (cI, 4, .inl g_placeRow)), (h_g_turnRow, .inl (cI, 4, .inl g_turnRow)), (h_g_wayRow, .inl (cI, 4, .inl g_wayRow)), (h_g_strokeRow, .inl (cI, 16, .inl g_strokeRow))] H locs → lv_has ls 4 [(0, .ref h0), (1, .ref h_g), (2, .int x2), (3, .int x3)] → W p l e ({ frames := 4, cells := 0, slots := 0, locals := 87 } : Room) s m args below meth c H locs 0 0 Q (F0 m 7 ls []) := by
    intro n
    induction n with
    | zero =>
      intro x2 x3 g_hand g_step g_travel g_reversals g_placeRow g_turnRow g_wayRow H locs ls hf
      rw [fX2_agreeWith_L7] at hf
      cases hf
    | succ n ih =>
      intro x2 x3 g_hand g_step g_travel g_reversals g_placeRow g_turnRow g_wayRow H locs ls hf hX hl
      rw [fX2_agreeWith_L7] at hf
      refine lv_iload_n (pc := 7) hx hb dX2_agreeWith_7 rfl (lv_at hl 3 rfl) ?_
      refine lv_iload_n (pc := 8) hx hb dX2_agreeWith_8 rfl (lv_at hl 2 rfl) ?_
      refine lv_icmp_gt (pc := 9) (tgt := 37) hx hb dX2_agreeWith_9 (by decide) (fun c3 => ?_) (fun c3 => ?_)
      · replace hf := ite_t c3 hf
        refine lv_iconst (pc := 37) (v := 1) hx hb dX2_agreeWith_37 (by decide) ?_
        obtain ⟨rfl, rfl, rfl, rfl, rfl, rfl, rfl, rfl⟩ := re8 hf
        exact hret _ _ _ _ _ rfl rfl hX dX2_agreeWith_38
      · replace hf := ite_f c3 hf
        refine lv_iload_n (pc := 12) hx hb dX2_agreeWith_12 rfl (lv_at hl 3 rfl) ?_
        refine lv_if_le (pc := 13) (tgt := 20) hx hb dX2_agreeWith_13 (by decide) (fun c4 => ?_) (fun c4 => ?_)
        · replace hf := ite_t c4 hf
          exact L20 (fX2_agreeWith_L7 size stepRow armRow placeRow g_arms g_strokes g_kindRow g_slackRow g_strokeRow n) ih x2 x3 g_hand g_step g_travel g_reversals g_placeRow g_turnRow g_wayRow _ _ _ hf hX (lv_sub hl [0, 1, 2, 3] rfl)
        · replace hf := ite_f c4 hf
          refine lv_aload_n (pc := 16) hx hb dX2_agreeWith_16 rfl (lv_at hl 1 rfl) ?_
          obtain ⟨u9, u10, u11, u12, u13, u14, u15, g16, hf⟩ := cl7_adv hf
          refine x_callVv (pc := 17) (rest := []) (w2 := [(h0, .inr (2, [.ref h_stepRow, .ref h_armRow, .ref h_placeRow, .int size])), (h_stepRow, .inl (cI, 6, .inl stepRow)), (h_armRow, .inl (cI, 6, .inl armRow)), (h_placeRow, .inl (cI, 6, .inl placeRow)), (h_g, .inr (0, [.ref h_g_kindRow, .ref h_g_slackRow, .ref h_g_placeRow, .ref h_g_turnRow, .ref h_g_wayRow, .ref h_g_strokeRow, .int g_arms, .int g_strokes, .int u9, .int u10, .int u11, .int u12])), (h_g_kindRow, .inl (cI, 4, .inl g_kindRow)), (h_g_slackRow, .inl (cI, 4, .inl g_slackRow)), (h_g_placeRow, .inl (cI, 4, .inl u13)), (h_g_turnRow, .inl (cI, 4, .inl u14)), (h_g_wayRow, .inl (cI, 4, .inl u15)), (h_g_strokeRow, .inl (cI, 16, .inl g_strokeRow))]) C hX (kX0_takeStep ad l D cI cB cZ cG cS h_g h_g_kindRow h_g_slackRow h_g_placeRow h_g_turnRow h_g_wayRow h_g_strokeRow g_arms g_strokes g_hand g_step g_travel g_reversals g_kindRow g_slackRow g_placeRow g_turnRow g_wayRow g_strokeRow u9 u10 u11 u12 u13 u14 u15 g16) (cwV 0 C.1.2.2.2.2 gX2_agreeWith_X0_takeStep rfl rfl rfl (by decide +kernel) ⟨Nat.le_of_ble_eq_true rfl, Nat.le_of_ble_eq_true rfl⟩) [4, 5, 6, 7, 8, 9, 10] [0, 1, 2, 3] [0, 1, 2, 3, 4, 5, 6, 7, 8, 9, 10] rfl rfl rfl rfl (by decide) rfl rfl 0 rfl rfl rfl hl.1 rfl rfl (Nat.le_of_ble_eq_true rfl) dX2_agreeWith_17 (fun H locs hX => ?_)
          exact L20 (fX2_agreeWith_L7 size stepRow armRow placeRow g_arms g_strokes g_kindRow g_slackRow g_strokeRow n) ih x2 x3 u9 u10 u11 u12 u13 u14 u15 _ _ _ hf hX (lv_sub hl [0, 1, 2, 3] rfl)
  unfold fX2_agreeWith at hf
  refine lv_aload_n (pc := 0) hx hb dX2_agreeWith_0 rfl (lv_at hl 0 rfl) ?_
  obtain ⟨r1, g2, hf⟩ := cl1_adv hf
  refine x_callVi (pc := 1) (rest := []) (w2 := [(h0, .inr (2, [.ref h_stepRow, .ref h_armRow, .ref h_placeRow, .int size])), (h_stepRow, .inl (cI, 6, .inl stepRow)), (h_armRow, .inl (cI, 6, .inl armRow)), (h_placeRow, .inl (cI, 6, .inl placeRow)), (h_g, .inr (0, [.ref h_g_kindRow, .ref h_g_slackRow, .ref h_g_placeRow, .ref h_g_turnRow, .ref h_g_wayRow, .ref h_g_strokeRow, .int g_arms, .int g_strokes, .int g_hand, .int g_step, .int g_travel, .int g_reversals])), (h_g_kindRow, .inl (cI, 4, .inl g_kindRow)), (h_g_slackRow, .inl (cI, 4, .inl g_slackRow)), (h_g_placeRow, .inl (cI, 4, .inl g_placeRow)), (h_g_turnRow, .inl (cI, 4, .inl g_turnRow)), (h_g_wayRow, .inl (cI, 4, .inl g_wayRow)), (h_g_strokeRow, .inl (cI, 16, .inl g_strokeRow))]) C hX (kX2_lastStep ad l D cI cB cZ cG cS h0 h_stepRow h_armRow h_placeRow size stepRow armRow placeRow r1 g2) (cwV 0 C.1.2.2.2.2 gX2_agreeWith_X2_lastStep rfl rfl rfl (by decide +kernel) ⟨Nat.le_of_ble_eq_true rfl, Nat.le_of_ble_eq_true rfl⟩) [0, 1, 2, 3] [4, 5, 6, 7, 8, 9, 10] [7, 8, 9, 10, 0, 1, 2, 3, 4, 5, 6] rfl rfl rfl rfl (by decide) rfl rfl 0 rfl rfl rfl hl.1 rfl rfl (Nat.le_of_ble_eq_true rfl) dX2_agreeWith_1 (fun H locs hX => ?_)
  refine lv_istore_n (pc := 4) (lv' := [(2, .int r1), (0, .ref h0), (1, .ref h_g)]) hx hb dX2_agreeWith_4 rfl hl (by decide) rfl (fun ls hl => ?_)
  refine lv_iconst (pc := 5) (v := 0) hx hb dX2_agreeWith_5 (by decide) ?_
  refine lv_istore_n (pc := 6) (lv' := [(3, .int (0 : Int32)), (2, .int r1), (0, .ref h0), (1, .ref h_g)]) hx hb dX2_agreeWith_6 rfl hl (by decide) rfl (fun ls hl => ?_)
  exact L7  xF r1 (0 : Int32) g_hand g_step g_travel g_reversals g_placeRow g_turnRow g_wayRow _ _ _ hf hX (lv_sub hl [2, 3, 1, 0] rfl)
