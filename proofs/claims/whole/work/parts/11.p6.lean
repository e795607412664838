-- ops on the tape's row, what is seen, questions without steps
theorem gate {β : Type} {c : Prop} [Decidable c] {A B : Option β} : cl1 (some (if c then (1 : Int32) else 0)) (fun r => if r = 0 then A else B) = if c then B else A := by
  by_cases h : c
  · rw [if_pos h, if_pos h]
    rfl
  · rw [if_neg h, if_neg h]
    rfl
theorem nar8 {x : Int32} (h1 : 0 ≤ x.toInt) (h2 : x.toInt ≤ 127) : vp_nar .byte (x.toInt8.toInt32) = x := by
  rw [pk_vb]
  apply i_eq.mpr
  rw [Int8.toInt_toInt32, Int32.toInt_toInt8]
  exact Int.bmod_eq_of_le (by omega) (by omega)
theorem op_feed (a1 : Int32) {len flt taped rf : Int32} {bytes tape : Nat → Int32} (h : RT len flt bytes taped rf tape) : ∃ (qr len' : Int32) (bytes' : Nat → Int32) (taped' : Int32) (tape' : Nat → Int32), fX4_feed a1 len bytes = some (qr, len', bytes') ∧ fX5_feed a1 taped tape = some (qr, taped', tape') ∧ RT len' flt bytes' taped' rf tape' := by
  have h0 := h
  obtain ⟨e1, n, hn, rfl, rfl, hj⟩ := h
  unfold fX4_feed fX5_feed
  rw [w_eq, gate, in_eq a1 0 127 0 127 rfl rfl, gate]
  by_cases c : 0 ≤ a1 ∧ a1 ≤ 127
  · simp only [if_pos c]
    have c1 := i_le.mp c.1
    have c2 := i_le.mp c.2
    have e0 : (0 : Int32).toInt = 0 := rfl
    have e127 : (127 : Int32).toInt = 127 := rfl
    by_cases hf : n = 160
    · subst hf
      refine ⟨-3, nI 160, bytes, nI 160, tape, ?_, if_pos rfl, h0⟩
      unfold fX3_append
      rw [if_neg (by decide)]
      rfl
    · refine ⟨nI (n + 1), nI (n + 1), upd bytes n a1, nI (n + 1), upd tape n a1, ?_, ?_, e1, n + 1, by omega, rfl, rfl, fun j hjj => ?_⟩
      · unfold fX3_append
        rw [if_pos (show nI n < (160 : Int32) from (nI_ltI (b := 160) (by omega) (by omega)).mpr (by omega)), bnd_s, chk_pos (xin_nI (by omega) (by omega)), bnd_s, bnd_s, nI_1, cN (by omega), nar8 (by omega) (by omega)]
        rfl
      · rw [if_neg (show ¬ nI n = (160 : Int32) from fun q => hf ((nI_eq (b := 160) (by omega) (by omega)).mp q)), chk_pos (xin_nI (by omega) (by omega)), bnd_s, bnd_s, nI_1, cN (by omega)]
      · by_cases e : j = n
        · subst e
          rw [upd_s, upd_s]
          exact ⟨rfl, by omega, by omega⟩
        · rw [upd_n _ _ e, upd_n _ _ e]
          exact hj j (by omega)
  · simp only [if_neg c]
    exact ⟨_, _, _, _, _, rfl, rfl, h0⟩
theorem op_end (a1 : Int32) {len flt taped rf : Int32} {bytes tape : Nat → Int32} (h : RT len flt bytes taped rf tape) : ∃ (qr len' taped' : Int32), fX4_end a1 len = some (qr, len') ∧ fX5_end a1 taped = some (qr, taped') ∧ RT len' flt bytes taped' rf tape := by
  have h0 := h
  obtain ⟨e1, n, hn, rfl, rfl, hj⟩ := h
  unfold fX4_end fX5_end
  rw [w_eq, gate, in_eq a1 0 (nI n) 0 _ rfl rfl, gate]
  by_cases c : 0 ≤ a1 ∧ a1 ≤ nI n
  · simp only [if_pos c]
    obtain ⟨k, hk, rfl⟩ := of_rng c.1 c.2 (nI_toInt (by omega))
    exact ⟨_, _, _, rfl, rfl, e1, k, by omega, rfl, rfl, fun j h => hj j (by omega)⟩
  · simp only [if_neg c]
    exact ⟨_, _, _, rfl, rfl, h0⟩
theorem op_forget (a1 : Int32) {size many : Int32} {sR aR pR seen : Nat → Int32} (h : RS size sR aR pR many seen) : ∃ (qr size' many' : Int32), fX4_forget a1 size = some (qr, size') ∧ fX5_forget a1 many = some (qr, many') ∧ RS size' sR aR pR many' seen := by
  have h0 := h
  obtain ⟨n, hn, rfl, rfl, hj⟩ := h
  unfold fX4_forget fX5_forget
  rw [w_eq, gate, in_eq a1 0 (nI n) 0 _ rfl rfl, gate]
  by_cases c : 0 ≤ a1 ∧ a1 ≤ nI n
  · simp only [if_pos c]
    obtain ⟨k, hk, rfl⟩ := of_rng c.1 c.2 (nI_toInt (by omega))
    exact ⟨_, _, _, rfl, rfl, k, by omega, rfl, rfl, fun j h => hj j (by omega)⟩
  · simp only [if_neg c]
    exact ⟨_, _, _, rfl, rfl, h0⟩
theorem op_see (a1 a2 a3 : Int32) {i : Nat} {st : Nat → Int32} {arms strokes hand step : Int32} {kind slack place turn way stroke : Nat → Int32} (hN : RN i st arms strokes hand step kind slack place turn way stroke) {size many : Int32} {sR aR pR seen : Nat → Int32} (h : RS size sR aR pR many seen) : ∃ (qr size' : Int32) (sR' aR' pR' : Nat → Int32) (many' : Int32) (seen' : Nat → Int32), fX4_see a1 a2 a3 arms size sR aR pR = some (qr, size', sR', aR', pR') ∧ fX5_see a1 a2 a3 many st seen = some (qr, many', seen') ∧ RS size' sR' aR' pR' many' seen' := by
  have h0 := h
  obtain ⟨n, hn, rfl, rfl, hj⟩ := h
  obtain ⟨na, ns, nt, rfl, rfl, rfl, hnt, g⟩ := hN
  have h20 : st 20 = nI na := by have := g.2.2.1; rw [Nat.zero_add] at this; exact this
  unfold fX4_see fX5_see
  rw [w_eq, gate, in_eq a1 0 40 0 40 rfl rfl, gate, ia_eq, gate, ma_eq, h20, gate, sp_eq, gate, mp_eq, gate]
  by_cases c1 : 0 ≤ a1 ∧ a1 ≤ 40
  · simp only [if_pos c1]
    by_cases c2 : 0 ≤ a2 ∧ a2 ≤ nI na - 1
    · simp only [if_pos c2]
      by_cases c3 : 100000 ≤ a3 ∧ a3 ≤ 300000
      · simp only [if_pos c3]
        obtain ⟨k1, hk1, rfl⟩ := of_rng c1.1 c1.2 (n := 40) rfl
        obtain ⟨k2, hk2, rfl⟩ := of_idx (by have := g.1; omega) c2.1 c2.2
        by_cases hf : n = 6
        · subst hf
          refine ⟨-3, nI 6, sR, aR, pR, nI 6, seen, ?_, if_pos rfl, h0⟩
          unfold fX2_append
          rw [if_neg (by decide)]
          rfl
        · refine ⟨nI (n + 1), nI (n + 1), upd sR n (nI k1), upd aR n (nI k2), upd pR n (a3 - 200000), nI (n + 1), upd (upd (upd seen (3 * n) (nI k1)) (3 * n + 1) (nI k2)) (3 * n + 2) (a3 - 200000), ?_, ?_, n + 1, by omega, rfl, rfl, fun j hjj => ?_⟩
          · unfold fX2_append
            rw [if_pos (show nI n < (6 : Int32) from (nI_ltI (b := 6) (by omega) (by omega)).mpr (by omega))]
            simp only [chk_pos (xin_nI (show n < 6 by omega) (show n < 2 ^ 31 by omega)), bnd_s, nI_1, cN (show n < 1000000 by omega)]
            rfl
          · have m3 : (3 : Int32) * nI n = nI (3 * n) := pk_mul 3 n
            have m31 : nI (3 * n) + (1 : Int32) = nI (3 * n + 1) := nI_1 _
            have m32 : nI (3 * n) + (2 : Int32) = nI (3 * n + 2) := nI_add (3 * n) 2
            rw [if_neg (show ¬ nI n = (6 : Int32) from fun q => hf ((nI_eq (b := 6) (by omega) (by omega)).mp q)), m3, m31, m32]
            simp only [chk_pos (xin_nI (show 3 * n < 18 by omega) (show 3 * n < 2 ^ 31 by omega)), chk_pos (xin_nI (show 3 * n + 1 < 18 by omega) (show 3 * n + 1 < 2 ^ 31 by omega)), chk_pos (xin_nI (show 3 * n + 2 < 18 by omega) (show 3 * n + 2 < 2 ^ 31 by omega)), bnd_s, nI_1, cN (show 3 * n < 1000000 by omega), cN (show 3 * n + 1 < 1000000 by omega), cN (show 3 * n + 2 < 1000000 by omega)]
          · by_cases e : j = n
            · subst e
              rw [upd_s, upd_s, upd_s, upd_s, upd_n _ _ (show 3 * j + 1 ≠ 3 * j + 2 by omega), upd_s, upd_n _ _ (show 3 * j ≠ 3 * j + 2 by omega), upd_n _ _ (show 3 * j ≠ 3 * j + 1 by omega), upd_s]
              exact ⟨rfl, rfl, rfl, ⟨k1, hk1, rfl⟩, ⟨k2, by have := g.1; omega, rfl⟩⟩
            · simp only [upd_n _ _ e, upd_n _ _ (show 3 * j ≠ 3 * n + 2 by omega), upd_n _ _ (show 3 * j ≠ 3 * n + 1 by omega), upd_n _ _ (show 3 * j ≠ 3 * n by omega), upd_n _ _ (show 3 * j + 1 ≠ 3 * n + 2 by omega), upd_n _ _ (show 3 * j + 1 ≠ 3 * n + 1 by omega), upd_n _ _ (show 3 * j + 1 ≠ 3 * n by omega), upd_n _ _ (show 3 * j + 2 ≠ 3 * n + 2 by omega), upd_n _ _ (show 3 * j + 2 ≠ 3 * n + 1 by omega), upd_n _ _ (show 3 * j + 2 ≠ 3 * n by omega)]
              exact hj j (by omega)
      · simp only [if_neg c3]
        exact ⟨_, _, _, _, _, _, _, rfl, rfl, h0⟩
    · simp only [if_neg c2]
      exact ⟨_, _, _, _, _, _, _, rfl, rfl, h0⟩
  · simp only [if_neg c1]
    exact ⟨_, _, _, _, _, _, _, rfl, rfl, h0⟩
theorem op_rule (a1 : Int32) {i : Nat} (hi : i < 512) {st : Nat → Int32} {arms strokes hand step : Int32} {kind slack place turn way stroke : Nat → Int32} (hN : RN i st arms strokes hand step kind slack place turn way stroke) : ∃ qr : Int32, fX4_rule a1 arms strokes hand step place stroke = some qr ∧ fX5_rule a1 st = some qr := by
  obtain ⟨na, ns, nt, rfl, rfl, rfl, hnt, g⟩ := hN
  obtain ⟨he1, he2, -⟩ := err_sim (by omega) (by omega) (by decide) g
  rw [nI_0] at he1
  obtain ⟨g1, g2, g3, g4, g5, g6, g7, g8, g9, g10⟩ := g
  simp only [Nat.zero_add] at g3 g4 g5 g6 g7 g10
  have c20 : xin (20 : Int32) 240 := by decide
  have c37 : xin (37 : Int32) 240 := by decide
  have c38 : xin (38 : Int32) 240 := by decide
  have c39 : xin (39 : Int32) 240 := by decide
  unfold fX4_rule fX5_rule
  simp only [chk_pos c20, chk_pos c37, chk_pos c38, chk_pos c39, cl_20, cl_37, cl_38, cl_39, bnd_s, g3, g4, g5, ← g6, he1, he2, cl1_s]
  by_cases k0 : a1 = 0
  · simp only [if_pos k0]; exact ⟨_, rfl, rfl⟩
  by_cases k1 : a1 = 1
  · simp only [if_neg k0, if_pos k1]; exact ⟨_, rfl, rfl⟩
  by_cases k2 : a1 = 2
  · simp only [if_neg k0, if_neg k1, if_pos k2]; exact ⟨_, rfl, rfl⟩
  by_cases k3 : a1 = 3
  · simp only [if_neg k0, if_neg k1, if_neg k2, if_pos k3]; exact ⟨_, rfl, rfl⟩
  by_cases k4 : a1 = 4
  · simp only [if_neg k0, if_neg k1, if_neg k2, if_neg k3, if_pos k4]; exact ⟨_, rfl, rfl⟩
  by_cases k5 : a1 = 5
  · simp only [if_neg k0, if_neg k1, if_neg k2, if_neg k3, if_neg k4, if_pos k5]
    by_cases hs : ns = 0
    · subst hs
      rw [if_pos nI_0, if_pos nI_0]
      exact ⟨_, rfl, rfl⟩
    · have hs0 : 0 < ns := by omega
      have hne : ¬ nI ns = 0 := fun q => hs ((nI_eq (by omega) (by decide)).mp (q.trans nI_0.symm))
      have hm : nt % ns < ns := Nat.mod_lt _ hs0
      unfold fX0_strokeInTurn
      rw [if_neg hne, if_neg hne, if_neg hne, chk_pos hne, chk_pos hne, cl1_s, pk_rem (by omega) hs0 (by omega), chk_pos (xin_nI (by omega) (by omega)), cN (by omega), show (21 : Int32) = nI 21 from rfl, nI_add, chk_pos (xin_nI (by omega) (by omega)), cN (by omega), (g10 _ hm).1]
      exact ⟨_, rfl, rfl⟩
  · simp only [if_neg k0, if_neg k1, if_neg k2, if_neg k3, if_neg k4, if_neg k5]; exact ⟨_, rfl, rfl⟩
theorem op_stroke (a1 : Int32) {i : Nat} {st : Nat → Int32} {arms strokes hand step : Int32} {kind slack place turn way stroke : Nat → Int32} (hN : RN i st arms strokes hand step kind slack place turn way stroke) : ∃ qr : Int32, fX4_stroke a1 strokes stroke = some qr ∧ fX5_stroke a1 st = some qr := by
  obtain ⟨na, ns, nt, rfl, rfl, rfl, hnt, g⟩ := hN
  obtain ⟨g1, g2, g3, g4, g5, g6, g7, g8, g9, g10⟩ := g
  simp only [Nat.zero_add] at g4 g10
  unfold fX4_stroke fX5_stroke
  rw [is_eq, gate, ms_eq, g4, gate]
  by_cases c : 0 ≤ a1 ∧ a1 ≤ nI ns - 1
  · simp only [if_pos c]
    obtain ⟨k, hk, rfl⟩ := of_idx (by omega) c.1 c.2
    rw [chk_pos (xin_nI (by omega) (by omega)), cN (by omega), show (21 : Int32) = nI 21 from rfl, nI_add, chk_pos (xin_nI (by omega) (by omega)), cN (by omega), (g10 k hk).1]
    exact ⟨_, rfl, rfl⟩
  · simp only [if_neg c]
    exact ⟨_, rfl, rfl⟩
theorem op_arm (a1 a2 : Int32) {i : Nat} {st : Nat → Int32} {arms strokes hand step : Int32} {kind slack place turn way stroke : Nat → Int32} (hN : RN i st arms strokes hand step kind slack place turn way stroke) : ∃ qr : Int32, fX4_arm a1 a2 arms kind slack place turn way = some qr ∧ fX5_arm a1 a2 st = some qr := by
  obtain ⟨na, ns, nt, rfl, rfl, rfl, hnt, g⟩ := hN
  obtain ⟨g1, g2, g3, g4, g5, g6, g7, g8, g9, g10⟩ := g
  have h20 : st 20 = nI na := by have := g3; rw [Nat.zero_add] at this; exact this
  unfold fX4_arm fX5_arm
  rw [ia_eq, gate, ma_eq, h20, gate, in_eq a2 0 5 0 5 rfl rfl, gate]
  by_cases c : 0 ≤ a1 ∧ a1 ≤ nI na - 1
  · simp only [if_pos c]
    obtain ⟨k, hk, rfl⟩ := of_idx (by omega) c.1 c.2
    obtain ⟨q1, q2, q3, q4, q5⟩ := g9 k hk
    have hp := play_r (b := 0) (a := k) (by omega) (by omega) st
    rw [nI_0] at hp
    have e0 : (0 : Int32).toInt = 0 := rfl
    have e1 : (1 : Int32).toInt = 1 := rfl
    have e2 : (2 : Int32).toInt = 2 := rfl
    have e3 : (3 : Int32).toInt = 3 := rfl
    have e4 : (4 : Int32).toInt = 4 := rfl
    have e5 : (5 : Int32).toInt = 5 := rfl
    rw [play_c (by omega), hp]
    simp only [chk_pos (xin_nI (show k < 4 by omega) (show k < 2 ^ 31 by omega)), cN (show k < 1000000 by omega), cl1_s, q1, q2, q3, q4, q5]
    unfold fX5_arm_L46
    by_cases k0 : a2 = 0
    · subst k0
      rw [show (4 : Int32) * 0 + nI k = nI k from by rw [show (4 : Int32) * 0 = 0 from by decide, Int32.zero_add], chk_pos (xin_nI (by omega) (by omega)), cN (by omega)]
      exact ⟨_, rfl, by simp only [Nat.zero_add]; rfl⟩
    by_cases k1 : a2 = 1
    · subst k1
      rw [show (4 : Int32) * 1 + nI k = nI (4 + k) from by rw [show (4 : Int32) * 1 = nI 4 from by decide, nI_add], chk_pos (xin_nI (by omega) (by omega)), cN (by omega)]
      exact ⟨_, rfl, by simp only [Nat.zero_add]; rfl⟩
    by_cases k2 : a2 = 2
    · subst k2
      rw [show (4 : Int32) * 2 + nI k = nI (8 + k) from by rw [show (4 : Int32) * 2 = nI 8 from by decide, nI_add], chk_pos (xin_nI (by omega) (by omega)), cN (by omega)]
      exact ⟨_, rfl, by simp only [Nat.zero_add]; rfl⟩
    by_cases k3 : a2 = 3
    · subst k3
      rw [show (4 : Int32) * 3 + nI k = nI (12 + k) from by rw [show (4 : Int32) * 3 = nI 12 from by decide, nI_add], chk_pos (xin_nI (by omega) (by omega)), cN (by omega)]
      exact ⟨_, rfl, by simp only [Nat.zero_add]; rfl⟩
    by_cases k4 : a2 = 4
    · subst k4
      rw [show (4 : Int32) * 4 + nI k = nI (16 + k) from by rw [show (4 : Int32) * 4 = nI 16 from by decide, nI_add], chk_pos (xin_nI (by omega) (by omega)), cN (by omega)]
      exact ⟨_, rfl, by simp only [Nat.zero_add]; rfl⟩
    by_cases k5 : a2 = 5
    · subst k5
      exact ⟨_, rfl, by simp only [Nat.zero_add]; rfl⟩
    · simp only [if_neg k0, if_neg k1, if_neg k2, if_neg k3, if_neg k4, if_neg k5]
      rw [if_neg (fun q => by
        have r1 := i_le.mp q.1
        have r2 := i_le.mp q.2
        have := n_eq k0; have := n_eq k1; have := n_eq k2; have := n_eq k3; have := n_eq k4; have := n_eq k5
        omega)]
      exact ⟨_, rfl, rfl⟩
  · simp only [if_neg c]
    exact ⟨_, rfl, rfl⟩
