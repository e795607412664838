-- keep, back, sheet, lay
theorem z0 : (0 : Int32).toNatClampNeg = 0 := by decide
theorem z1 : (1 : Int32).toNatClampNeg = 1 := by decide
theorem x02 : xin (0 : Int32) 2 := by decide
theorem x12 : xin (1 : Int32) 2 := by decide
theorem x39 : xin (39 : Int32) 240 := by decide
theorem vb1 : vp_nar .boolean 1 = 1 := by decide
theorem RN.frb {i : Nat} {st st' : Nat → Int32} {arms strokes hand step : Int32} {kind slack place turn way stroke : Nat → Int32} (h : RN i st arms strokes hand step kind slack place turn way stroke) (hf : ∀ j, j < 40 → st' j = st j) : RN (i + 1) st' arms strokes hand step kind slack place turn way stroke := by
  obtain ⟨na, ns, nt, h1, h2, h3, h4, g⟩ := h
  exact ⟨na, ns, nt, h1, h2, h3, h4, (g.up (by omega)).page (fun j hj => hf _ (by omega))⟩
theorem RI.frb {i b : Nat} {kp : Int32} {st st' : Nat → Int32} {arms strokes hand step : Int32} {kind slack place turn way stroke : Nat → Int32} (h : RI i b kp st arms strokes hand step kind slack place turn way stroke) (hf : ∀ j, j < 40 → st' (b + j) = st (b + j)) : RI (i + 1) b kp st' arms strokes hand step kind slack place turn way stroke := by
  rcases h with h | ⟨h, na, ns, nt, h1, h2, h3, h4, g⟩
  · exact Or.inl h
  · exact Or.inr ⟨h, na, ns, nt, h1, h2, h3, h4, (g.up (by omega)).page hf⟩
section OPk
variable {i : Nat} {st : Nat → Int32} {arms strokes hand step : Int32} {kind slack place turn way stroke : Nat → Int32}
variable {kept isKept : Nat → Int32} {ia is ih ip : Int32} {iK iS iP iT iW iR : Nat → Int32} {ja js jh jp : Int32} {jK jS jP jT jW jR : Nat → Int32}
theorem op_keep (a1 it iv jt jv : Int32) (hN : RN i st arms strokes hand step kind slack place turn way stroke) (hI0 : RI i 40 (kept 0) st ia is ih ip iK iS iP iT iW iR) (hI1 : RI i 80 (kept 1) st ja js jh jp jK jS jP jT jW jR) (hK : RK kept isKept) :
    ∃ (qr : Int32) (kept' : Nat → Int32) (ia' is' ih' ip' it' iv' : Int32) (iK' iS' iP' iT' iW' iR' : Nat → Int32) (ja' js' jh' jp' jt' jv' : Int32) (jK' jS' jP' jT' jW' jR' : Nat → Int32) (st' isKept' : Nat → Int32), fX4_keep a1 kept arms strokes hand step kind slack place turn way stroke ia is ih ip it iv iK iS iP iT iW iR ja js jh jp jt jv jK jS jP jT jW jR = some (qr, kept', ia', is', ih', ip', it', iv', iK', iS', iP', iT', iW', iR', ja', js', jh', jp', jt', jv', jK', jS', jP', jT', jW', jR') ∧ fX5_keep a1 st isKept = some (qr, st', isKept') ∧ RN (i + 1) st' arms strokes hand step kind slack place turn way stroke ∧ RI (i + 1) 40 (kept' 0) st' ia' is' ih' ip' iK' iS' iP' iT' iW' iR' ∧ RI (i + 1) 80 (kept' 1) st' ja' js' jh' jp' jK' jS' jP' jT' jW' jR' ∧ RK kept' isKept' := by
  have hN0 := hN
  obtain ⟨na, ns, nt, rfl, rfl, rfl, hnt, g⟩ := hN
  unfold fX4_keep fX5_keep
  rw [w_eq, gate, in_eq a1 0 1 0 1 rfl rfl, gate]
  by_cases c : 0 ≤ a1 ∧ a1 ≤ 1
  · simp only [if_pos c]
    rcases of1 c with rfl | rfl
    · rw [show (40 : Int32) * (0 + 1) = nI 40 from by decide]
      have hc : fX5_copies 0 (nI 40) st = _ := copies_r (f := 0) (t := 40) (by decide) (by decide) (by decide) st
      obtain ⟨K', S', P', T', W', R', e1, g1⟩ := copy_GR g ia is ih ip it iv iK iS iP iT iW iR
      rw [hc, cl1_s]
      unfold fX4_keep_L25 fX5_keep_L37
      simp only [chk_pos x02, z0, hK.1, vb1, bnd_s]
      rw [if_pos trivial, if_pos trivial, cl12_mk e1, cl12_mk e1]
      have hR : RK (upd kept 0 1) (upd isKept 0 1) := ⟨by rw [upd_s, upd_s], by rw [upd_n _ _ (by decide), upd_n _ _ (by decide)]; exact hK.2⟩
      have hA : RN (i + 1) (cpv 0 40 40 st) (nI na) (nI ns) hand (nI nt) kind slack place turn way stroke := hN0.frb (fun j hj => cpv_out (by omega))
      have hB : RI (i + 1) 40 (upd kept 0 1 0) (cpv 0 40 40 st) (nI na) (nI ns) hand (nI nt) K' S' P' T' W' R' := Or.inr ⟨upd_s _ _ _, na, ns, nt, rfl, rfl, rfl, hnt, (g1.up (by omega)).cp 40⟩
      have hC : RI (i + 1) 80 (upd kept 0 1 1) (cpv 0 40 40 st) ja js jh jp jK jS jP jT jW jR := by
        rw [upd_n _ _ (by decide)]
        exact hI1.frb (fun j hj => cpv_out (by omega))
      split
      · exact ⟨_, _, _, _, _, _, _, _, _, _, _, _, _, _, _, _, _, _, _, _, _, _, _, _, _, _, _, _, rfl, rfl, hA, hB, hC, hR⟩
      · exact ⟨_, _, _, _, _, _, _, _, _, _, _, _, _, _, _, _, _, _, _, _, _, _, _, _, _, _, _, _, rfl, rfl, hA, hB, hC, hR⟩
    · rw [show (40 : Int32) * (1 + 1) = nI 80 from by decide]
      have hc : fX5_copies 0 (nI 80) st = _ := copies_r (f := 0) (t := 80) (by decide) (by decide) (by decide) st
      obtain ⟨K', S', P', T', W', R', e1, g1⟩ := copy_GR g ja js jh jp jt jv jK jS jP jT jW jR
      rw [hc, cl1_s]
      unfold fX4_keep_L25 fX5_keep_L37
      simp only [chk_pos x12, z1, hK.2, vb1, bnd_s]
      rw [if_neg d10, if_pos trivial, if_neg d10, if_pos trivial, cl12_mk e1, cl12_mk e1]
      have hR : RK (upd kept 1 1) (upd isKept 1 1) := ⟨by rw [upd_n _ _ (by decide), upd_n _ _ (by decide)]; exact hK.1, by rw [upd_s, upd_s]⟩
      have hA : RN (i + 1) (cpv 0 80 40 st) (nI na) (nI ns) hand (nI nt) kind slack place turn way stroke := hN0.frb (fun j hj => cpv_out (by omega))
      have hB : RI (i + 1) 80 (upd kept 1 1 1) (cpv 0 80 40 st) (nI na) (nI ns) hand (nI nt) K' S' P' T' W' R' := Or.inr ⟨upd_s _ _ _, na, ns, nt, rfl, rfl, rfl, hnt, (g1.up (by omega)).cp 80⟩
      have hC : RI (i + 1) 40 (upd kept 1 1 0) (cpv 0 80 40 st) ia is ih ip iK iS iP iT iW iR := by
        rw [upd_n _ _ (by decide)]
        exact hI0.frb (fun j hj => cpv_out (by omega))
      split
      · exact ⟨_, _, _, _, _, _, _, _, _, _, _, _, _, _, _, _, _, _, _, _, _, _, _, _, _, _, _, _, rfl, rfl, hA, hC, hB, hR⟩
      · exact ⟨_, _, _, _, _, _, _, _, _, _, _, _, _, _, _, _, _, _, _, _, _, _, _, _, _, _, _, _, rfl, rfl, hA, hC, hB, hR⟩
  · simp only [if_neg c]
    exact ⟨_, _, _, _, _, _, _, _, _, _, _, _, _, _, _, _, _, _, _, _, _, _, _, _, _, _, _, _, rfl, rfl, hN0.up, hI0.fr (by decide) FrL.rf.I, hI1.fr (by decide) FrL.rf.I, hK⟩
theorem op_back (a1 tv rv : Int32) (hN : RN i st arms strokes hand step kind slack place turn way stroke) (hI0 : RI i 40 (kept 0) st ia is ih ip iK iS iP iT iW iR) (hI1 : RI i 80 (kept 1) st ja js jh jp jK jS jP jT jW jR) (hK : RK kept isKept) :
    ∃ (qr arms' strokes' hand' step' tv' rv' : Int32) (kind' slack' place' turn' way' stroke' st' : Nat → Int32), fX4_back a1 kept arms strokes hand step tv rv kind slack place turn way stroke ia is ih ip iK iS iP iT iW iR ja js jh jp jK jS jP jT jW jR = some (qr, arms', strokes', hand', step', tv', rv', kind', slack', place', turn', way', stroke') ∧ fX5_back a1 st isKept = some (qr, st') ∧ RN (i + 1) st' arms' strokes' hand' step' kind' slack' place' turn' way' stroke' ∧ FrI st st' := by
  unfold fX4_back fX5_back
  rw [w_eq, gate, in_eq a1 0 1 0 1 rfl rfl, gate]
  by_cases c : 0 ≤ a1 ∧ a1 ≤ 1
  · simp only [if_pos c]
    rcases of1 c with rfl | rfl
    · simp only [chk_pos x02, z0, hK.1]
      rcases hI0 with h | ⟨h, na, ns, nt, rfl, rfl, rfl, hnt, g⟩
      · rw [if_pos h, if_pos h]
        exact ⟨_, _, _, _, _, _, _, _, _, _, _, _, _, _, rfl, rfl, hN.up, fun _ _ _ => rfl⟩
      · rw [h, if_neg d10, if_neg d10, if_pos trivial, show (40 : Int32) * (0 + 1) = nI 40 from by decide]
        have hc : fX5_copies (nI 40) 0 st = _ := copies_r (f := 40) (t := 0) (by decide) (by decide) (by decide) st
        obtain ⟨K', S', P', T', W', R', e1, g1⟩ := copy_GR g arms strokes hand step tv rv kind slack place turn way stroke
        have g2 := (g1.up (show 900 * (i : Int) ≤ 900 * ((i + 1 : Nat) : Int) by omega)).cp 0
        have e39 : cpv 40 0 40 st 39 = nI nt := by have := g2.2.2.2.2.1; rw [Nat.zero_add] at this; exact this
        rw [hc, cl1_s, cl12_mk e1, chk_pos x39, cl_39, e39]
        exact ⟨_, _, _, _, _, _, _, _, _, _, _, _, _, _, rfl, rfl, ⟨na, ns, nt, rfl, rfl, rfl, hnt, g2⟩, fun j h1 h2 => cpv_out (by omega)⟩
    · simp only [chk_pos x12, z1, hK.2]
      rcases hI1 with h | ⟨h, na, ns, nt, rfl, rfl, rfl, hnt, g⟩
      · rw [if_pos h, if_pos h]
        exact ⟨_, _, _, _, _, _, _, _, _, _, _, _, _, _, rfl, rfl, hN.up, fun _ _ _ => rfl⟩
      · rw [h, if_neg d10, if_neg d10, if_neg d10, if_pos trivial, show (40 : Int32) * (1 + 1) = nI 80 from by decide]
        have hc : fX5_copies (nI 80) 0 st = _ := copies_r (f := 80) (t := 0) (by decide) (by decide) (by decide) st
        obtain ⟨K', S', P', T', W', R', e1, g1⟩ := copy_GR g arms strokes hand step tv rv kind slack place turn way stroke
        have g2 := (g1.up (show 900 * (i : Int) ≤ 900 * ((i + 1 : Nat) : Int) by omega)).cp 0
        have e39 : cpv 80 0 40 st 39 = nI nt := by have := g2.2.2.2.2.1; rw [Nat.zero_add] at this; exact this
        rw [hc, cl1_s, cl12_mk e1, chk_pos x39, cl_39, e39]
        exact ⟨_, _, _, _, _, _, _, _, _, _, _, _, _, _, rfl, rfl, ⟨na, ns, nt, rfl, rfl, rfl, hnt, g2⟩, fun j h1 h2 => cpv_out (by omega)⟩
  · simp only [if_neg c]
    exact ⟨_, _, _, _, _, _, _, _, _, _, _, _, _, _, rfl, rfl, hN.up, fun _ _ _ => rfl⟩
end OPk
section OPh
variable {lanes lengths rc : Nat → Int32} {l0 s0 : Int32} {c0 : Nat → Int32} {l1 s1 : Int32} {c1 : Nat → Int32} {l2 s2 : Int32} {c2 : Nat → Int32} {l3 s3 : Int32} {c3 : Nat → Int32}
theorem RH.oth {k k' : Nat} {l s : Int32} {c lanes' lengths' rc' : Nat → Int32} (h : RH k l s c lanes lengths rc) (h1 : lanes' k = lanes k) (h2 : lengths' k = lengths k) (h3 : ∀ j, j < 40 → rc' (40 * k + j) = rc (40 * k + j)) : RH k l s c lanes' lengths' rc' := by
  rcases h with ⟨q1, q2⟩ | ⟨m, hm, q1, q2, q3, q4, q5⟩
  · exact Or.inl ⟨q1, h1.trans q2⟩
  · exact Or.inr ⟨m, hm, q1, h2.trans q2, q3.trans h1.symm, q4, fun j hj => (q5 j hj).trans (h3 j (by omega)).symm⟩
theorem renew_c {m : Nat} (hm : m ≤ 40) (l sz : Int32) : ∀ (k i n : Nat) (c : Nat → Int32), i + k = m → k < n → (∀ j, j < i → c j = 0) → ∃ c' : Nat → Int32, fX1_renew_L12 n (nI m) (nI i) l sz c = some (l, sz, c') ∧ ∀ j, j < m → c' j = 0 := by
  intro k
  induction k with
  | zero =>
    intro i n c hi hn hj
    obtain ⟨n, rfl⟩ : ∃ z, n = z + 1 := ⟨n - 1, by omega⟩
    have e : i = m := by omega
    subst e
    refine ⟨c, ?_, hj⟩
    rw [fX1_renew_L12]
    rw [if_pos (Int32.le_refl _)]
  | succ k ih =>
    intro i n c hi hn hj
    obtain ⟨n, rfl⟩ : ∃ z, n = z + 1 := ⟨n - 1, by omega⟩
    obtain ⟨c', h1, h2⟩ := ih (i + 1) n (upd c i 0) (by omega) (by omega) (fun j h => by
      by_cases e : j = i
      · subst e; rw [upd_s]
      · rw [upd_n _ _ e]; exact hj j (by omega))
    refine ⟨c', ?_, h2⟩
    rw [fX1_renew_L12]
    rw [if_neg (fun q => by have := (nI_leI (by omega) (by omega)).mp q; omega), chk_pos (xin_nI (by omega) (by omega)), bnd_s, bnd_s, nI_1, cN (by omega)]
    exact h1
theorem sheet_r {k0 : Nat} (hk0 : k0 < 4) (lanes lengths : Nat → Int32) : ∀ (k i n : Nat) (c : Nat → Int32), i + k = 40 → k < n → (∀ j, j < i → c (40 * k0 + j) = 0) → ∃ c' : Nat → Int32, fX5_sheet_L56 n (nI k0) (nI i) lanes lengths c = some (1, lanes, lengths, c') ∧ (∀ j, j < 40 → c' (40 * k0 + j) = 0) ∧ ∀ j, (j < 40 * k0 ∨ 40 * k0 + 40 ≤ j) → c' j = c j := by
  intro k
  induction k with
  | zero =>
    intro i n c hi hn hj
    obtain ⟨n, rfl⟩ : ∃ z, n = z + 1 := ⟨n - 1, by omega⟩
    have e : i = 40 := by omega
    subst e
    refine ⟨c, ?_, hj, fun _ _ => rfl⟩
    rw [fX5_sheet_L56]
    rw [if_pos (show (40 : Int32) ≤ nI 40 from Int32.le_refl _)]
  | succ k ih =>
    intro i n c hi hn hj
    obtain ⟨n, rfl⟩ : ∃ z, n = z + 1 := ⟨n - 1, by omega⟩
    obtain ⟨c', h1, h2, h3⟩ := ih (i + 1) n (upd c (40 * k0 + i) 0) (by omega) (by omega) (fun j h => by
      by_cases e : j = i
      · subst e; rw [upd_s]
      · rw [upd_n _ _ (by omega)]; exact hj j (by omega))
    refine ⟨c', ?_, h2, fun j hj => by rw [h3 j hj, upd_n _ _ (by omega)]⟩
    rw [fX5_sheet_L56]
    rw [if_neg (show ¬ (40 : Int32) ≤ nI i from fun q => by have := (nI_leI (a := 40) (by omega) (by omega)).mp q; omega), show (40 : Int32) * nI k0 = nI (40 * k0) from pk_mul 40 k0, nI_add, chk_pos (xin_nI (by omega) (by omega)), bnd_s, bnd_s, nI_1, cN (by omega)]
    exact h1
theorem op_sheet (a1 a2 a3 : Int32) (h0 : RH 0 l0 s0 c0 lanes lengths rc) (h1 : RH 1 l1 s1 c1 lanes lengths rc) (h2 : RH 2 l2 s2 c2 lanes lengths rc) (h3 : RH 3 l3 s3 c3 lanes lengths rc) : ∃ (qr l0' s0' : Int32) (c0' : Nat → Int32) (l1' s1' : Int32) (c1' : Nat → Int32) (l2' s2' : Int32) (c2' : Nat → Int32) (l3' s3' : Int32) (c3' lanes' lengths' rc' : Nat → Int32), fX4_sheet a1 a2 a3 l0 s0 c0 l1 s1 c1 l2 s2 c2 l3 s3 c3 = some (qr, l0', s0', c0', l1', s1', c1', l2', s2', c2', l3', s3', c3') ∧ fX5_sheet a1 a2 a3 lanes lengths rc = some (qr, lanes', lengths', rc') ∧ RH 0 l0' s0' c0' lanes' lengths' rc' ∧ RH 1 l1' s1' c1' lanes' lengths' rc' ∧ RH 2 l2' s2' c2' lanes' lengths' rc' ∧ RH 3 l3' s3' c3' lanes' lengths' rc' := by
  unfold fX4_sheet fX5_sheet
  rw [sh_eq, gate, w_eq, gate, in_eq a1 0 3 0 3 rfl rfl, gate, in_eq a2 0 2 0 2 rfl rfl, gate]
  by_cases u1 : 0 ≤ a1 ∧ a1 ≤ 3
  · simp only [if_pos u1]
    by_cases u2 : 0 ≤ a2 ∧ a2 ≤ 2
    · simp only [if_pos u2]
      by_cases u3 : a3 ≤ 40
      · simp only [if_pos u3]
        by_cases u4 : 0 ≤ a3
        · simp only [if_pos u4]
          obtain ⟨m, hm, rfl⟩ := of_rng u4 u3 (n := 40) rfl
          have hl := of2 u2
          rcases of3 u1 with rfl | rfl | rfl | rfl
          · obtain ⟨c', f0, f1⟩ := renew_c hm a2 (nI m) m 0 xF c0 (by omega) (by show m < 1000; omega) (fun j h => absurd h (by omega))
            obtain ⟨rc', f2, f3, f4⟩ := sheet_r (k0 := 0) (by decide) (upd lanes 0 a2) (upd lengths 0 (nI m)) 40 0 xF rc (by omega) (by decide) (fun j h => absurd h (by omega))
            rw [nI_0] at f0 f2
            have f0' : fX1_renew a2 (nI m) l0 s0 c0 = _ := f0
            have f2' : fX5_sheet_L56 xF (0 : Int32) 0 (upd lanes 0 a2) (upd lengths 0 (nI m)) rc = _ := f2
            have cz : (0 : Int32).toNatClampNeg = 0 := by decide
            have cx : xin (0 : Int32) 4 := by decide
            rw [chk_pos cx, chk_pos cx, bnd_s, chk_pos cx, bnd_s, cz, f2', if_pos rfl, cl3_mk f0']
            exact ⟨_, _, _, _, _, _, _, _, _, _, _, _, _, _, _, _, rfl, rfl, Or.inr ⟨m, hm, rfl, upd_s _ _ _, (upd_s _ _ _).symm, hl, fun j hj => (f1 j hj).trans (f3 j (by omega)).symm⟩, h1.oth (k' := 0) (upd_n _ _ (by decide)) (upd_n _ _ (by decide)) (fun j hj => f4 _ (by omega)), h2.oth (k' := 0) (upd_n _ _ (by decide)) (upd_n _ _ (by decide)) (fun j hj => f4 _ (by omega)), h3.oth (k' := 0) (upd_n _ _ (by decide)) (upd_n _ _ (by decide)) (fun j hj => f4 _ (by omega))⟩
          · obtain ⟨c', f0, f1⟩ := renew_c hm a2 (nI m) m 0 xF c1 (by omega) (by show m < 1000; omega) (fun j h => absurd h (by omega))
            obtain ⟨rc', f2, f3, f4⟩ := sheet_r (k0 := 1) (by decide) (upd lanes 1 a2) (upd lengths 1 (nI m)) 40 0 xF rc (by omega) (by decide) (fun j h => absurd h (by omega))
            rw [nI_0] at f0 f2
            have f0' : fX1_renew a2 (nI m) l1 s1 c1 = _ := f0
            have f2' : fX5_sheet_L56 xF (1 : Int32) 0 (upd lanes 1 a2) (upd lengths 1 (nI m)) rc = _ := f2
            have cz : (1 : Int32).toNatClampNeg = 1 := by decide
            have cx : xin (1 : Int32) 4 := by decide
            rw [chk_pos cx, chk_pos cx, bnd_s, chk_pos cx, bnd_s, cz, f2', if_neg (show ¬ (1 : Int32) = 0 by decide), if_pos rfl, cl3_mk f0']
            exact ⟨_, _, _, _, _, _, _, _, _, _, _, _, _, _, _, _, rfl, rfl, h0.oth (k' := 1) (upd_n _ _ (by decide)) (upd_n _ _ (by decide)) (fun j hj => f4 _ (by omega)), Or.inr ⟨m, hm, rfl, upd_s _ _ _, (upd_s _ _ _).symm, hl, fun j hj => (f1 j hj).trans (f3 j (by omega)).symm⟩, h2.oth (k' := 1) (upd_n _ _ (by decide)) (upd_n _ _ (by decide)) (fun j hj => f4 _ (by omega)), h3.oth (k' := 1) (upd_n _ _ (by decide)) (upd_n _ _ (by decide)) (fun j hj => f4 _ (by omega))⟩
          · obtain ⟨c', f0, f1⟩ := renew_c hm a2 (nI m) m 0 xF c2 (by omega) (by show m < 1000; omega) (fun j h => absurd h (by omega))
            obtain ⟨rc', f2, f3, f4⟩ := sheet_r (k0 := 2) (by decide) (upd lanes 2 a2) (upd lengths 2 (nI m)) 40 0 xF rc (by omega) (by decide) (fun j h => absurd h (by omega))
            rw [nI_0] at f0 f2
            have f0' : fX1_renew a2 (nI m) l2 s2 c2 = _ := f0
            have f2' : fX5_sheet_L56 xF (2 : Int32) 0 (upd lanes 2 a2) (upd lengths 2 (nI m)) rc = _ := f2
            have cz : (2 : Int32).toNatClampNeg = 2 := by decide
            have cx : xin (2 : Int32) 4 := by decide
            rw [chk_pos cx, chk_pos cx, bnd_s, chk_pos cx, bnd_s, cz, f2', if_neg (show ¬ (2 : Int32) = 0 by decide), if_neg (show ¬ (2 : Int32) = 1 by decide), if_pos rfl, cl3_mk f0']
            exact ⟨_, _, _, _, _, _, _, _, _, _, _, _, _, _, _, _, rfl, rfl, h0.oth (k' := 2) (upd_n _ _ (by decide)) (upd_n _ _ (by decide)) (fun j hj => f4 _ (by omega)), h1.oth (k' := 2) (upd_n _ _ (by decide)) (upd_n _ _ (by decide)) (fun j hj => f4 _ (by omega)), Or.inr ⟨m, hm, rfl, upd_s _ _ _, (upd_s _ _ _).symm, hl, fun j hj => (f1 j hj).trans (f3 j (by omega)).symm⟩, h3.oth (k' := 2) (upd_n _ _ (by decide)) (upd_n _ _ (by decide)) (fun j hj => f4 _ (by omega))⟩
          · obtain ⟨c', f0, f1⟩ := renew_c hm a2 (nI m) m 0 xF c3 (by omega) (by show m < 1000; omega) (fun j h => absurd h (by omega))
            obtain ⟨rc', f2, f3, f4⟩ := sheet_r (k0 := 3) (by decide) (upd lanes 3 a2) (upd lengths 3 (nI m)) 40 0 xF rc (by omega) (by decide) (fun j h => absurd h (by omega))
            rw [nI_0] at f0 f2
            have f0' : fX1_renew a2 (nI m) l3 s3 c3 = _ := f0
            have f2' : fX5_sheet_L56 xF (3 : Int32) 0 (upd lanes 3 a2) (upd lengths 3 (nI m)) rc = _ := f2
            have cz : (3 : Int32).toNatClampNeg = 3 := by decide
            have cx : xin (3 : Int32) 4 := by decide
            rw [chk_pos cx, chk_pos cx, bnd_s, chk_pos cx, bnd_s, cz, f2', if_neg (show ¬ (3 : Int32) = 0 by decide), if_neg (show ¬ (3 : Int32) = 1 by decide), if_neg (show ¬ (3 : Int32) = 2 by decide), if_pos rfl, cl3_mk f0']
            exact ⟨_, _, _, _, _, _, _, _, _, _, _, _, _, _, _, _, rfl, rfl, h0.oth (k' := 3) (upd_n _ _ (by decide)) (upd_n _ _ (by decide)) (fun j hj => f4 _ (by omega)), h1.oth (k' := 3) (upd_n _ _ (by decide)) (upd_n _ _ (by decide)) (fun j hj => f4 _ (by omega)), h2.oth (k' := 3) (upd_n _ _ (by decide)) (upd_n _ _ (by decide)) (fun j hj => f4 _ (by omega)), Or.inr ⟨m, hm, rfl, upd_s _ _ _, (upd_s _ _ _).symm, hl, fun j hj => (f1 j hj).trans (f3 j (by omega)).symm⟩⟩
        · simp only [if_neg u4]
          exact ⟨_, _, _, _, _, _, _, _, _, _, _, _, _, _, _, _, rfl, rfl, h0, h1, h2, h3⟩
      · simp only [if_neg u3]
        exact ⟨_, _, _, _, _, _, _, _, _, _, _, _, _, _, _, _, rfl, rfl, h0, h1, h2, h3⟩
    · simp only [if_neg u2]
      exact ⟨_, _, _, _, _, _, _, _, _, _, _, _, _, _, _, _, rfl, rfl, h0, h1, h2, h3⟩
  · simp only [if_neg u1]
    exact ⟨_, _, _, _, _, _, _, _, _, _, _, _, _, _, _, _, rfl, rfl, h0, h1, h2, h3⟩
theorem sx8 (x : Int32) : (x <<< ((24 : Int32) &&& 31)) >>> ((24 : Int32) &&& 31) = x.toInt8.toInt32 := by
  apply i_eq.mpr
  rw [pk_shr _ _ 24 (by decide), Int.shiftRight_eq_div_pow, Int8.toInt_toInt32, Int32.toInt_toInt8, Int.bmod_def]
  have h1 : (x <<< ((24 : Int32) &&& 31)).toInt = if 2 * (x <<< ((24 : Int32) &&& 31)).toBitVec.toNat < 2 ^ 32 then ((x <<< ((24 : Int32) &&& 31)).toBitVec.toNat : Int) else ((x <<< ((24 : Int32) &&& 31)).toBitVec.toNat : Int) - 2 ^ 32 := BitVec.toInt_eq_toNat_cond _
  have h2 : x.toInt = if 2 * x.toBitVec.toNat < 2 ^ 32 then (x.toBitVec.toNat : Int) else (x.toBitVec.toNat : Int) - 2 ^ 32 := BitVec.toInt_eq_toNat_cond _
  rw [pk_shl x _ 24 (by decide)] at h1
  rw [h1, h2]
  have h3 := x.toBitVec.isLt
  generalize x.toBitVec.toNat = A at *
  split <;> split <;> split <;> omega
theorem sx16 (x : Int32) : (x <<< ((16 : Int32) &&& 31)) >>> ((16 : Int32) &&& 31) = x.toInt16.toInt32 := by
  apply i_eq.mpr
  rw [pk_shr _ _ 16 (by decide), Int.shiftRight_eq_div_pow, Int16.toInt_toInt32, Int32.toInt_toInt16, Int.bmod_def]
  have h1 : (x <<< ((16 : Int32) &&& 31)).toInt = if 2 * (x <<< ((16 : Int32) &&& 31)).toBitVec.toNat < 2 ^ 32 then ((x <<< ((16 : Int32) &&& 31)).toBitVec.toNat : Int) else ((x <<< ((16 : Int32) &&& 31)).toBitVec.toNat : Int) - 2 ^ 32 := BitVec.toInt_eq_toNat_cond _
  have h2 : x.toInt = if 2 * x.toBitVec.toNat < 2 ^ 32 then (x.toBitVec.toNat : Int) else (x.toBitVec.toNat : Int) - 2 ^ 32 := BitVec.toInt_eq_toNat_cond _
  rw [pk_shl x _ 16 (by decide)] at h1
  rw [h1, h2]
  have h3 := x.toBitVec.isLt
  generalize x.toBitVec.toNat = A at *
  split <;> split <;> split <;> omega
def lanev (l v : Int32) : Int32 := if l = 0 then v.toInt8.toInt32 else if l = 1 then v.toInt16.toInt32 else v
theorem put_c {k : Nat} (hk : k < 40) (v l : Int32) (c : Nat → Int32) : fX1_put (nI k) v l c = some (upd c k (lanev l v)) := by
  unfold fX1_put lanev
  simp only [chk_pos (xin_nI (show k < 40 by omega) (show k < 2 ^ 31 by omega)), bnd_s, cN (show k < 1000000 by omega)]
  split
  · rfl
  · split <;> rfl
theorem RH.put {k p m : Nat} {l s v : Int32} {c : Nat → Int32} (hm : s = nI m) (hp : p < m) (h : RH k l s c lanes lengths rc) : RH k l s (upd c p v) lanes lengths (upd rc (40 * k + p) v) := by
  rcases h with ⟨q1, q2⟩ | ⟨m', hm', q1, q2, q3, q4, q5⟩
  · exact Or.inl ⟨q1, q2⟩
  · refine Or.inr ⟨m', hm', q1, q2, q3, q4, fun j hj => ?_⟩
    by_cases e : j = p
    · subst e; rw [upd_s, upd_s]
    · rw [upd_n _ _ e, upd_n _ _ (by omega)]; exact q5 j hj
theorem lay_r {k0 p : Nat} (hk : k0 < 4) (hp : p < 40) (v : Int32) : (if lanes k0 = 0 then bnd ((v <<< ((24 : Int32) &&& 31)) >>> ((24 : Int32) &&& 31)) (fun v19 => chk (xin (((40 : Int32) * nI k0) + nI p) 160) (bnd (upd rc (((40 : Int32) * nI k0) + nI p).toNatClampNeg v19) (fun f21 => some ((1 : Int32), f21)))) else chk (xin (nI k0) 4) (if lanes k0 = 1 then bnd ((v <<< ((16 : Int32) &&& 31)) >>> ((16 : Int32) &&& 31)) (fun v16 => chk (xin (((40 : Int32) * nI k0) + nI p) 160) (bnd (upd rc (((40 : Int32) * nI k0) + nI p).toNatClampNeg v16) (fun f18 => some ((1 : Int32), f18)))) else chk (xin (((40 : Int32) * nI k0) + nI p) 160) (bnd (upd rc (((40 : Int32) * nI k0) + nI p).toNatClampNeg v) (fun f15 => some ((1 : Int32), f15))))) = some ((1 : Int32), upd rc (40 * k0 + p) (lanev (lanes k0) v)) := by
  rw [show (40 : Int32) * nI k0 = nI (40 * k0) from pk_mul 40 k0, nI_add]
  unfold lanev
  simp only [chk_pos (xin_nI (show k0 < 4 by omega) (show k0 < 2 ^ 31 by omega)), chk_pos (xin_nI (show 40 * k0 + p < 160 by omega) (show 40 * k0 + p < 2 ^ 31 by omega)), bnd_s, cN (show 40 * k0 + p < 1000000 by omega), sx8, sx16]
  split
  · rfl
  · split <;> rfl
theorem op_lay (a1 a2 a3 : Int32) (h0 : RH 0 l0 s0 c0 lanes lengths rc) (h1 : RH 1 l1 s1 c1 lanes lengths rc) (h2 : RH 2 l2 s2 c2 lanes lengths rc) (h3 : RH 3 l3 s3 c3 lanes lengths rc) : ∃ (qr : Int32) (c0' c1' c2' c3' rc' : Nat → Int32), fX4_lay a1 a2 a3 l0 s0 c0 l1 s1 c1 l2 s2 c2 l3 s3 c3 = some (qr, c0', c1', c2', c3') ∧ fX5_lay a1 a2 a3 lanes lengths rc = some (qr, rc') ∧ RH 0 l0 s0 c0' lanes lengths rc' ∧ RH 1 l1 s1 c1' lanes lengths rc' ∧ RH 2 l2 s2 c2' lanes lengths rc' ∧ RH 3 l3 s3 c3' lanes lengths rc' := by
  unfold fX4_lay fX5_lay
  rw [sh_eq, gate, in_eq a1 0 3 0 3 rfl rfl, gate]
  by_cases u1 : 0 ≤ a1 ∧ a1 ≤ 3
  · simp only [if_pos u1]
    rcases of3 u1 with rfl | rfl | rfl | rfl
    · have cz : (0 : Int32).toNatClampNeg = 0 := by decide
      have cx : xin (0 : Int32) 4 := by decide
      rw [chk_pos cx, chk_pos cx, if_pos rfl, cz]
      unfold fX1_faultAt
      rcases h0 with ⟨q1, q2⟩ | ⟨m, hm, q1, q2, q3, q4, q5⟩
      · rw [if_pos q1, if_pos q2]
        exact ⟨_, _, _, _, _, _, rfl, rfl, Or.inl ⟨q1, q2⟩, h1, h2, h3⟩
      · have hh : RH 0 l0 s0 c0 lanes lengths rc := Or.inr ⟨m, hm, q1, q2, q3, q4, q5⟩
        rw [if_neg (show ¬ s0 = -1 by rw [q1]; exact nI_m1 (by omega)), if_neg (show ¬ lanes 0 = -4 by rw [← q3]; exact lane_n4 q4), q1, w_eq, gate, chk_pos cx, q2, in_eq a2 0 (nI m - 1) 0 _ rfl rfl, gate]
        by_cases u2 : 0 ≤ a2 ∧ a2 ≤ nI m - 1
        · simp only [if_pos u2]
          obtain ⟨p, hp, rfl⟩ := of_idx (by omega) u2.1 u2.2
          have hr := lay_r (lanes := lanes) (rc := rc) (k0 := 0) (by decide) (show p < 40 by omega) a3
          have hp := hh.put (v := lanev l0 a3) q1 hp
          rw [← q3] at hr
          rw [cl1_s, if_pos rfl, chk_pos cx, chk_pos cx, if_pos trivial, put_c (by omega), cl1_s, ← q3]
          refine ⟨_, _, _, _, _, _, rfl, hr, ?_⟩
          rw [← q1]
          exact ⟨hp, h1.oth (k' := 0) rfl rfl (fun j hj => upd_n _ _ (by omega)), h2.oth (k' := 0) rfl rfl (fun j hj => upd_n _ _ (by omega)), h3.oth (k' := 0) rfl rfl (fun j hj => upd_n _ _ (by omega))⟩
        · simp only [if_neg u2]
          rw [cl1_s, if_neg d20]
          rw [← q1]
          exact ⟨_, _, _, _, _, _, rfl, rfl, hh, h1, h2, h3⟩
    · have cz : (1 : Int32).toNatClampNeg = 1 := by decide
      have cx : xin (1 : Int32) 4 := by decide
      rw [chk_pos cx, chk_pos cx, if_neg (show ¬ (1 : Int32) = 0 by decide), if_pos rfl, cz]
      unfold fX1_faultAt
      rcases h1 with ⟨q1, q2⟩ | ⟨m, hm, q1, q2, q3, q4, q5⟩
      · rw [if_pos q1, if_pos q2]
        exact ⟨_, _, _, _, _, _, rfl, rfl, h0, Or.inl ⟨q1, q2⟩, h2, h3⟩
      · have hh : RH 1 l1 s1 c1 lanes lengths rc := Or.inr ⟨m, hm, q1, q2, q3, q4, q5⟩
        rw [if_neg (show ¬ s1 = -1 by rw [q1]; exact nI_m1 (by omega)), if_neg (show ¬ lanes 1 = -4 by rw [← q3]; exact lane_n4 q4), q1, w_eq, gate, chk_pos cx, q2, in_eq a2 0 (nI m - 1) 0 _ rfl rfl, gate]
        by_cases u2 : 0 ≤ a2 ∧ a2 ≤ nI m - 1
        · simp only [if_pos u2]
          obtain ⟨p, hp, rfl⟩ := of_idx (by omega) u2.1 u2.2
          have hr := lay_r (lanes := lanes) (rc := rc) (k0 := 1) (by decide) (show p < 40 by omega) a3
          have hp := hh.put (v := lanev l1 a3) q1 hp
          rw [← q3] at hr
          rw [cl1_s, if_pos rfl, chk_pos cx, chk_pos cx, if_neg (show ¬ (1 : Int32) = 0 by decide), if_pos trivial, put_c (by omega), cl1_s, ← q3]
          refine ⟨_, _, _, _, _, _, rfl, hr, ?_⟩
          rw [← q1]
          exact ⟨h0.oth (k' := 1) rfl rfl (fun j hj => upd_n _ _ (by omega)), hp, h2.oth (k' := 1) rfl rfl (fun j hj => upd_n _ _ (by omega)), h3.oth (k' := 1) rfl rfl (fun j hj => upd_n _ _ (by omega))⟩
        · simp only [if_neg u2]
          rw [cl1_s, if_neg d20]
          rw [← q1]
          exact ⟨_, _, _, _, _, _, rfl, rfl, h0, hh, h2, h3⟩
    · have cz : (2 : Int32).toNatClampNeg = 2 := by decide
      have cx : xin (2 : Int32) 4 := by decide
      rw [chk_pos cx, chk_pos cx, if_neg (show ¬ (2 : Int32) = 0 by decide), if_neg (show ¬ (2 : Int32) = 1 by decide), if_pos rfl, cz]
      unfold fX1_faultAt
      rcases h2 with ⟨q1, q2⟩ | ⟨m, hm, q1, q2, q3, q4, q5⟩
      · rw [if_pos q1, if_pos q2]
        exact ⟨_, _, _, _, _, _, rfl, rfl, h0, h1, Or.inl ⟨q1, q2⟩, h3⟩
      · have hh : RH 2 l2 s2 c2 lanes lengths rc := Or.inr ⟨m, hm, q1, q2, q3, q4, q5⟩
        rw [if_neg (show ¬ s2 = -1 by rw [q1]; exact nI_m1 (by omega)), if_neg (show ¬ lanes 2 = -4 by rw [← q3]; exact lane_n4 q4), q1, w_eq, gate, chk_pos cx, q2, in_eq a2 0 (nI m - 1) 0 _ rfl rfl, gate]
        by_cases u2 : 0 ≤ a2 ∧ a2 ≤ nI m - 1
        · simp only [if_pos u2]
          obtain ⟨p, hp, rfl⟩ := of_idx (by omega) u2.1 u2.2
          have hr := lay_r (lanes := lanes) (rc := rc) (k0 := 2) (by decide) (show p < 40 by omega) a3
          have hp := hh.put (v := lanev l2 a3) q1 hp
          rw [← q3] at hr
          rw [cl1_s, if_pos rfl, chk_pos cx, chk_pos cx, if_neg (show ¬ (2 : Int32) = 0 by decide), if_neg (show ¬ (2 : Int32) = 1 by decide), if_pos trivial, put_c (by omega), cl1_s, ← q3]
          refine ⟨_, _, _, _, _, _, rfl, hr, ?_⟩
          rw [← q1]
          exact ⟨h0.oth (k' := 2) rfl rfl (fun j hj => upd_n _ _ (by omega)), h1.oth (k' := 2) rfl rfl (fun j hj => upd_n _ _ (by omega)), hp, h3.oth (k' := 2) rfl rfl (fun j hj => upd_n _ _ (by omega))⟩
        · simp only [if_neg u2]
          rw [cl1_s, if_neg d20]
          rw [← q1]
          exact ⟨_, _, _, _, _, _, rfl, rfl, h0, h1, hh, h3⟩
    · have cz : (3 : Int32).toNatClampNeg = 3 := by decide
      have cx : xin (3 : Int32) 4 := by decide
      rw [chk_pos cx, chk_pos cx, if_neg (show ¬ (3 : Int32) = 0 by decide), if_neg (show ¬ (3 : Int32) = 1 by decide), if_neg (show ¬ (3 : Int32) = 2 by decide), if_pos rfl, cz]
      unfold fX1_faultAt
      rcases h3 with ⟨q1, q2⟩ | ⟨m, hm, q1, q2, q3, q4, q5⟩
      · rw [if_pos q1, if_pos q2]
        exact ⟨_, _, _, _, _, _, rfl, rfl, h0, h1, h2, Or.inl ⟨q1, q2⟩⟩
      · have hh : RH 3 l3 s3 c3 lanes lengths rc := Or.inr ⟨m, hm, q1, q2, q3, q4, q5⟩
        rw [if_neg (show ¬ s3 = -1 by rw [q1]; exact nI_m1 (by omega)), if_neg (show ¬ lanes 3 = -4 by rw [← q3]; exact lane_n4 q4), q1, w_eq, gate, chk_pos cx, q2, in_eq a2 0 (nI m - 1) 0 _ rfl rfl, gate]
        by_cases u2 : 0 ≤ a2 ∧ a2 ≤ nI m - 1
        · simp only [if_pos u2]
          obtain ⟨p, hp, rfl⟩ := of_idx (by omega) u2.1 u2.2
          have hr := lay_r (lanes := lanes) (rc := rc) (k0 := 3) (by decide) (show p < 40 by omega) a3
          have hp := hh.put (v := lanev l3 a3) q1 hp
          rw [← q3] at hr
          rw [cl1_s, if_pos rfl, chk_pos cx, chk_pos cx, if_neg (show ¬ (3 : Int32) = 0 by decide), if_neg (show ¬ (3 : Int32) = 1 by decide), if_neg (show ¬ (3 : Int32) = 2 by decide), if_pos trivial, put_c (by omega), cl1_s, ← q3]
          refine ⟨_, _, _, _, _, _, rfl, hr, ?_⟩
          rw [← q1]
          exact ⟨h0.oth (k' := 3) rfl rfl (fun j hj => upd_n _ _ (by omega)), h1.oth (k' := 3) rfl rfl (fun j hj => upd_n _ _ (by omega)), h2.oth (k' := 3) rfl rfl (fun j hj => upd_n _ _ (by omega)), hp⟩
        · simp only [if_neg u2]
          rw [cl1_s, if_neg d20]
          rw [← q1]
          exact ⟨_, _, _, _, _, _, rfl, rfl, h0, h1, h2, hh⟩
  · simp only [if_neg u1]
    exact ⟨_, _, _, _, _, _, rfl, rfl, h0, h1, h2, h3⟩
end OPh
