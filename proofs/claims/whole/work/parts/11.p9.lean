-- keep, back, sheet, lay
theorem z0 : (0 : Int32).toNatClampNeg = 0 := by decide
theorem z1 : (1 : Int32).toNatClampNeg = 1 := by decide
theorem x02 : xin (0 : Int32) 2 := by decide
theorem x12 : xin (1 : Int32) 2 := by decide
theorem x39 : xin (39 : Int32) 240 := by decide
theorem vb1 : vp_nar .boolean 1 = 1 := by decide
theorem RN.frb {i : Nat} {st st' : Nat → Int32} {arms strokes hand step : Int32} {kind slack place turn way stroke : Nat → Int32} (h : RN i st arms strokes hand step kind slack place turn way stroke) (hf : ∀ j, j < 40 → st' j = st j) : RN (i + 1) st' arms strokes hand step kind slack place turn way stroke := by
  obtain ⟨na, ns, nt, h1, h2, h3, h4, g⟩ := h
  exact ⟨na, ns, nt, h1, h2, h3, h4, (g.up (by omega)).page (fun j hj => hf _ (by omega))⟩
theorem RI.frb {i b : Nat} {kp : Int32} {st st' : Nat → Int32} {arms strokes hand step : Int32} {kind slack place turn way stroke : Nat → Int32} (h : RI i b kp st arms strokes hand step kind slack place turn way stroke) (hf : ∀ j, j < 40 → st' (b + j) = st (b + j)) : RI (i + 1) b kp st' arms strokes hand step kind slack place turn way stroke := by
  rcases h with h | ⟨h, na, ns, nt, h1, h2, h3, h4, g⟩
  · exact Or.inl h
  · exact Or.inr ⟨h, na, ns, nt, h1, h2, h3, h4, (g.up (by omega)).page hf⟩
section OPk
variable {i : Nat} {st : Nat → Int32} {arms strokes hand step : Int32} {kind slack place turn way stroke : Nat → Int32}
variable {kept isKept : Nat → Int32} {ia is ih ip : Int32} {iK iS iP iT iW iR : Nat → Int32} {ja js jh jp : Int32} {jK jS jP jT jW jR : Nat → Int32}
theorem op_keep (a1 it iv jt jv : Int32) (hN : RN i st arms strokes hand step kind slack place turn way stroke) (hI0 : RI i 40 (kept 0) st ia is ih ip iK iS iP iT iW iR) (hI1 : RI i 80 (kept 1) st ja js jh jp jK jS jP jT jW jR) (hK : RK kept isKept) :
    ∃ (qr : Int32) (kept' : Nat → Int32) (ia' is' ih' ip' it' iv' : Int32) (iK' iS' iP' iT' iW' iR' : Nat → Int32) (ja' js' jh' jp' jt' jv' : Int32) (jK' jS' jP' jT' jW' jR' : Nat → Int32) (st' isKept' : Nat → Int32), fX4_keep a1 kept arms strokes hand step kind slack place turn way stroke ia is ih ip it iv iK iS iP iT iW iR ja js jh jp jt jv jK jS jP jT jW jR = some (qr, kept', ia', is', ih', ip', it', iv', iK', iS', iP', iT', iW', iR', ja', js', jh', jp', jt', jv', jK', jS', jP', jT', jW', jR') ∧ fX5_keep a1 st isKept = some (qr, st', isKept') ∧ RN (i + 1) st' arms strokes hand step kind slack place turn way stroke ∧ RI (i + 1) 40 (kept' 0) st' ia' is' ih' ip' iK' iS' iP' iT' iW' iR' ∧ RI (i + 1) 80 (kept' 1) st' ja' js' jh' jp' jK' jS' jP' jT' jW' jR' ∧ RK kept' isKept' := by
  have hN0 := hN
  obtain ⟨na, ns, nt, rfl, rfl, rfl, hnt, g⟩ := hN
  unfold fX4_keep fX5_keep
  rw [w_eq, gate, in_eq a1 0 1 0 1 rfl rfl, gate]
  by_cases c : 0 ≤ a1 ∧ a1 ≤ 1
  · simp only [if_pos c]
    rcases of1 c with rfl | rfl
    · rw [show (40 : Int32) * (0 + 1) = nI 40 from by decide]
      have hc : fX5_copies 0 (nI 40) st = _ := copies_r (f := 0) (t := 40) (by decide) (by decide) (by decide) st
      obtain ⟨K', S', P', T', W', R', e1, g1⟩ := copy_GR g ia is ih ip it iv iK iS iP iT iW iR
      rw [hc, cl1_s]
      unfold fX4_keep_L25 fX5_keep_L37
      simp only [chk_pos x02, z0, hK.1, vb1, bnd_s]
      rw [if_pos rfl, if_pos rfl, cl12_mk e1]
      have hR : RK (upd kept 0 1) (upd isKept 0 1) := ⟨by rw [upd_s, upd_s], by rw [upd_n _ _ (by decide), upd_n _ _ (by decide)]; exact hK.2⟩
      have hA : RN (i + 1) (cpv 0 40 40 st) (nI na) (nI ns) hand (nI nt) kind slack place turn way stroke := hN0.frb (fun j hj => cpv_out (by omega))
      have hB : RI (i + 1) 40 (upd kept 0 1 0) (cpv 0 40 40 st) (nI na) (nI ns) hand (nI nt) K' S' P' T' W' R' := Or.inr ⟨upd_s _ _ _, na, ns, nt, rfl, rfl, rfl, hnt, (g1.up (by omega)).cp 40⟩
      have hC : RI (i + 1) 80 (upd kept 0 1 1) (cpv 0 40 40 st) ja js jh jp jK jS jP jT jW jR := by
        rw [upd_n _ _ (by decide)]
        exact hI1.frb (fun j hj => cpv_out (by omega))
      split
      · exact ⟨_, _, _, _, _, _, _, _, _, _, _, _, _, _, _, _, _, _, _, _, _, _, _, _, _, _, _, _, rfl, rfl, hA, hB, hC, hR⟩
      · exact ⟨_, _, _, _, _, _, _, _, _, _, _, _, _, _, _, _, _, _, _, _, _, _, _, _, _, _, _, _, rfl, rfl, hA, hB, hC, hR⟩
    · rw [show (40 : Int32) * (1 + 1) = nI 80 from by decide]
      have hc : fX5_copies 0 (nI 80) st = _ := copies_r (f := 0) (t := 80) (by decide) (by decide) (by decide) st
      obtain ⟨K', S', P', T', W', R', e1, g1⟩ := copy_GR g ja js jh jp jt jv jK jS jP jT jW jR
      rw [hc, cl1_s]
      unfold fX4_keep_L25 fX5_keep_L37
      simp only [chk_pos x12, z1, hK.2, vb1, bnd_s]
      rw [if_neg d10, if_pos rfl, if_neg d10, if_pos rfl, cl12_mk e1]
      have hR : RK (upd kept 1 1) (upd isKept 1 1) := ⟨by rw [upd_n _ _ (by decide), upd_n _ _ (by decide)]; exact hK.1, by rw [upd_s, upd_s]⟩
      have hA : RN (i + 1) (cpv 0 80 40 st) (nI na) (nI ns) hand (nI nt) kind slack place turn way stroke := hN0.frb (fun j hj => cpv_out (by omega))
      have hB : RI (i + 1) 80 (upd kept 1 1 1) (cpv 0 80 40 st) (nI na) (nI ns) hand (nI nt) K' S' P' T' W' R' := Or.inr ⟨upd_s _ _ _, na, ns, nt, rfl, rfl, rfl, hnt, (g1.up (by omega)).cp 80⟩
      have hC : RI (i + 1) 40 (upd kept 1 1 0) (cpv 0 80 40 st) ia is ih ip iK iS iP iT iW iR := by
        rw [upd_n _ _ (by decide)]
        exact hI0.frb (fun j hj => cpv_out (by omega))
      split
      · exact ⟨_, _, _, _, _, _, _, _, _, _, _, _, _, _, _, _, _, _, _, _, _, _, _, _, _, _, _, _, rfl, rfl, hA, hC, hB, hR⟩
      · exact ⟨_, _, _, _, _, _, _, _, _, _, _, _, _, _, _, _, _, _, _, _, _, _, _, _, _, _, _, _, rfl, rfl, hA, hC, hB, hR⟩
  · simp only [if_neg c]
    exact ⟨_, _, _, _, _, _, _, _, _, _, _, _, _, _, _, _, _, _, _, _, _, _, _, _, _, _, _, _, rfl, rfl, hN0.up, hI0.fr (by decide) FrL.rf.I, hI1.fr (by decide) FrL.rf.I, hK⟩
theorem op_back (a1 tv rv : Int32) (hN : RN i st arms strokes hand step kind slack place turn way stroke) (hI0 : RI i 40 (kept 0) st ia is ih ip iK iS iP iT iW iR) (hI1 : RI i 80 (kept 1) st ja js jh jp jK jS jP jT jW jR) (hK : RK kept isKept) :
    ∃ (qr arms' strokes' hand' step' tv' rv' : Int32) (kind' slack' place' turn' way' stroke' st' : Nat → Int32), fX4_back a1 kept arms strokes hand step tv rv kind slack place turn way stroke ia is ih ip iK iS iP iT iW iR ja js jh jp jK jS jP jT jW jR = some (qr, arms', strokes', hand', step', tv', rv', kind', slack', place', turn', way', stroke') ∧ fX5_back a1 st isKept = some (qr, st') ∧ RN (i + 1) st' arms' strokes' hand' step' kind' slack' place' turn' way' stroke' ∧ FrI st st' := by
  unfold fX4_back fX5_back
  rw [w_eq, gate, in_eq a1 0 1 0 1 rfl rfl, gate]
  by_cases c : 0 ≤ a1 ∧ a1 ≤ 1
  · simp only [if_pos c]
    rcases of1 c with rfl | rfl
    · simp only [chk_pos x02, z0, hK.1]
      rcases hI0 with h | ⟨h, na, ns, nt, rfl, rfl, rfl, hnt, g⟩
      · rw [if_pos h, if_pos h]
        exact ⟨_, _, _, _, _, _, _, _, _, _, _, _, _, _, rfl, rfl, hN.up, fun _ _ _ => rfl⟩
      · rw [h, if_neg d10, if_neg d10, if_pos trivial, show (40 : Int32) * (0 + 1) = nI 40 from by decide]
        have hc : fX5_copies (nI 40) 0 st = _ := copies_r (f := 40) (t := 0) (by decide) (by decide) (by decide) st
        obtain ⟨K', S', P', T', W', R', e1, g1⟩ := copy_GR g arms strokes hand step tv rv kind slack place turn way stroke
        have g2 := (g1.up (show 900 * (i : Int) ≤ 900 * ((i + 1 : Nat) : Int) by omega)).cp 0
        have e39 : cpv 40 0 40 st 39 = nI nt := by have := g2.2.2.2.2.1; rw [Nat.zero_add] at this; exact this
        rw [hc, cl1_s, cl12_mk e1, chk_pos x39, cl_39, e39]
        exact ⟨_, _, _, _, _, _, _, _, _, _, _, _, _, _, rfl, rfl, ⟨na, ns, nt, rfl, rfl, rfl, hnt, g2⟩, fun j h1 h2 => cpv_out (by omega)⟩
    · simp only [chk_pos x12, z1, hK.2]
      rcases hI1 with h | ⟨h, na, ns, nt, rfl, rfl, rfl, hnt, g⟩
      · rw [if_pos h, if_pos h]
        exact ⟨_, _, _, _, _, _, _, _, _, _, _, _, _, _, rfl, rfl, hN.up, fun _ _ _ => rfl⟩
      · rw [h, if_neg d10, if_neg d10, if_neg d10, if_pos trivial, show (40 : Int32) * (1 + 1) = nI 80 from by decide]
        have hc : fX5_copies (nI 80) 0 st = _ := copies_r (f := 80) (t := 0) (by decide) (by decide) (by decide) st
        obtain ⟨K', S', P', T', W', R', e1, g1⟩ := copy_GR g arms strokes hand step tv rv kind slack place turn way stroke
        have g2 := (g1.up (show 900 * (i : Int) ≤ 900 * ((i + 1 : Nat) : Int) by omega)).cp 0
        have e39 : cpv 80 0 40 st 39 = nI nt := by have := g2.2.2.2.2.1; rw [Nat.zero_add] at this; exact this
        rw [hc, cl1_s, cl12_mk e1, chk_pos x39, cl_39, e39]
        exact ⟨_, _, _, _, _, _, _, _, _, _, _, _, _, _, rfl, rfl, ⟨na, ns, nt, rfl, rfl, rfl, hnt, g2⟩, fun j h1 h2 => cpv_out (by omega)⟩
  · simp only [if_neg c]
    exact ⟨_, _, _, _, _, _, _, _, _, _, _, _, _, _, rfl, rfl, hN.up, fun _ _ _ => rfl⟩
end OPk
