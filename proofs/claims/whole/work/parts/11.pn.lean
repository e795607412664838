-- the text
section TELL
variable {n : Nat} {bytes tape : Nat → Int32}
theorem tell_loop (hT : Tp n bytes tape) (rf many : Int32) (st isKept : Nat → Int32) (gtv grv : Int32) : ∀ (q L s e na ns n1 n2 : Nat) (k br ba0 ba sp tk val fp : Int32) (K S P T W R rp : Nat → Int32), n - e < q → q < n1 → q < n2 → L ≤ s → s ≤ e → e ≤ n → (k = 0 ∨ s < n) → TK tape ba0 s e k br ba sp tk val → GP na ns rp K S P T W R →
    (∃ l f p X br' ba' sp' he' tk' val' rp', fX3_tell_L20 bytes n1 (nI L) (nI n) 0 fp k (nI s) (nI e) (nI na) (nI ns) 0 0 gtv grv K S P T W R = some (l, 0, f, p, X) ∧ fX5_text_L37 tape xEnds xLetters n2 (nI L) (nI n) rf br ba sp (nI s) tk val many st rp isKept = some (-10 - p, 0, f, br', ba', sp', he', tk', val', many, st, rp', isKept) ∧ ¬ f = 0) ∨
    (∃ (L' na' ns' : Nat) (fp' t1 t2 t3 ba' sp' he' tk' val' : Int32) (K' S' P' T' W' R' rp' : Nat → Int32), fX3_tell_L20 bytes n1 (nI L) (nI n) 0 fp k (nI s) (nI e) (nI na) (nI ns) 0 0 gtv grv K S P T W R = some (nI L', 0, 0, fp', t1, t2, t3, nI na', nI ns', 0, 0, gtv, grv, K', S', P', T', W', R') ∧ fX5_text_L37 tape xEnds xLetters n2 (nI L) (nI n) rf br ba sp (nI s) tk val many st rp isKept = fX5_text_L91 tape xEnds xLetters xF (nI L') 0 0 0 0 ba' sp' he' tk' val' many st rp' isKept ∧ GP na' ns' rp' K' S' P' T' W' R') := by
  have hn := hT.1
  intro q
  induction q with
  | zero =>
    intro L s e na ns n1 n2 k br ba0 ba sp tk val fp K S P T W R rp hq
    exact absurd hq (by omega)
  | succ q ih =>
    intro L s e na ns n1 n2 k br ba0 ba sp tk val fp K S P T W R rp hq hn1 hn2 hL hse hen hk0 hTK g
    obtain ⟨n1, rfl⟩ : ∃ z, n1 = z + 1 := ⟨n1 - 1, by omega⟩
    obtain ⟨n2, rfl⟩ : ∃ z, n2 = z + 1 + 1 := ⟨n2 - 2, by omega⟩
    have e0 : (0 : Int32).toInt = 0 := rfl
    rw [fX3_tell_L20, fX5_text_L37]
    have tri : (k = 1 ∧ br = 1 ∧ ba = nI s) ∨ (br = 0 ∧ k = 0 ∧ tk = 0) ∨ (br = 0 ∧ sp = nI e ∧ ¬ k = 0 ∧ ¬ tk = 0 ∧ ((k = 4 ∧ tk = 3) ∨ (k = 2 ∧ tk = 1) ∨ (k = 3 ∧ tk = 2))) := by
      rcases hTK with ⟨hbr, hsp, hba, hK⟩ | h
      · rcases hK with ⟨rfl, rfl⟩ | ⟨rfl, rfl, -⟩ | ⟨rfl, rfl, -⟩ | ⟨rfl, rfl, -⟩
        · exact Or.inr (Or.inl ⟨hbr, rfl, rfl⟩)
        · exact Or.inr (Or.inr ⟨hbr, hsp, by decide, by decide, Or.inl ⟨rfl, rfl⟩⟩)
        · exact Or.inr (Or.inr ⟨hbr, hsp, by decide, by decide, Or.inr (Or.inl ⟨rfl, rfl⟩)⟩)
        · exact Or.inr (Or.inr ⟨hbr, hsp, by decide, by decide, Or.inr (Or.inr ⟨rfl, rfl⟩)⟩)
      · exact Or.inl h
    rcases tri with ⟨rfl, rfl, rfl⟩ | ⟨rfl, rfl, rfl⟩ | ⟨rfl, rfl, hk0', htk0, hk⟩
    · have hL160 : ¬ (160 : Int32) ≤ nI L := fun z => by
        have := (nI_leI (a := 160) (by omega) (by omega)).mp z
        rcases hk0 with h | h
        · exact d10 h
        · omega
      have htl : fX3_takeLine (nI n) 0 fp 1 (nI s) (nI e) bytes (nI na) (nI ns) 0 K S P T W R = some (0, 1, nI s, 1, nI s, nI e, nI na, nI ns, K, S, P, T, W, R) := by
        unfold fX3_takeLine
        rw [cl3_mk (st_no d12), if_pos rfl, if_pos rfl]
      unfold fX5_text_L61
      rw [if_neg d10, if_neg hL160, cl14_mk htl, if_pos rfl, if_neg d10, if_neg (show ¬ (1 : Int32) ≤ 0 by decide)]
      exact Or.inl ⟨_, _, _, _, _, _, _, _, _, _, _, rfl, rfl, d10⟩
    · unfold fX5_text_L61
      rw [if_pos rfl, if_pos rfl, if_pos rfl, if_pos (show (0 : Int32) ≤ 0 by decide)]
      exact Or.inr ⟨L, na, ns, _, _, _, _, _, _, _, _, _, K, S, P, T, W, R, rp, rfl, rfl, g⟩
    · have hL160 : ¬ (160 : Int32) ≤ nI L := fun z => by
        have := (nI_leI (a := 160) (by omega) (by omega)).mp z
        rcases hk0 with h | h
        · exact hk0' h
        · omega
      have lb := line_both hT g hse hen ba fp val hk
      rw [if_neg hk0', if_neg hL160, if_pos rfl, if_neg htk0]
      rcases lb with ⟨f, p, X, Y, c1, c2, c3⟩ | ⟨s3, e3, na', ns', h3, v3, K', S', P', T', W', R', rp', c1, c2, c3, c4, c5⟩
      · obtain ⟨x1, x2, x3, x4, x5, x6, x7, x8, x9, x10, x11⟩ := X
        obtain ⟨y1, y2, y3, y4, y5⟩ := Y
        have nf0 : ¬ f = 0 := fun z => by rw [z] at c3; omega
        have nfl : ¬ f ≤ 0 := fun z => by have := i_le.mp z; omega
        rw [cl14_mk c1, if_pos rfl, cl7_mk c2, bnd_s, nI_1, fX5_text_L37]
        unfold fX5_text_L61
        rw [if_neg nf0, if_neg nfl]
        exact Or.inl ⟨_, _, _, _, _, _, _, _, _, _, _, rfl, rfl, nf0⟩
      · obtain ⟨s4, e4, k4, br4, ba4, sp4, tk4, val4, o1, o2, o3, o4, d1, d2, d3⟩ := tok_both hT c4 4 (nI s3) ba h3 3 v3
        rw [cl6_mk d2] at c2
        rw [cl14_mk c1, if_neg d10, bnd_s, nI_1, cl3_mk d1, cl7_mk c2, bnd_s]
        exact ih (L + 1) s4 e4 na' ns' n1 (n2 + 1) k4 br4 ba ba4 sp4 tk4 val4 fp K' S' P' T' W' R' rp' (by omega) (by omega) (by omega) (by omega) o2 o3 o4 d3 c5
theorem zero_r (taped rf br ba sp he tk val many : Int32) (st isKept ends letters : Nat → Int32) : ∀ (q x nf : Nat) (rp : Nat → Int32), x + q = 40 → q < nf → (∀ j, j < x → rp j = 0) → ∃ rp', fX5_text_L14 tape ends letters nf 0 (nI x) taped rf br ba sp he tk val many st rp isKept = cl6 (fX5_readsOn taped br ba sp he tk val tape) (fun u2 u3 u4 u5 u6 u7 => fX5_text_L37 tape ends letters xF 0 taped rf u2 u3 u4 u5 u6 u7 many st rp' isKept) ∧ ∀ j, j < 40 → rp' j = 0 := by
  intro q
  induction q with
  | zero =>
    intro x nf rp hx hf h
    obtain ⟨nf, rfl⟩ : ∃ z, nf = z + 1 := ⟨nf - 1, by omega⟩
    have e : x = 40 := by omega
    subst e
    refine ⟨rp, ?_, h⟩
    rw [fX5_text_L14]
    rw [if_pos (show (40 : Int32) ≤ nI 40 from Int32.le_refl _)]
  | succ q ih =>
    intro x nf rp hx hf h
    obtain ⟨nf, rfl⟩ : ∃ z, nf = z + 1 := ⟨nf - 1, by omega⟩
    rw [fX5_text_L14]
    rw [if_neg (show ¬ (40 : Int32) ≤ nI x from fun z => by have := (nI_leI (a := 40) (by omega) (by omega)).mp z; omega), chk_pos (xin_nI (by omega) (by omega)), cN (by omega), bnd_s, bnd_s, nI_1]
    exact ih (x + 1) nf (upd rp x 0) (by omega) (by omega) (fun j hj => by
      by_cases e : j = x
      · subst e; rw [upd_s]
      · rw [upd_n _ _ e]; exact h j (by omega))
theorem page_r (l ba sp he tk val many : Int32) (rp isKept ends letters : Nat → Int32) : ∀ (q x nf : Nat) (st : Nat → Int32), x + q = 40 → q < nf → (∀ j, j < x → st j = rp j) → ∃ st', fX5_text_L91 tape ends letters nf l (nI x) 0 0 0 ba sp he tk val many st rp isKept = some (l, 0, 0, 0, ba, sp, he, tk, val, 0, st', rp, upd (upd isKept 0 0) 1 0) ∧ (∀ j, j < 40 → st' j = rp j) := by
  have vb0 : vp_nar .boolean 0 = 0 := by decide
  intro q
  induction q with
  | zero =>
    intro x nf st hx hf h
    obtain ⟨nf, rfl⟩ : ∃ z, nf = z + 1 := ⟨nf - 1, by omega⟩
    have e : x = 40 := by omega
    subst e
    refine ⟨st, ?_, h⟩
    rw [fX5_text_L91]
    rw [if_pos (show (40 : Int32) ≤ nI 40 from Int32.le_refl _), chk_pos x02, z0, vb0, bnd_s, chk_pos x12, z1, bnd_s]
  | succ q ih =>
    intro x nf st hx hf h
    obtain ⟨nf, rfl⟩ : ∃ z, nf = z + 1 := ⟨nf - 1, by omega⟩
    rw [fX5_text_L91]
    rw [if_neg (show ¬ (40 : Int32) ≤ nI x from fun z => by have := (nI_leI (a := 40) (by omega) (by omega)).mp z; omega), chk_pos (xin_nI (by omega) (by omega)), cN (by omega), bnd_s, chk_pos (xin_nI (by omega) (by omega)), bnd_s, bnd_s, nI_1]
    exact ih (x + 1) nf (upd st x (rp x)) (by omega) (by omega) (fun j hj => by
      by_cases e : j = x
      · subst e; rw [upd_s]
      · rw [upd_n _ _ e]; exact h j (by omega))
end TELL
section OPt
variable {i : Nat} {st : Nat → Int32} {arms strokes hand step : Int32} {kind slack place turn way stroke : Nat → Int32}
variable {kept isKept : Nat → Int32} {ia is ih ip : Int32} {iK iS iP iT iW iR : Nat → Int32} {ja js jh jp : Int32} {jK jS jP jT jW jR : Nat → Int32}
variable {len flt taped rf : Int32} {bytes tape : Nat → Int32} {size many : Int32} {sR aR pR seen : Nat → Int32}
theorem op_text (tv rv ta ts th tp ttv trv : Int32) (tK tS tP tT tW tR : Nat → Int32) (flp tok tst ten br ba sp he tk val : Int32) (rp : Nat → Int32) (hN : RN i st arms strokes hand step kind slack place turn way stroke) (hI0 : RI i 40 (kept 0) st ia is ih ip iK iS iP iT iW iR) (hI1 : RI i 80 (kept 1) st ja js jh jp jK jS jP jT jW jR) (hK : RK kept isKept) (hT : RT len flt bytes taped rf tape) (hS : RS size sR aR pR many seen) :
    ∃ (qr : Int32) (kept' : Nat → Int32) (arms' strokes' hand' step' tv' rv' : Int32) (kind' slack' place' turn' way' stroke' : Nat → Int32) (ta' ts' th' tp' ttv' trv' : Int32) (tK' tS' tP' tT' tW' tR' : Nat → Int32) (len' flt' flp' tok' tst' ten' size' taped' rf' br' ba' sp' he' tk' val' many' : Int32) (st' rp' isKept' : Nat → Int32),
      fX4_text kept arms strokes hand step tv rv kind slack place turn way stroke ta ts th tp ttv trv tK tS tP tT tW tR len flt flp tok tst ten bytes size = some (qr, kept', arms', strokes', hand', step', tv', rv', kind', slack', place', turn', way', stroke', ta', ts', th', tp', ttv', trv', tK', tS', tP', tT', tW', tR', len', flt', flp', tok', tst', ten', size') ∧
      fX5_text taped rf br ba sp he tk val many st rp tape xEnds xLetters isKept = some (qr, taped', rf', br', ba', sp', he', tk', val', many', st', rp', isKept') ∧
      RN (i + 1) st' arms' strokes' hand' step' kind' slack' place' turn' way' stroke' ∧ RI (i + 1) 40 (kept' 0) st' ia is ih ip iK iS iP iT iW iR ∧ RI (i + 1) 80 (kept' 1) st' ja js jh jp jK jS jP jT jW jR ∧ RK kept' isKept' ∧ RT len' flt' bytes taped' rf' tape ∧ RS size' sR aR pR many' seen := by
  obtain ⟨-, n, hn, rfl, rfl, hb⟩ := hT
  have hTp : Tp n bytes tape := ⟨hn, hb⟩
  have vb0 : vp_nar .boolean 0 = 0 := by decide
  obtain ⟨s, e, k, br1, ba1, sp1, tk1, val1, o1, o2, o3, o4, c1, c2, c3⟩ := tok_both hTp (Nat.zero_le n) tok tst ba he tk val
  obtain ⟨rp1, z1', z2'⟩ := zero_r (tape := tape) (nI n) rf 0 ba 0 he tk val many st isKept xEnds xLetters 40 0 xF rp (by omega) (by decide) (fun j hj => absurd hj (by omega))
  rw [nI_0] at c1 c2 z1'
  have g0 : GP 0 0 rp1 tK tS tP tT tW tR := ⟨⟨by omega, by omega, by rw [z2' _ (by omega)]; rfl, by rw [z2' _ (by omega)]; rfl, by rw [z2' _ (by omega)]; rfl, by rw [z2' _ (by omega)], by rw [z2' _ (by omega)]; decide, fun a h => absurd h (by omega), fun a h => absurd h (by omega), fun a h => absurd h (by omega)⟩, fun j h1 h2 => z2' j (by omega)⟩
  have tl := tell_loop hTp rf many st isKept 0 0 (n + 1) 0 s e 0 0 xF xF k br1 ba ba1 sp1 tk1 val1 flp tK tS tP tT tW tR rp1 (by omega) (by show n + 1 < 1000; omega) (by show n + 1 < 1000; omega) (Nat.zero_le _) o2 o3 o4 c3 g0
  rw [nI_0] at tl
  have t5 : fX5_text (nI n) rf br ba sp he tk val many st rp tape xEnds xLetters isKept = fX5_text_L37 tape xEnds xLetters xF 0 (nI n) rf br1 ba1 sp1 (nI s) tk1 val1 many st rp1 isKept := by
    unfold fX5_text
    rw [z1', cl6_mk c2]
  have t3 : fX3_tell (nI n) flt flp tok tst ten bytes ta ts th tp ttv trv tK tS tP tT tW tR = fX3_tell_L20 bytes xF 0 (nI n) 0 flp k (nI s) (nI e) 0 0 0 0 0 0 tK tS tP tT tW tR := by
    unfold fX3_tell
    rw [cl6_mk (show fX0_empty ta ts th tp ttv trv = some (0, 0, 0, 0, 0, 0) from rfl), cl3_mk c1]
  rw [t5]
  unfold fX4_text
  rw [t3]
  rcases tl with ⟨l, f, p, X, br', ba', sp', he', tk', val', rp', f1, f2, f3⟩ | ⟨L', na', ns', fp', t1, t2, t3', ba', sp', he', tk', val', K', S', P', T', W', R', rp', f1, f2, f3⟩
  · obtain ⟨x1, x2, x3, x4, x5, x6, x7, x8, x9, x10, x11, x12, x13, x14, x15⟩ := X
    rw [cl19_mk f1, if_neg f3, f2]
    exact ⟨_, _, _, _, _, _, _, _, _, _, _, _, _, _, _, _, _, _, _, _, _, _, _, _, _, _, _, _, _, _, _, _, _, _, _, _, _, _, _, _, _, _, _, _, _, rfl, rfl, hN.up, hI0.fr (by decide) FrL.rf.I, hI1.fr (by decide) FrL.rf.I, hK, ⟨rfl, 0, by omega, nI_0.symm, nI_0.symm, fun j h => absurd h (by omega)⟩, hS⟩
  · obtain ⟨K2, S2, P2, T2, W2, R2, e1, g1⟩ := copy_GR f3.1 arms strokes hand step tv rv kind slack place turn way stroke
    rw [nI_0] at e1
    obtain ⟨st', q1, q2⟩ := page_r (tape := tape) (nI L') ba' sp' he' tk' val' many rp' isKept xEnds xLetters 40 0 xF st (by omega) (by decide) (fun j hj => absurd hj (by omega))
    rw [nI_0] at q1
    have k0 : ∀ (x1 x2 x3 x4 x5 x6 : Int32) (x7 x8 x9 x10 x11 x12 : Nat → Int32) (y1 y2 y3 y4 y5 y6 : Int32) (y7 y8 y9 y10 y11 y12 : Nat → Int32) (w1 w2 w3 w4 w5 w6 w7 : Int32), fX4_text_L54 bytes xF (nI L') 0 kept x1 x2 x3 x4 x5 x6 x7 x8 x9 x10 x11 x12 y1 y2 y3 y4 y5 y6 y7 y8 y9 y10 y11 y12 w1 w2 w3 w4 w5 w6 w7 = some (nI L', upd (upd kept 0 0) 1 0, x1, x2, x3, x4, x5, x6, x7, x8, x9, x10, x11, x12, y1, y2, y3, y4, y5, y6, y7, y8, y9, y10, y11, y12, w1, w2, w3, w4, w5, w6, w7) := by
      intro x1 x2 x3 x4 x5 x6 x7 x8 x9 x10 x11 x12 y1 y2 y3 y4 y5 y6 y7 y8 y9 y10 y11 y12 w1 w2 w3 w4 w5 w6 w7
      show fX4_text_L54 bytes (997 + 1 + 1 + 1) (nI L') 0 kept x1 x2 x3 x4 x5 x6 x7 x8 x9 x10 x11 x12 y1 y2 y3 y4 y5 y6 y7 y8 y9 y10 y11 y12 w1 w2 w3 w4 w5 w6 w7 = _
      rw [fX4_text_L54, if_neg (by decide), chk_pos x02, z0, vb0, bnd_s, bnd_s, show (0 : Int32) + 1 = 1 from by decide]
      rw [fX4_text_L54, if_neg (by decide), chk_pos (show xin (1 : Int32) 2 by decide), z1, vb0, bnd_s, bnd_s, show (1 : Int32) + 1 = 2 from by decide]
      rw [fX4_text_L54, if_pos (by decide)]
    rw [cl19_mk f1, if_pos rfl, cl12_mk e1, k0, f2, q1]
    have e00 : upd (upd kept 0 0) 1 0 0 = 0 := by rw [upd_n _ _ (by decide), upd_s]
    have e01 : upd (upd kept 0 0) 1 0 1 = 0 := upd_s _ _ _
    have e10 : upd (upd isKept 0 0) 1 0 0 = 0 := by rw [upd_n _ _ (by decide), upd_s]
    have e11 : upd (upd isKept 0 0) 1 0 1 = 0 := upd_s _ _ _
    exact ⟨_, _, _, _, _, _, _, _, _, _, _, _, _, _, _, _, _, _, _, _, _, _, _, _, _, _, _, _, _, _, _, _, _, _, _, _, _, _, _, _, _, _, _, _, _, rfl, rfl, ⟨na', ns', 0, rfl, rfl, nI_0.symm, by omega, (g1.up (by omega)).page (fun j hj => by rw [Nat.zero_add]; exact q2 j hj)⟩, Or.inl e00, Or.inl e01, ⟨by rw [e00, e10], by rw [e01, e11]⟩, ⟨rfl, 0, by omega, nI_0.symm, nI_0.symm, fun j h => absurd h (by omega)⟩, ⟨0, by omega, nI_0.symm, nI_0.symm, fun j h => absurd h (by omega)⟩⟩
end OPt
