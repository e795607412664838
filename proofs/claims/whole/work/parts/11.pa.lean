-- read
theorem l_add {a b : Int32} (h : (a + b).toInt = a.toInt + b.toInt) : a.toInt64 + b.toInt64 = (a + b).toInt64 := by
  apply Int64.toInt_inj.mp
  have h1 := i_rng a
  have h2 := i_rng b
  rw [Int64.toInt_add, Int32.toInt_toInt64, Int32.toInt_toInt64, Int32.toInt_toInt64, h]
  exact Int.bmod_eq_of_le (by omega) (by omega)
section OPr
variable {i0 : Nat} {st : Nat → Int32} {na ns nt : Nat} {hand : Int32} {kind slack place turn way stroke : Nat → Int32}
variable {lanes lengths rc : Nat → Int32} {l0 s0 : Int32} {c0 : Nat → Int32} {l1 s1 : Int32} {c1 : Nat → Int32} {l2 s2 : Int32} {c2 : Nat → Int32} {l3 s3 : Int32} {c3 : Nat → Int32}
theorem refuse_r {stc strc : Nat → Int32} (hnt : nt ≤ 9999) (g : GR (900 * (i0 : Int)) 0 na ns nt st hand kind slack place turn way stroke) (hs : ∀ j, j < 40 → stc (120 + j) = st j) (hf : FrI st stc) (hr : ∀ j, j < ns → strc j = stroke j) : fX5_copies 120 0 stc = some (cpv 120 0 40 stc) ∧ RN (i0 + 1) (cpv 120 0 40 stc) (nI na) (nI ns) hand (nI nt) kind slack place turn way strc ∧ FrI st (cpv 120 0 40 stc) := by
  refine ⟨copies_r (f := 120) (t := 0) (by decide) (by decide) (by decide) stc, ⟨na, ns, nt, rfl, rfl, rfl, hnt, ((g.up (by omega)).rows (fun a ha => ⟨rfl, rfl, rfl, rfl, rfl⟩) hr).page (fun j hj => ?_)⟩, fun j h1 h2 => ?_⟩
  · rw [cpv_in (by omega) (by omega)]
    rw [show 120 + (0 + j - 0) = 120 + j by omega, Nat.zero_add]
    exact hs j hj
  · rw [cpv_out (by omega)]
    exact hf j h1 h2
theorem read0 (a2 a3 tf : Int32) {N : Nat} (hN : N ≤ 40) (hnt : nt ≤ 9999) (g : GR (900 * (i0 : Int)) 0 na ns nt st hand kind slack place turn way stroke) (hH : RH 0 l0 s0 c0 lanes lengths rc) : ∀ (q i n1 n2 : Nat) (stc strc : Nat → Int32), i + q = N → q + 1 < n1 → q + 1 < n2 → (i = 0 ∨ (0 ≤ a3.toInt ∧ a3.toInt + i ≤ 40)) → GR (900 * (i0 : Int)) 0 na (ns + i) nt stc hand kind slack place turn way strc → (∀ j, j < 40 → stc (120 + j) = st j) → FrI st stc → (∀ j, j < ns → strc j = stroke j) →
    ∃ (qr tf' ns' : Int32) (str' st' : Nat → Int32), fX4_read_L52 l0 s0 c0 l1 s1 c1 l2 s2 c2 l3 s3 c3 n1 a2 a3 (nI N) (nI ns) 0 (nI i) tf (nI (ns + i)) strc = some (qr, tf', ns', str') ∧ fX5_read_L55 lanes lengths rc n2 0 a2 a3 (nI N) 0 (nI i) (nI i) tf stc = some (qr, tf', st') ∧ RN (i0 + 1) st' (nI na) ns' hand (nI nt) kind slack place turn way str' ∧ FrI st st' := by
  have cz : (0 : Int32).toNatClampNeg = 0 := by decide
  have cx : xin (0 : Int32) 4 := by decide
  intro q
  induction q with
  | zero =>
    intro i n1 n2 stc strc hi hn1 hn2 ho gc hs hf hr
    obtain ⟨n1, rfl⟩ : ∃ z, n1 = z + 1 := ⟨n1 - 1, by omega⟩
    obtain ⟨n2, rfl⟩ : ∃ z, n2 = z + 1 := ⟨n2 - 1, by omega⟩
    have e : i = N := by omega
    subst e
    rw [fX4_read_L52, fX5_read_L55]
    rw [if_pos (Int32.le_refl _), if_pos (Int32.le_refl _)]
    exact ⟨_, _, _, _, _, rfl, rfl, ⟨na, ns + i, nt, rfl, rfl, rfl, hnt, gc.up (by omega)⟩, hf⟩
  | succ q ih =>
    intro i n1 n2 stc strc hi hn1 hn2 ho gc hs hf hr
    obtain ⟨n1, rfl⟩ : ∃ z, n1 = z + 1 + 1 := ⟨n1 - 2, by omega⟩
    obtain ⟨n2, rfl⟩ : ∃ z, n2 = z + 1 + 1 := ⟨n2 - 2, by omega⟩
    have hle : ¬ nI N ≤ nI i := fun q => by have := (nI_leI (by omega) (by omega)).mp q; omega
    have hRN : RN (i0 + 1) stc (nI na) (nI (ns + i)) hand (nI nt) kind slack place turn way strc := ⟨na, ns + i, nt, rfl, rfl, rfl, hnt, gc.up (by omega)⟩
    have stop : ∀ z : Int32, ¬ z = 0 → fX4_read_L52 l0 s0 c0 l1 s1 c1 l2 s2 c2 l3 s3 c3 (n1 + 1) a2 a3 (nI N) (nI ns) z (nI i) tf (nI (ns + i)) strc = some (nI i, z, nI (ns + i), strc) ∧ fX5_read_L55 lanes lengths rc (n2 + 1) 0 a2 a3 (nI N) z (nI i) (nI (i + 1)) tf stc = some (nI i, z, stc) := fun z hz => by
      refine ⟨?_, ?_⟩
      · rw [fX4_read_L52]
        rw [if_neg hle, if_neg hz]
      · rw [fX5_read_L55]
        rw [if_neg hz]
        split <;> rfl
    have e0 : (nI i).toInt = i := nI_toInt (by omega)
    have h3 := i_rng a3
    have hx : (a3 + nI i).toInt = a3.toInt + (nI i).toInt := i_add (by omega) (by omega)
    rw [fX4_read_L52, fX5_read_L55]
    rw [if_neg hle, if_neg hle, if_pos rfl, if_pos rfl, chk_pos cx, cz]
    unfold fX1_faultTakenAs fX1_faultTakenAs_L20 fX1_faultAt
    rcases hH with ⟨q1, q2⟩ | ⟨m, hm, q1, q2, q3, q4, q5⟩
    · rw [if_pos q1, if_pos q1, if_pos q2]
      unfold fX5_read_L123 fX5_read_L171
      rw [if_neg d10, bnd_s, nI_1, (stop 1 d10).2]
      show ∃ (qr tf' ns' : Int32) (str' st' : Nat → Int32), fX4_read_L52 l0 s0 c0 l1 s1 c1 l2 s2 c2 l3 s3 c3 (n1 + 1) a2 a3 (nI N) (nI ns) 1 (nI i) tf (nI (ns + i)) strc = some (qr, tf', ns', str') ∧ _
      rw [(stop 1 d10).1]
      exact ⟨_, _, _, _, _, rfl, rfl, hRN, hf⟩
    · rw [if_neg (show ¬ s0 = -1 by rw [q1]; exact nI_m1 (by omega)), if_neg (show ¬ s0 = -1 by rw [q1]; exact nI_m1 (by omega)), if_neg (show ¬ lanes 0 = -4 by rw [← q3]; exact lane_n4 q4), ← q3, chk_pos cx]
      by_cases hl : l0 = a2
      · rw [if_pos hl, if_pos hl, chk_pos cx, q2, q1, w_eq, gate, l_add hx, in_eq (a3 + nI i) 0 (nI m - 1) 0 _ rfl rfl, gate]
        by_cases u : 0 ≤ a3 + nI i ∧ a3 + nI i ≤ nI m - 1
        · simp only [if_pos u]
          obtain ⟨p, hp, ep⟩ := of_idx (by omega) u.1 u.2
          have ep' : a3.toInt + i = p := by
            have e1 : (a3 + nI i).toInt = (nI p).toInt := by rw [ep]
            rw [hx, e0, nI_toInt (by omega)] at e1
            exact e1
          rw [cl1_s, cl1_s, if_pos rfl, ep]
          unfold fX5_read_L123
          rw [if_pos rfl, bnd_s, bnd_s, Int32.add_assoc, ep, show (40 : Int32) * 0 + nI p = nI (0 + p) from nI_add 0 p, chk_pos (xin_nI (by omega) (by omega)), chk_pos (xin_nI (by omega) (by omega)), cN (by omega), cN (by omega), q5 p hp]
          generalize rc (40 * 0 + p) = v
          obtain ⟨f1, f2, f3⟩ := refuse_r hnt g hs hf hr
          rw [ss_eq, gate]
          by_cases hv : 0 ≤ v ∧ v ≤ 18
          · simp only [if_pos hv]
            have h37 : stc 37 = nI (ns + i) := by have := gc.2.2.2.1; rw [Nat.zero_add] at this; exact this
            have h16 := gc.2.1
            by_cases hful : ns + i = 16
            · have ha : fX5_adds v stc = some (-3, stc) := by
                unfold fX5_adds
                rw [in_eq v 0 18 0 18 rfl rfl, gate, if_pos hv, chk_pos (by decide), cl_37, if_pos (show stc 37 = (16 : Int32) from h37.trans (by rw [hful]; rfl))]
              have hb : fX0_appendStroke (v - 9) (nI (ns + i)) strc = some (0, nI (ns + i), strc) := by
                unfold fX0_appendStroke
                rw [hful, if_neg (by decide)]
              rw [cl2_mk ha, cl3_mk hb, if_pos rfl, if_neg (by decide), f1, cl1_s]
              exact ⟨_, _, _, _, _, rfl, rfl, f2, f3⟩
            · have hv9 := v9 hv
              rw [cl2_mk (adds_r (by omega) hv h37), cl3_mk (add_c (by omega) _ _), if_neg d10, if_pos (nI_pos' (by omega)), bnd_s, bnd_s]
              unfold fX5_read_L171
              rw [bnd_s, nI_1]
              have ga := gc.add (by omega) hv9.1 hv9.2
              simp only [Nat.zero_add] at ga
              have ii := ih (i + 1) (n1 + 1) (n2 + 1) _ _ (by omega) (by omega) (by omega) (Or.inr ⟨by omega, by omega⟩) ga (fun j hj => by rw [upd_n _ _ (by omega), upd_n _ _ (by omega)]; exact hs j hj) (fun j h1 h2 => by rw [upd_n _ _ (by omega), upd_n _ _ (by omega)]; exact hf j h1 h2) (fun j hj => by rw [upd_n _ _ (by omega)]; exact hr j hj)
              rw [← q1]
              exact ii
          · simp only [if_neg hv]
            have ha : fX5_adds v stc = some (-1, stc) := by
              unfold fX5_adds
              rw [in_eq v 0 18 0 18 rfl rfl, gate, if_neg hv]
            rw [cl2_mk ha, if_neg (by decide), f1, cl1_s]
            exact ⟨_, _, _, _, _, rfl, rfl, f2, f3⟩
        · simp only [if_neg u]
          unfold fX5_read_L123 fX5_read_L171
          rw [if_neg d20, bnd_s, nI_1, (stop 2 d20).2]
          have sp := (stop 2 d20).1
          rw [q1] at sp
          rw [cl1_s, cl1_s, if_neg d20, sp]
          exact ⟨_, _, _, _, _, rfl, rfl, hRN, hf⟩
      · have d30 : ¬ (3 : Int32) = 0 := by decide
        rw [if_neg hl, if_neg hl]
        unfold fX5_read_L123 fX5_read_L171
        rw [if_neg d30, bnd_s, nI_1, (stop 3 d30).2, cl1_s, if_neg d30, (stop 3 d30).1]
        exact ⟨_, _, _, _, _, rfl, rfl, hRN, hf⟩
theorem read1 (a2 a3 tf : Int32) {N : Nat} (hN : N ≤ 40) (hnt : nt ≤ 9999) (g : GR (900 * (i0 : Int)) 0 na ns nt st hand kind slack place turn way stroke) (hH : RH 1 l1 s1 c1 lanes lengths rc) : ∀ (q i n1 n2 : Nat) (stc strc : Nat → Int32), i + q = N → q + 1 < n1 → q + 1 < n2 → (i = 0 ∨ (0 ≤ a3.toInt ∧ a3.toInt + i ≤ 40)) → GR (900 * (i0 : Int)) 0 na (ns + i) nt stc hand kind slack place turn way strc → (∀ j, j < 40 → stc (120 + j) = st j) → FrI st stc → (∀ j, j < ns → strc j = stroke j) →
    ∃ (qr tf' ns' : Int32) (str' st' : Nat → Int32), fX4_read_L52a l0 s0 c0 l1 s1 c1 l2 s2 c2 l3 s3 c3 n1 a2 a3 (nI N) (nI ns) 0 (nI i) tf (nI (ns + i)) strc = some (qr, tf', ns', str') ∧ fX5_read_L55 lanes lengths rc n2 1 a2 a3 (nI N) 0 (nI i) (nI i) tf stc = some (qr, tf', st') ∧ RN (i0 + 1) st' (nI na) ns' hand (nI nt) kind slack place turn way str' ∧ FrI st st' := by
  have cz : (1 : Int32).toNatClampNeg = 1 := by decide
  have cx : xin (1 : Int32) 4 := by decide
  intro q
  induction q with
  | zero =>
    intro i n1 n2 stc strc hi hn1 hn2 ho gc hs hf hr
    obtain ⟨n1, rfl⟩ : ∃ z, n1 = z + 1 := ⟨n1 - 1, by omega⟩
    obtain ⟨n2, rfl⟩ : ∃ z, n2 = z + 1 := ⟨n2 - 1, by omega⟩
    have e : i = N := by omega
    subst e
    rw [fX4_read_L52a, fX5_read_L55]
    rw [if_pos (Int32.le_refl _), if_pos (Int32.le_refl _)]
    exact ⟨_, _, _, _, _, rfl, rfl, ⟨na, ns + i, nt, rfl, rfl, rfl, hnt, gc.up (by omega)⟩, hf⟩
  | succ q ih =>
    intro i n1 n2 stc strc hi hn1 hn2 ho gc hs hf hr
    obtain ⟨n1, rfl⟩ : ∃ z, n1 = z + 1 + 1 := ⟨n1 - 2, by omega⟩
    obtain ⟨n2, rfl⟩ : ∃ z, n2 = z + 1 + 1 := ⟨n2 - 2, by omega⟩
    have hle : ¬ nI N ≤ nI i := fun q => by have := (nI_leI (by omega) (by omega)).mp q; omega
    have hRN : RN (i0 + 1) stc (nI na) (nI (ns + i)) hand (nI nt) kind slack place turn way strc := ⟨na, ns + i, nt, rfl, rfl, rfl, hnt, gc.up (by omega)⟩
    have stop : ∀ z : Int32, ¬ z = 0 → fX4_read_L52a l0 s0 c0 l1 s1 c1 l2 s2 c2 l3 s3 c3 (n1 + 1) a2 a3 (nI N) (nI ns) z (nI i) tf (nI (ns + i)) strc = some (nI i, z, nI (ns + i), strc) ∧ fX5_read_L55 lanes lengths rc (n2 + 1) 1 a2 a3 (nI N) z (nI i) (nI (i + 1)) tf stc = some (nI i, z, stc) := fun z hz => by
      refine ⟨?_, ?_⟩
      · rw [fX4_read_L52a]
        rw [if_neg hle, if_neg hz]
      · rw [fX5_read_L55]
        rw [if_neg hz]
        split <;> rfl
    have e0 : (nI i).toInt = i := nI_toInt (by omega)
    have h3 := i_rng a3
    have hx : (a3 + nI i).toInt = a3.toInt + (nI i).toInt := i_add (by omega) (by omega)
    rw [fX4_read_L52a, fX5_read_L55]
    rw [if_neg hle, if_neg hle, if_pos rfl, if_pos rfl, chk_pos cx, cz]
    unfold fX1_faultTakenAs fX1_faultTakenAs_L20 fX1_faultAt
    rcases hH with ⟨q1, q2⟩ | ⟨m, hm, q1, q2, q3, q4, q5⟩
    · rw [if_pos q1, if_pos q1, if_pos q2]
      unfold fX5_read_L123 fX5_read_L171
      rw [if_neg d10, bnd_s, nI_1, (stop 1 d10).2]
      show ∃ (qr tf' ns' : Int32) (str' st' : Nat → Int32), fX4_read_L52a l0 s0 c0 l1 s1 c1 l2 s2 c2 l3 s3 c3 (n1 + 1) a2 a3 (nI N) (nI ns) 1 (nI i) tf (nI (ns + i)) strc = some (qr, tf', ns', str') ∧ _
      rw [(stop 1 d10).1]
      exact ⟨_, _, _, _, _, rfl, rfl, hRN, hf⟩
    · rw [if_neg (show ¬ s1 = -1 by rw [q1]; exact nI_m1 (by omega)), if_neg (show ¬ s1 = -1 by rw [q1]; exact nI_m1 (by omega)), if_neg (show ¬ lanes 1 = -4 by rw [← q3]; exact lane_n4 q4), ← q3, chk_pos cx]
      by_cases hl : l1 = a2
      · rw [if_pos hl, if_pos hl, chk_pos cx, q2, q1, w_eq, gate, l_add hx, in_eq (a3 + nI i) 0 (nI m - 1) 0 _ rfl rfl, gate]
        by_cases u : 0 ≤ a3 + nI i ∧ a3 + nI i ≤ nI m - 1
        · simp only [if_pos u]
          obtain ⟨p, hp, ep⟩ := of_idx (by omega) u.1 u.2
          have ep' : a3.toInt + i = p := by
            have e1 : (a3 + nI i).toInt = (nI p).toInt := by rw [ep]
            rw [hx, e0, nI_toInt (by omega)] at e1
            exact e1
          rw [cl1_s, cl1_s, if_pos rfl, ep]
          unfold fX5_read_L123
          rw [if_pos rfl, bnd_s, bnd_s, Int32.add_assoc, ep, show (40 : Int32) * 1 + nI p = nI (40 + p) from nI_add 40 p, chk_pos (xin_nI (by omega) (by omega)), chk_pos (xin_nI (by omega) (by omega)), cN (by omega), cN (by omega), q5 p hp]
          generalize rc (40 * 1 + p) = v
          obtain ⟨f1, f2, f3⟩ := refuse_r hnt g hs hf hr
          rw [ss_eq, gate]
          by_cases hv : 0 ≤ v ∧ v ≤ 18
          · simp only [if_pos hv]
            have h37 : stc 37 = nI (ns + i) := by have := gc.2.2.2.1; rw [Nat.zero_add] at this; exact this
            have h16 := gc.2.1
            by_cases hful : ns + i = 16
            · have ha : fX5_adds v stc = some (-3, stc) := by
                unfold fX5_adds
                rw [in_eq v 0 18 0 18 rfl rfl, gate, if_pos hv, chk_pos (by decide), cl_37, if_pos (show stc 37 = (16 : Int32) from h37.trans (by rw [hful]; rfl))]
              have hb : fX0_appendStroke (v - 9) (nI (ns + i)) strc = some (0, nI (ns + i), strc) := by
                unfold fX0_appendStroke
                rw [hful, if_neg (by decide)]
              rw [cl2_mk ha, cl3_mk hb, if_pos rfl, if_neg (by decide), f1, cl1_s]
              exact ⟨_, _, _, _, _, rfl, rfl, f2, f3⟩
            · have hv9 := v9 hv
              rw [cl2_mk (adds_r (by omega) hv h37), cl3_mk (add_c (by omega) _ _), if_neg d10, if_pos (nI_pos' (by omega)), bnd_s, bnd_s]
              unfold fX5_read_L171
              rw [bnd_s, nI_1]
              have ga := gc.add (by omega) hv9.1 hv9.2
              simp only [Nat.zero_add] at ga
              have ii := ih (i + 1) (n1 + 1) (n2 + 1) _ _ (by omega) (by omega) (by omega) (Or.inr ⟨by omega, by omega⟩) ga (fun j hj => by rw [upd_n _ _ (by omega), upd_n _ _ (by omega)]; exact hs j hj) (fun j h1 h2 => by rw [upd_n _ _ (by omega), upd_n _ _ (by omega)]; exact hf j h1 h2) (fun j hj => by rw [upd_n _ _ (by omega)]; exact hr j hj)
              rw [← q1]
              exact ii
          · simp only [if_neg hv]
            have ha : fX5_adds v stc = some (-1, stc) := by
              unfold fX5_adds
              rw [in_eq v 0 18 0 18 rfl rfl, gate, if_neg hv]
            rw [cl2_mk ha, if_neg (by decide), f1, cl1_s]
            exact ⟨_, _, _, _, _, rfl, rfl, f2, f3⟩
        · simp only [if_neg u]
          unfold fX5_read_L123 fX5_read_L171
          rw [if_neg d20, bnd_s, nI_1, (stop 2 d20).2]
          have sp := (stop 2 d20).1
          rw [q1] at sp
          rw [cl1_s, cl1_s, if_neg d20, sp]
          exact ⟨_, _, _, _, _, rfl, rfl, hRN, hf⟩
      · have d30 : ¬ (3 : Int32) = 0 := by decide
        rw [if_neg hl, if_neg hl]
        unfold fX5_read_L123 fX5_read_L171
        rw [if_neg d30, bnd_s, nI_1, (stop 3 d30).2, cl1_s, if_neg d30, (stop 3 d30).1]
        exact ⟨_, _, _, _, _, rfl, rfl, hRN, hf⟩
theorem read2 (a2 a3 tf : Int32) {N : Nat} (hN : N ≤ 40) (hnt : nt ≤ 9999) (g : GR (900 * (i0 : Int)) 0 na ns nt st hand kind slack place turn way stroke) (hH : RH 2 l2 s2 c2 lanes lengths rc) : ∀ (q i n1 n2 : Nat) (stc strc : Nat → Int32), i + q = N → q + 1 < n1 → q + 1 < n2 → (i = 0 ∨ (0 ≤ a3.toInt ∧ a3.toInt + i ≤ 40)) → GR (900 * (i0 : Int)) 0 na (ns + i) nt stc hand kind slack place turn way strc → (∀ j, j < 40 → stc (120 + j) = st j) → FrI st stc → (∀ j, j < ns → strc j = stroke j) →
    ∃ (qr tf' ns' : Int32) (str' st' : Nat → Int32), fX4_read_L52b l0 s0 c0 l1 s1 c1 l2 s2 c2 l3 s3 c3 n1 a2 a3 (nI N) (nI ns) 0 (nI i) tf (nI (ns + i)) strc = some (qr, tf', ns', str') ∧ fX5_read_L55 lanes lengths rc n2 2 a2 a3 (nI N) 0 (nI i) (nI i) tf stc = some (qr, tf', st') ∧ RN (i0 + 1) st' (nI na) ns' hand (nI nt) kind slack place turn way str' ∧ FrI st st' := by
  have cz : (2 : Int32).toNatClampNeg = 2 := by decide
  have cx : xin (2 : Int32) 4 := by decide
  intro q
  induction q with
  | zero =>
    intro i n1 n2 stc strc hi hn1 hn2 ho gc hs hf hr
    obtain ⟨n1, rfl⟩ : ∃ z, n1 = z + 1 := ⟨n1 - 1, by omega⟩
    obtain ⟨n2, rfl⟩ : ∃ z, n2 = z + 1 := ⟨n2 - 1, by omega⟩
    have e : i = N := by omega
    subst e
    rw [fX4_read_L52b, fX5_read_L55]
    rw [if_pos (Int32.le_refl _), if_pos (Int32.le_refl _)]
    exact ⟨_, _, _, _, _, rfl, rfl, ⟨na, ns + i, nt, rfl, rfl, rfl, hnt, gc.up (by omega)⟩, hf⟩
  | succ q ih =>
    intro i n1 n2 stc strc hi hn1 hn2 ho gc hs hf hr
    obtain ⟨n1, rfl⟩ : ∃ z, n1 = z + 1 + 1 := ⟨n1 - 2, by omega⟩
    obtain ⟨n2, rfl⟩ : ∃ z, n2 = z + 1 + 1 := ⟨n2 - 2, by omega⟩
    have hle : ¬ nI N ≤ nI i := fun q => by have := (nI_leI (by omega) (by omega)).mp q; omega
    have hRN : RN (i0 + 1) stc (nI na) (nI (ns + i)) hand (nI nt) kind slack place turn way strc := ⟨na, ns + i, nt, rfl, rfl, rfl, hnt, gc.up (by omega)⟩
    have stop : ∀ z : Int32, ¬ z = 0 → fX4_read_L52b l0 s0 c0 l1 s1 c1 l2 s2 c2 l3 s3 c3 (n1 + 1) a2 a3 (nI N) (nI ns) z (nI i) tf (nI (ns + i)) strc = some (nI i, z, nI (ns + i), strc) ∧ fX5_read_L55 lanes lengths rc (n2 + 1) 2 a2 a3 (nI N) z (nI i) (nI (i + 1)) tf stc = some (nI i, z, stc) := fun z hz => by
      refine ⟨?_, ?_⟩
      · rw [fX4_read_L52b]
        rw [if_neg hle, if_neg hz]
      · rw [fX5_read_L55]
        rw [if_neg hz]
        split <;> rfl
    have e0 : (nI i).toInt = i := nI_toInt (by omega)
    have h3 := i_rng a3
    have hx : (a3 + nI i).toInt = a3.toInt + (nI i).toInt := i_add (by omega) (by omega)
    rw [fX4_read_L52b, fX5_read_L55]
    rw [if_neg hle, if_neg hle, if_pos rfl, if_pos rfl, chk_pos cx, cz]
    unfold fX1_faultTakenAs fX1_faultTakenAs_L20 fX1_faultAt
    rcases hH with ⟨q1, q2⟩ | ⟨m, hm, q1, q2, q3, q4, q5⟩
    · rw [if_pos q1, if_pos q1, if_pos q2]
      unfold fX5_read_L123 fX5_read_L171
      rw [if_neg d10, bnd_s, nI_1, (stop 1 d10).2]
      show ∃ (qr tf' ns' : Int32) (str' st' : Nat → Int32), fX4_read_L52b l0 s0 c0 l1 s1 c1 l2 s2 c2 l3 s3 c3 (n1 + 1) a2 a3 (nI N) (nI ns) 1 (nI i) tf (nI (ns + i)) strc = some (qr, tf', ns', str') ∧ _
      rw [(stop 1 d10).1]
      exact ⟨_, _, _, _, _, rfl, rfl, hRN, hf⟩
    · rw [if_neg (show ¬ s2 = -1 by rw [q1]; exact nI_m1 (by omega)), if_neg (show ¬ s2 = -1 by rw [q1]; exact nI_m1 (by omega)), if_neg (show ¬ lanes 2 = -4 by rw [← q3]; exact lane_n4 q4), ← q3, chk_pos cx]
      by_cases hl : l2 = a2
      · rw [if_pos hl, if_pos hl, chk_pos cx, q2, q1, w_eq, gate, l_add hx, in_eq (a3 + nI i) 0 (nI m - 1) 0 _ rfl rfl, gate]
        by_cases u : 0 ≤ a3 + nI i ∧ a3 + nI i ≤ nI m - 1
        · simp only [if_pos u]
          obtain ⟨p, hp, ep⟩ := of_idx (by omega) u.1 u.2
          have ep' : a3.toInt + i = p := by
            have e1 : (a3 + nI i).toInt = (nI p).toInt := by rw [ep]
            rw [hx, e0, nI_toInt (by omega)] at e1
            exact e1
          rw [cl1_s, cl1_s, if_pos rfl, ep]
          unfold fX5_read_L123
          rw [if_pos rfl, bnd_s, bnd_s, Int32.add_assoc, ep, show (40 : Int32) * 2 + nI p = nI (80 + p) from nI_add 80 p, chk_pos (xin_nI (by omega) (by omega)), chk_pos (xin_nI (by omega) (by omega)), cN (by omega), cN (by omega), q5 p hp]
          generalize rc (40 * 2 + p) = v
          obtain ⟨f1, f2, f3⟩ := refuse_r hnt g hs hf hr
          rw [ss_eq, gate]
          by_cases hv : 0 ≤ v ∧ v ≤ 18
          · simp only [if_pos hv]
            have h37 : stc 37 = nI (ns + i) := by have := gc.2.2.2.1; rw [Nat.zero_add] at this; exact this
            have h16 := gc.2.1
            by_cases hful : ns + i = 16
            · have ha : fX5_adds v stc = some (-3, stc) := by
                unfold fX5_adds
                rw [in_eq v 0 18 0 18 rfl rfl, gate, if_pos hv, chk_pos (by decide), cl_37, if_pos (show stc 37 = (16 : Int32) from h37.trans (by rw [hful]; rfl))]
              have hb : fX0_appendStroke (v - 9) (nI (ns + i)) strc = some (0, nI (ns + i), strc) := by
                unfold fX0_appendStroke
                rw [hful, if_neg (by decide)]
              rw [cl2_mk ha, cl3_mk hb, if_pos rfl, if_neg (by decide), f1, cl1_s]
              exact ⟨_, _, _, _, _, rfl, rfl, f2, f3⟩
            · have hv9 := v9 hv
              rw [cl2_mk (adds_r (by omega) hv h37), cl3_mk (add_c (by omega) _ _), if_neg d10, if_pos (nI_pos' (by omega)), bnd_s, bnd_s]
              unfold fX5_read_L171
              rw [bnd_s, nI_1]
              have ga := gc.add (by omega) hv9.1 hv9.2
              simp only [Nat.zero_add] at ga
              have ii := ih (i + 1) (n1 + 1) (n2 + 1) _ _ (by omega) (by omega) (by omega) (Or.inr ⟨by omega, by omega⟩) ga (fun j hj => by rw [upd_n _ _ (by omega), upd_n _ _ (by omega)]; exact hs j hj) (fun j h1 h2 => by rw [upd_n _ _ (by omega), upd_n _ _ (by omega)]; exact hf j h1 h2) (fun j hj => by rw [upd_n _ _ (by omega)]; exact hr j hj)
              rw [← q1]
              exact ii
          · simp only [if_neg hv]
            have ha : fX5_adds v stc = some (-1, stc) := by
              unfold fX5_adds
              rw [in_eq v 0 18 0 18 rfl rfl, gate, if_neg hv]
            rw [cl2_mk ha, if_neg (by decide), f1, cl1_s]
            exact ⟨_, _, _, _, _, rfl, rfl, f2, f3⟩
        · simp only [if_neg u]
          unfold fX5_read_L123 fX5_read_L171
          rw [if_neg d20, bnd_s, nI_1, (stop 2 d20).2]
          have sp := (stop 2 d20).1
          rw [q1] at sp
          rw [cl1_s, cl1_s, if_neg d20, sp]
          exact ⟨_, _, _, _, _, rfl, rfl, hRN, hf⟩
      · have d30 : ¬ (3 : Int32) = 0 := by decide
        rw [if_neg hl, if_neg hl]
        unfold fX5_read_L123 fX5_read_L171
        rw [if_neg d30, bnd_s, nI_1, (stop 3 d30).2, cl1_s, if_neg d30, (stop 3 d30).1]
        exact ⟨_, _, _, _, _, rfl, rfl, hRN, hf⟩
theorem read3 (a2 a3 tf : Int32) {N : Nat} (hN : N ≤ 40) (hnt : nt ≤ 9999) (g : GR (900 * (i0 : Int)) 0 na ns nt st hand kind slack place turn way stroke) (hH : RH 3 l3 s3 c3 lanes lengths rc) : ∀ (q i n1 n2 : Nat) (stc strc : Nat → Int32), i + q = N → q + 1 < n1 → q + 1 < n2 → (i = 0 ∨ (0 ≤ a3.toInt ∧ a3.toInt + i ≤ 40)) → GR (900 * (i0 : Int)) 0 na (ns + i) nt stc hand kind slack place turn way strc → (∀ j, j < 40 → stc (120 + j) = st j) → FrI st stc → (∀ j, j < ns → strc j = stroke j) →
    ∃ (qr tf' ns' : Int32) (str' st' : Nat → Int32), fX4_read_L52c l0 s0 c0 l1 s1 c1 l2 s2 c2 l3 s3 c3 n1 a2 a3 (nI N) (nI ns) 0 (nI i) tf (nI (ns + i)) strc = some (qr, tf', ns', str') ∧ fX5_read_L55 lanes lengths rc n2 3 a2 a3 (nI N) 0 (nI i) (nI i) tf stc = some (qr, tf', st') ∧ RN (i0 + 1) st' (nI na) ns' hand (nI nt) kind slack place turn way str' ∧ FrI st st' := by
  have cz : (3 : Int32).toNatClampNeg = 3 := by decide
  have cx : xin (3 : Int32) 4 := by decide
  intro q
  induction q with
  | zero =>
    intro i n1 n2 stc strc hi hn1 hn2 ho gc hs hf hr
    obtain ⟨n1, rfl⟩ : ∃ z, n1 = z + 1 := ⟨n1 - 1, by omega⟩
    obtain ⟨n2, rfl⟩ : ∃ z, n2 = z + 1 := ⟨n2 - 1, by omega⟩
    have e : i = N := by omega
    subst e
    rw [fX4_read_L52c, fX5_read_L55]
    rw [if_pos (Int32.le_refl _), if_pos (Int32.le_refl _)]
    exact ⟨_, _, _, _, _, rfl, rfl, ⟨na, ns + i, nt, rfl, rfl, rfl, hnt, gc.up (by omega)⟩, hf⟩
  | succ q ih =>
    intro i n1 n2 stc strc hi hn1 hn2 ho gc hs hf hr
    obtain ⟨n1, rfl⟩ : ∃ z, n1 = z + 1 + 1 := ⟨n1 - 2, by omega⟩
    obtain ⟨n2, rfl⟩ : ∃ z, n2 = z + 1 + 1 := ⟨n2 - 2, by omega⟩
    have hle : ¬ nI N ≤ nI i := fun q => by have := (nI_leI (by omega) (by omega)).mp q; omega
    have hRN : RN (i0 + 1) stc (nI na) (nI (ns + i)) hand (nI nt) kind slack place turn way strc := ⟨na, ns + i, nt, rfl, rfl, rfl, hnt, gc.up (by omega)⟩
    have stop : ∀ z : Int32, ¬ z = 0 → fX4_read_L52c l0 s0 c0 l1 s1 c1 l2 s2 c2 l3 s3 c3 (n1 + 1) a2 a3 (nI N) (nI ns) z (nI i) tf (nI (ns + i)) strc = some (nI i, z, nI (ns + i), strc) ∧ fX5_read_L55 lanes lengths rc (n2 + 1) 3 a2 a3 (nI N) z (nI i) (nI (i + 1)) tf stc = some (nI i, z, stc) := fun z hz => by
      refine ⟨?_, ?_⟩
      · rw [fX4_read_L52c]
        rw [if_neg hle, if_neg hz]
      · rw [fX5_read_L55]
        rw [if_neg hz]
        split <;> rfl
    have e0 : (nI i).toInt = i := nI_toInt (by omega)
    have h3 := i_rng a3
    have hx : (a3 + nI i).toInt = a3.toInt + (nI i).toInt := i_add (by omega) (by omega)
    rw [fX4_read_L52c, fX5_read_L55]
    rw [if_neg hle, if_neg hle, if_pos rfl, if_pos rfl, chk_pos cx, cz]
    unfold fX1_faultTakenAs fX1_faultTakenAs_L20 fX1_faultAt
    rcases hH with ⟨q1, q2⟩ | ⟨m, hm, q1, q2, q3, q4, q5⟩
    · rw [if_pos q1, if_pos q1, if_pos q2]
      unfold fX5_read_L123 fX5_read_L171
      rw [if_neg d10, bnd_s, nI_1, (stop 1 d10).2]
      show ∃ (qr tf' ns' : Int32) (str' st' : Nat → Int32), fX4_read_L52c l0 s0 c0 l1 s1 c1 l2 s2 c2 l3 s3 c3 (n1 + 1) a2 a3 (nI N) (nI ns) 1 (nI i) tf (nI (ns + i)) strc = some (qr, tf', ns', str') ∧ _
      rw [(stop 1 d10).1]
      exact ⟨_, _, _, _, _, rfl, rfl, hRN, hf⟩
    · rw [if_neg (show ¬ s3 = -1 by rw [q1]; exact nI_m1 (by omega)), if_neg (show ¬ s3 = -1 by rw [q1]; exact nI_m1 (by omega)), if_neg (show ¬ lanes 3 = -4 by rw [← q3]; exact lane_n4 q4), ← q3, chk_pos cx]
      by_cases hl : l3 = a2
      · rw [if_pos hl, if_pos hl, chk_pos cx, q2, q1, w_eq, gate, l_add hx, in_eq (a3 + nI i) 0 (nI m - 1) 0 _ rfl rfl, gate]
        by_cases u : 0 ≤ a3 + nI i ∧ a3 + nI i ≤ nI m - 1
        · simp only [if_pos u]
          obtain ⟨p, hp, ep⟩ := of_idx (by omega) u.1 u.2
          have ep' : a3.toInt + i = p := by
            have e1 : (a3 + nI i).toInt = (nI p).toInt := by rw [ep]
            rw [hx, e0, nI_toInt (by omega)] at e1
            exact e1
          rw [cl1_s, cl1_s, if_pos rfl, ep]
          unfold fX5_read_L123
          rw [if_pos rfl, bnd_s, bnd_s, Int32.add_assoc, ep, show (40 : Int32) * 3 + nI p = nI (120 + p) from nI_add 120 p, chk_pos (xin_nI (by omega) (by omega)), chk_pos (xin_nI (by omega) (by omega)), cN (by omega), cN (by omega), q5 p hp]
          generalize rc (40 * 3 + p) = v
          obtain ⟨f1, f2, f3⟩ := refuse_r hnt g hs hf hr
          rw [ss_eq, gate]
          by_cases hv : 0 ≤ v ∧ v ≤ 18
          · simp only [if_pos hv]
            have h37 : stc 37 = nI (ns + i) := by have := gc.2.2.2.1; rw [Nat.zero_add] at this; exact this
            have h16 := gc.2.1
            by_cases hful : ns + i = 16
            · have ha : fX5_adds v stc = some (-3, stc) := by
                unfold fX5_adds
                rw [in_eq v 0 18 0 18 rfl rfl, gate, if_pos hv, chk_pos (by decide), cl_37, if_pos (show stc 37 = (16 : Int32) from h37.trans (by rw [hful]; rfl))]
              have hb : fX0_appendStroke (v - 9) (nI (ns + i)) strc = some (0, nI (ns + i), strc) := by
                unfold fX0_appendStroke
                rw [hful, if_neg (by decide)]
              rw [cl2_mk ha, cl3_mk hb, if_pos rfl, if_neg (by decide), f1, cl1_s]
              exact ⟨_, _, _, _, _, rfl, rfl, f2, f3⟩
            · have hv9 := v9 hv
              rw [cl2_mk (adds_r (by omega) hv h37), cl3_mk (add_c (by omega) _ _), if_neg d10, if_pos (nI_pos' (by omega)), bnd_s, bnd_s]
              unfold fX5_read_L171
              rw [bnd_s, nI_1]
              have ga := gc.add (by omega) hv9.1 hv9.2
              simp only [Nat.zero_add] at ga
              have ii := ih (i + 1) (n1 + 1) (n2 + 1) _ _ (by omega) (by omega) (by omega) (Or.inr ⟨by omega, by omega⟩) ga (fun j hj => by rw [upd_n _ _ (by omega), upd_n _ _ (by omega)]; exact hs j hj) (fun j h1 h2 => by rw [upd_n _ _ (by omega), upd_n _ _ (by omega)]; exact hf j h1 h2) (fun j hj => by rw [upd_n _ _ (by omega)]; exact hr j hj)
              rw [← q1]
              exact ii
          · simp only [if_neg hv]
            have ha : fX5_adds v stc = some (-1, stc) := by
              unfold fX5_adds
              rw [in_eq v 0 18 0 18 rfl rfl, gate, if_neg hv]
            rw [cl2_mk ha, if_neg (by decide), f1, cl1_s]
            exact ⟨_, _, _, _, _, rfl, rfl, f2, f3⟩
        · simp only [if_neg u]
          unfold fX5_read_L123 fX5_read_L171
          rw [if_neg d20, bnd_s, nI_1, (stop 2 d20).2]
          have sp := (stop 2 d20).1
          rw [q1] at sp
          rw [cl1_s, cl1_s, if_neg d20, sp]
          exact ⟨_, _, _, _, _, rfl, rfl, hRN, hf⟩
      · have d30 : ¬ (3 : Int32) = 0 := by decide
        rw [if_neg hl, if_neg hl]
        unfold fX5_read_L123 fX5_read_L171
        rw [if_neg d30, bnd_s, nI_1, (stop 3 d30).2, cl1_s, if_neg d30, (stop 3 d30).1]
        exact ⟨_, _, _, _, _, rfl, rfl, hRN, hf⟩
theorem op_read (a1 a2 a3 a4 tf : Int32) {arms strokes step : Int32} (hN : RN i0 st arms strokes hand step kind slack place turn way stroke) (h0 : RH 0 l0 s0 c0 lanes lengths rc) (h1 : RH 1 l1 s1 c1 lanes lengths rc) (h2 : RH 2 l2 s2 c2 lanes lengths rc) (h3 : RH 3 l3 s3 c3 lanes lengths rc) : ∃ (qr tf' strokes' : Int32) (stroke' st' : Nat → Int32), fX4_read a1 a2 a3 a4 tf strokes stroke l0 s0 c0 l1 s1 c1 l2 s2 c2 l3 s3 c3 = some (qr, tf', strokes', stroke') ∧ fX5_read a1 a2 a3 a4 tf st lanes lengths rc = some (qr, tf', st') ∧ RN (i0 + 1) st' arms strokes' hand step kind slack place turn way stroke' ∧ FrI st st' := by
  have hN0 := hN
  obtain ⟨na, ns, nt, rfl, rfl, rfl, hnt, g⟩ := hN
  unfold fX4_read fX5_read
  rw [sh_eq, gate, w_eq, gate, w_eq, gate, in_eq a1 0 3 0 3 rfl rfl, gate, in_eq a2 0 2 0 2 rfl rfl, gate, in_eq a4 0 40 0 40 rfl rfl, gate]
  by_cases u1 : 0 ≤ a1 ∧ a1 ≤ 3
  · simp only [if_pos u1]
    by_cases u2 : 0 ≤ a2 ∧ a2 ≤ 2
    · simp only [if_pos u2]
      by_cases u3 : 0 ≤ a4 ∧ a4 ≤ 40
      · simp only [if_pos u3]
        obtain ⟨N, hN, rfl⟩ := of_rng u3.1 u3.2 (n := 40) rfl
        have hc : fX5_copies 0 120 st = some (cpv 0 120 40 st) := copies_r (f := 0) (t := 120) (by decide) (by decide) (by decide) st
        have gc : GR (900 * (i0 : Int)) 0 na (ns + 0) nt (cpv 0 120 40 st) hand kind slack place turn way stroke := g.page (fun j hj => cpv_out (by omega))
        have hs : ∀ j, j < 40 → cpv 0 120 40 st (120 + j) = st j := fun j hj => by rw [cpv_in (by omega) (by omega), show 0 + (120 + j - 120) = j by omega]
        have hf : FrI st (cpv 0 120 40 st) := fun j h1 h2 => cpv_out (by omega)
        rw [hc, cl1_s]
        rcases of3 u1 with rfl | rfl | rfl | rfl
        · have rr := read0 (l0 := l0) (s0 := s0) (c0 := c0) (l1 := l1) (s1 := s1) (c1 := c1) (l2 := l2) (s2 := s2) (c2 := c2) (l3 := l3) (s3 := s3) (c3 := c3) a2 a3 tf hN hnt g h0 N 0 xF xF _ _ (by omega) (by show N + 1 < 1000; omega) (by show N + 1 < 1000; omega) (Or.inl rfl) gc hs hf (fun _ _ => rfl)
          rw [nI_0] at rr
          rw [chk_pos (by decide), if_pos rfl]
          exact rr
        · have rr := read1 (l0 := l0) (s0 := s0) (c0 := c0) (l1 := l1) (s1 := s1) (c1 := c1) (l2 := l2) (s2 := s2) (c2 := c2) (l3 := l3) (s3 := s3) (c3 := c3) a2 a3 tf hN hnt g h1 N 0 xF xF _ _ (by omega) (by show N + 1 < 1000; omega) (by show N + 1 < 1000; omega) (Or.inl rfl) gc hs hf (fun _ _ => rfl)
          rw [nI_0] at rr
          rw [chk_pos (by decide), if_neg (show ¬ (1 : Int32) = 0 by decide), if_pos rfl]
          exact rr
        · have rr := read2 (l0 := l0) (s0 := s0) (c0 := c0) (l1 := l1) (s1 := s1) (c1 := c1) (l2 := l2) (s2 := s2) (c2 := c2) (l3 := l3) (s3 := s3) (c3 := c3) a2 a3 tf hN hnt g h2 N 0 xF xF _ _ (by omega) (by show N + 1 < 1000; omega) (by show N + 1 < 1000; omega) (Or.inl rfl) gc hs hf (fun _ _ => rfl)
          rw [nI_0] at rr
          rw [chk_pos (by decide), if_neg (show ¬ (2 : Int32) = 0 by decide), if_neg (show ¬ (2 : Int32) = 1 by decide), if_pos rfl]
          exact rr
        · have rr := read3 (l0 := l0) (s0 := s0) (c0 := c0) (l1 := l1) (s1 := s1) (c1 := c1) (l2 := l2) (s2 := s2) (c2 := c2) (l3 := l3) (s3 := s3) (c3 := c3) a2 a3 tf hN hnt g h3 N 0 xF xF _ _ (by omega) (by show N + 1 < 1000; omega) (by show N + 1 < 1000; omega) (Or.inl rfl) gc hs hf (fun _ _ => rfl)
          rw [nI_0] at rr
          rw [chk_pos (by decide), if_neg (show ¬ (3 : Int32) = 0 by decide), if_neg (show ¬ (3 : Int32) = 1 by decide), if_neg (show ¬ (3 : Int32) = 2 by decide), if_pos rfl]
          exact rr
      · simp only [if_neg u3]
        exact ⟨_, _, _, _, _, rfl, rfl, hN0.up, fun _ _ _ => rfl⟩
    · simp only [if_neg u2]
      exact ⟨_, _, _, _, _, rfl, rfl, hN0.up, fun _ _ _ => rfl⟩
  · simp only [if_neg u1]
    exact ⟨_, _, _, _, _, rfl, rfl, hN0.up, fun _ _ _ => rfl⟩
end OPr
