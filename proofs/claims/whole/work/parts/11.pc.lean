-- questions: again, drift
theorem sub_sw {a b c d : Int32} {M : Int} (hM : M ≤ 1000000) (ha : -M ≤ a.toInt ∧ a.toInt ≤ M) (hb : -M ≤ b.toInt ∧ b.toInt ≤ M) (hc : -M ≤ c.toInt ∧ c.toInt ≤ M) (hd : -M ≤ d.toInt ∧ d.toInt ≤ M) : a - b = c - d ↔ a - c = b - d := by
  rw [i_eq, i_eq, i_sub (by omega) (by omega), i_sub (by omega) (by omega), i_sub (by omega) (by omega), i_sub (by omega) (by omega)]
  omega
theorem mod_sw {n k s : Nat} (hs : 0 < s) : (n + k) % s = n % s ↔ k % s = 0 := by
  constructor
  · intro h
    have h1 := Nat.div_add_mod (n + k) s
    have h2 := Nat.div_add_mod n s
    rw [h] at h1
    have h3 : k = s * ((n + k) / s) - s * (n / s) := by omega
    rw [← Nat.mul_sub] at h3
    rw [h3]
    exact Nat.mul_mod_right s _
  · intro h
    rw [Nat.add_mod, h, Nat.add_zero, Nat.mod_mod]
theorem L70_0 {k18 : Int32 → Int32 → Int32 → Int32 → (Nat → Int32) → Option (Int32 × Int32 × Int32 × (Nat → Int32))} {na : Nat} (hna : na ≤ 4) {stc : Nat → Int32} (h20 : stc 20 = nI na) (x1 x3 m t : Int32) (k : Nat) : ∀ (q j n : Nat), j + q = na → q < n → fX5_again_L70 k18 n x1 (nI k) x3 0 (nI j) m t stc = k18 x1 (nI (k + 1)) m t stc := by
  have c20 : xin (20 : Int32) 240 := by decide
  intro q
  induction q with
  | zero =>
    intro j n hj hn
    obtain ⟨n, rfl⟩ : ∃ z, n = z + 1 := ⟨n - 1, by omega⟩
    have e : j = na := by omega
    subst e
    rw [fX5_again_L70]
    rw [chk_pos c20, cl_20, h20, if_pos (Int32.le_refl _), if_pos rfl, bnd_s, nI_1]
  | succ q ih =>
    intro j n hj hn
    obtain ⟨n, rfl⟩ : ∃ z, n = z + 1 := ⟨n - 1, by omega⟩
    rw [fX5_again_L70]
    rw [chk_pos c20, cl_20, h20, if_neg (fun q => by have := (nI_leI (by omega) (by omega)).mp q; omega), if_pos rfl]
    unfold fX5_again_L165 fX5_again_L166
    rw [bnd_s, nI_1]
    exact ih (j + 1) n (by omega) (by omega)
theorem stands_both {k18 : Int32 → Int32 → Int32 → Int32 → (Nat → Int32) → Option (Int32 × Int32 × Int32 × (Nat → Int32))} {B : Int} (hB : B ≤ 1000000) {na ns nt nt' : Nat} {stc : Nat → Int32} {hd hand : Int32} {K S P T W R kind slack place turn way stroke : Nat → Int32} (g1 : GR B 160 na ns nt' stc hd K S P T W R) (g0 : GR B 0 na ns nt stc hand kind slack place turn way stroke) (x1 m t z1 z2 z3 z4 : Int32) (k : Nat) : ∀ (q j n1 n2 : Nat), j + q = na → q < n1 → q < n2 →
    (fX0_standsAs_L26 (nI na) z1 hd z2 P T W (nI na) z3 hand z4 place turn way n1 (nI j) = some 1 ∧ fX5_again_L70 k18 n2 x1 (nI k) (stc 198 - stc 38) 1 (nI j) m t stc = some (nI k, m, t, stc)) ∨ (fX0_standsAs_L26 (nI na) z1 hd z2 P T W (nI na) z3 hand z4 place turn way n1 (nI j) = some 0 ∧ fX5_again_L70 k18 n2 x1 (nI k) (stc 198 - stc 38) 1 (nI j) m t stc = k18 x1 (nI (k + 1)) m t stc) := by
  have c20 : xin (20 : Int32) 240 := by decide
  have hna := g1.1
  have h20 : stc 20 = nI na := by have := g0.2.2.1; rw [Nat.zero_add] at this; exact this
  intro q
  induction q with
  | zero =>
    intro j n1 n2 hj hn1 hn2
    obtain ⟨n1, rfl⟩ : ∃ z, n1 = z + 1 := ⟨n1 - 1, by omega⟩
    obtain ⟨n2, rfl⟩ : ∃ z, n2 = z + 1 := ⟨n2 - 1, by omega⟩
    have e : j = na := by omega
    subst e
    refine Or.inl ⟨?_, ?_⟩
    · rw [fX0_standsAs_L26]
      rw [if_pos (Int32.le_refl _)]
    · rw [fX5_again_L70]
      rw [chk_pos c20, cl_20, h20, if_pos (Int32.le_refl _), if_neg d10]
  | succ q ih =>
    intro j n1 n2 hj hn1 hn2
    obtain ⟨n1, rfl⟩ : ∃ z, n1 = z + 1 := ⟨n1 - 1, by omega⟩
    obtain ⟨n2, rfl⟩ : ∃ z, n2 = z + 1 := ⟨n2 - 1, by omega⟩
    have hle : ¬ nI na ≤ nI j := fun q => by have := (nI_leI (by omega) (by omega)).mp q; omega
    obtain ⟨-, -, a3, a4, a5⟩ := g1.2.2.2.2.2.2.2.2.1 j (by omega)
    obtain ⟨-, -, b3, b4, b5⟩ := g0.2.2.2.2.2.2.2.2.1 j (by omega)
    have ra := (g1.2.2.2.2.2.2.2.1 j (by omega)).2.2.1
    have rb := (g0.2.2.2.2.2.2.2.1 j (by omega)).2.2.1
    have ha : hd = stc 198 := g1.2.2.2.2.2.1
    have hb : hand = stc 38 := by have := g0.2.2.2.2.2.1; rw [Nat.zero_add] at this; exact this
    have rha := g1.2.2.2.2.2.2.1
    have rhb := g0.2.2.2.2.2.2.1
    simp only [Nat.zero_add] at b3 b4 b5 rb rhb
    rw [show 160 + 8 + j = 168 + j by omega] at a3 ra
    rw [show 160 + 12 + j = 172 + j by omega] at a4
    rw [show 160 + 16 + j = 176 + j by omega] at a5
    have sw := sub_sw hB ra rha rb rhb
    have no : fX5_again_L165 k18 (fX5_again_L70 k18 n2) x1 (nI k) (stc 198 - stc 38) (nI j) m t stc = k18 x1 (nI (k + 1)) m t stc := by
      unfold fX5_again_L165 fX5_again_L166
      rw [bnd_s, nI_1]
      exact L70_0 hna h20 x1 _ m t k q (j + 1) n2 (by omega) (by omega)
    rw [fX0_standsAs_L26, fX5_again_L70]
    rw [if_neg hle, chk_pos c20, cl_20, h20, if_neg hle, if_neg d10, no]
    simp only [show (168 : Int32) + nI j = nI (168 + j) from nI_add 168 j, show (8 : Int32) + nI j = nI (8 + j) from nI_add 8 j, show (176 : Int32) + nI j = nI (176 + j) from nI_add 176 j, show (16 : Int32) + nI j = nI (16 + j) from nI_add 16 j, show (172 : Int32) + nI j = nI (172 + j) from nI_add 172 j, show (12 : Int32) + nI j = nI (12 + j) from nI_add 12 j, chk_pos (xin_nI (show j < 4 by omega) (show j < 2 ^ 31 by omega)), chk_pos (xin_nI (show 168 + j < 240 by omega) (show 168 + j < 2 ^ 31 by omega)), chk_pos (xin_nI (show 8 + j < 240 by omega) (show 8 + j < 2 ^ 31 by omega)), chk_pos (xin_nI (show 176 + j < 240 by omega) (show 176 + j < 2 ^ 31 by omega)), chk_pos (xin_nI (show 16 + j < 240 by omega) (show 16 + j < 2 ^ 31 by omega)), chk_pos (xin_nI (show 172 + j < 240 by omega) (show 172 + j < 2 ^ 31 by omega)), chk_pos (xin_nI (show 12 + j < 240 by omega) (show 12 + j < 2 ^ 31 by omega)), cN (show j < 1000000 by omega), cN (show 168 + j < 1000000 by omega), cN (show 8 + j < 1000000 by omega), cN (show 176 + j < 1000000 by omega), cN (show 16 + j < 1000000 by omega), cN (show 172 + j < 1000000 by omega), cN (show 12 + j < 1000000 by omega), bnd_s, nI_1, a3, a4, a5, b3, b4, b5, ha, hb]
    by_cases u1 : stc (168 + j) - stc 198 = stc (8 + j) - stc 38
    · rw [if_pos u1, if_pos (sw.mp u1)]
      by_cases u2 : stc (176 + j) = stc (16 + j)
      · rw [if_pos u2, if_pos u2]
        by_cases u3 : stc (172 + j) = stc (12 + j)
        · rw [if_pos u3, if_pos u3]
          unfold fX5_again_L166
          rw [bnd_s, nI_1]
          have := ih (j + 1) n1 n2 (by omega) (by omega) (by omega)
          rw [ha, hb] at this
          exact this
        · rw [if_neg u3, if_neg u3]
          exact Or.inr ⟨rfl, rfl⟩
      · rw [if_neg u2, if_neg u2]
        exact Or.inr ⟨rfl, rfl⟩
    · rw [if_neg u1, if_neg (fun h => u1 (sw.mpr h))]
      exact Or.inr ⟨rfl, rfl⟩
section OPg
variable {i : Nat} {st : Nat → Int32} {arms strokes hand step : Int32} {kind slack place turn way stroke : Nat → Int32}
theorem again_loop {B0 : Int} {na ns nt : Nat} {K S R : Nat → Int32} (g : GR B0 0 na ns nt st hand kind slack place turn way stroke) : ∀ (q k : Nat) (B : Int) (n1 n2 : Nat) (stc : Nat → Int32) (hd tv rv m t : Int32) (P T W : Nat → Int32), k + q = 200 → q < n1 → q < n2 → 0 ≤ B → B0 ≤ B → B + 9 * (q + 1) ≤ 1000000 → nt ≤ 9999 → GR B 160 na ns (nt + k) stc hd K S P T W R → (∀ j, j < 40 → stc j = st j) →
    ∃ qr X m' t' st', fX4_again_L13 (nI na) (nI ns) hand (nI nt) kind slack place turn way stroke n1 (nI (k + 1)) (nI na) (nI ns) hd (nI (nt + k)) tv rv K S P T W R = some (qr, X) ∧ fX5_again_L18 n2 (nI ns) (nI (k + 1)) m t stc = some (qr, m', t', st') ∧ FrL stc st' := by
  intro q
  induction q with
  | zero =>
    intro k B n1 n2 stc hd tv rv m t P T W hk hn1 hn2 hB0 hB1 hB hnt g1 hp
    obtain ⟨n1, rfl⟩ : ∃ z, n1 = z + 1 := ⟨n1 - 1, by omega⟩
    obtain ⟨n2, rfl⟩ : ∃ z, n2 = z + 1 := ⟨n2 - 1, by omega⟩
    have e : k = 200 := by omega
    subst e
    rw [fX4_again_L13, fX5_again_L18]
    rw [if_pos (show (200 : Int32) < nI (200 + 1) by decide), if_pos (show (200 : Int32) < nI (200 + 1) by decide)]
    exact ⟨_, _, _, _, _, rfl, rfl, FrL.rf⟩
  | succ q ih =>
    intro k B n1 n2 stc hd tv rv m t P T W hk hn1 hn2 hB0 hB1 hB hnt g1 hp
    obtain ⟨n1, rfl⟩ : ∃ z, n1 = z + 1 := ⟨n1 - 1, by omega⟩
    obtain ⟨n2, rfl⟩ : ∃ z, n2 = z + 1 := ⟨n2 - 1, by omega⟩
    obtain ⟨h1, h2, p1, t1, w1, h3, h4⟩ := step_sim hB0 (by omega) (by decide) (by omega) g1
    have hlt : ¬ (200 : Int32) < nI (k + 1) := fun q => by have := (nI_ltI (a := 200) (by omega) (by omega)).mp q; omega
    have hp2 : ∀ j, j < 40 → nx 160 stc j = st j := fun j hj => (h2 j (by omega)).trans (hp j hj)
    have g0 : GR (B + 9) 0 na ns nt (nx 160 stc) hand kind slack place turn way stroke := (g.up (by omega)).page (fun j hj => by rw [Nat.zero_add]; exact hp2 j hj)
    have hna := g.1
    have hns := g.2.1
    have h20 : nx 160 stc 20 = nI na := by have := g0.2.2.1; rw [Nat.zero_add] at this; exact this
    have ii := ih (k + 1) (B + 9) n1 n2 (nx 160 stc) (nx 160 stc (160 + 38)) (tv + dmS 160 stc) (rv + dtS 160 stc) (m + dmS 160 stc) (t + dtS 160 stc) p1 t1 w1 (by omega) (by omega) (by omega) (by omega) (by omega) (by omega) hnt h4 hp2
    obtain ⟨qr, X, m', t', st', r1, r2, r3⟩ := ii
    have hL := h2.L (show 120 ≤ 160 by decide)
    have x198 : xin (198 : Int32) 240 := by decide
    have c198 : (198 : Int32).toNatClampNeg = 198 := by decide
    have x38 : xin (38 : Int32) 240 := by decide
    rw [fX4_again_L13, fX5_again_L18]
    rw [if_neg hlt, if_neg hlt, cl7_mk (h3 tv rv), show (160 : Int32) = nI 160 from rfl, cl3_mk (h1 m t), chk_pos x198, chk_pos x38, c198, cl_38]
    unfold fX0_standsAs
    rw [if_pos rfl]
    have yes : (∃ z : Int32, fX0_strokeInTurn (nI ns) (nI (nt + k + 1)) = some z ∧ fX0_strokeInTurn (nI ns) (nI nt) = some z) → (if nI ns = 0 then fX5_again_L60 (fX5_again_L18 n2) (nI ns) (nI (k + 1)) (nx 160 stc 198 - nx 160 stc 38) (m + dmS 160 stc) (t + dtS 160 stc) (nx 160 stc) else chk (¬ nI ns = 0) (if (nI (k + 1) - nI (k + 1) / nI ns * nI ns) = 0 then fX5_again_L60 (fX5_again_L18 n2) (nI ns) (nI (k + 1)) (nx 160 stc 198 - nx 160 stc 38) (m + dmS 160 stc) (t + dtS 160 stc) (nx 160 stc) else fX5_again_L65 (fX5_again_L18 n2) (nI ns) (nI (k + 1)) (nx 160 stc 198 - nx 160 stc 38) 0 (m + dmS 160 stc) (t + dtS 160 stc) (nx 160 stc))) = fX5_again_L60 (fX5_again_L18 n2) (nI ns) (nI (k + 1)) (nx 160 stc 198 - nx 160 stc 38) (m + dmS 160 stc) (t + dtS 160 stc) (nx 160 stc) → ∃ qr X m' t' st', (cl1 (cl1 (fX0_strokeInTurn (nI ns) (nI (nt + k + 1))) fun r2 => cl1 (fX0_strokeInTurn (nI ns) (nI nt)) fun r4 => if r2 = r4 then fX0_standsAs_L26 (nI na) (nI ns) (nx 160 stc (160 + 38)) (nI (nt + k + 1)) p1 t1 w1 (nI na) (nI ns) hand (nI nt) place turn way xF 0 else some 0) fun r23 => if r23 = 0 then bnd (nI (k + 1) + 1) (fun v26 => fX4_again_L13 (nI na) (nI ns) hand (nI nt) kind slack place turn way stroke n1 v26 (nI na) (nI ns) (nx 160 stc (160 + 38)) (nI (nt + k + 1)) (tv + dmS 160 stc) (rv + dtS 160 stc) K S p1 t1 w1 R) else some (nI (k + 1), nI na, nI ns, nx 160 stc (160 + 38), nI (nt + k + 1), tv + dmS 160 stc, rv + dtS 160 stc, K, S, p1, t1, w1, R)) = some (qr, X) ∧ (if nI ns = 0 then fX5_again_L60 (fX5_again_L18 n2) (nI ns) (nI (k + 1)) (nx 160 stc 198 - nx 160 stc 38) (m + dmS 160 stc) (t + dtS 160 stc) (nx 160 stc) else chk (¬ nI ns = 0) (if (nI (k + 1) - nI (k + 1) / nI ns * nI ns) = 0 then fX5_again_L60 (fX5_again_L18 n2) (nI ns) (nI (k + 1)) (nx 160 stc 198 - nx 160 stc 38) (m + dmS 160 stc) (t + dtS 160 stc) (nx 160 stc) else fX5_again_L65 (fX5_again_L18 n2) (nI ns) (nI (k + 1)) (nx 160 stc 198 - nx 160 stc 38) 0 (m + dmS 160 stc) (t + dtS 160 stc) (nx 160 stc))) = some (qr, m', t', st') ∧ FrL stc st' := by
      intro hz e
      obtain ⟨z, z1, z2⟩ := hz
      rw [e, z1, z2]
      unfold fX5_again_L60 fX5_again_L65
      have sb := stands_both (k18 := fX5_again_L18 n2) (by omega) h4 g0 (nI ns) (m + dmS 160 stc) (t + dtS 160 stc) (nI ns) (nI (nt + k + 1)) (nI ns) (nI nt) (k + 1) na 0 xF xF (by omega) (by show na < 1000; omega) (by show na < 1000; omega)
      rw [nI_0] at sb
      rcases sb with ⟨s1, s2⟩ | ⟨s1, s2⟩
      · rw [s2, cl1_s, cl1_s, if_pos rfl, s1, cl1_s, if_neg d10]
        exact ⟨_, _, _, _, _, rfl, rfl, hL⟩
      · rw [s2, cl1_s, cl1_s, if_pos rfl, s1, cl1_s, if_pos rfl, bnd_s, nI_1]
        exact ⟨qr, X, m', t', st', r1, r2, hL.tr r3⟩
    rw [bnd_s]
    by_cases hs : ns = 0
    · subst hs
      refine yes ⟨0, ?_, ?_⟩ ?_
      · unfold fX0_strokeInTurn; rw [if_pos nI_0]
      · unfold fX0_strokeInTurn; rw [if_pos nI_0]
      · rw [if_pos nI_0]
    · have hs0 : 0 < ns := by omega
      have hne : ¬ nI ns = 0 := fun q => hs ((nI_eq (by omega) (by decide)).mp (q.trans nI_0.symm))
      have t1' : fX0_strokeInTurn (nI ns) (nI (nt + k + 1)) = some (nI ((nt + k + 1) % ns)) := by
        unfold fX0_strokeInTurn; rw [if_neg hne, chk_pos hne, pk_rem (by omega) hs0 (by omega)]
      have t2' : fX0_strokeInTurn (nI ns) (nI nt) = some (nI (nt % ns)) := by
        unfold fX0_strokeInTurn; rw [if_neg hne, chk_pos hne, pk_rem (by omega) hs0 (by omega)]
      have hm : (k + 1) % ns < ns := Nat.mod_lt _ hs0
      have hm1 : (nt + k + 1) % ns < ns := Nat.mod_lt _ hs0
      have hm2 : nt % ns < ns := Nat.mod_lt _ hs0
      by_cases hd : (k + 1) % ns = 0
      · refine yes ⟨nI (nt % ns), ?_, t2'⟩ ?_
        · rw [t1', show nt + k + 1 = nt + (k + 1) by omega, (mod_sw hs0).mpr hd]
        · rw [if_neg hne, chk_pos hne, pk_rem (by omega) hs0 (by omega), hd, if_pos nI_0]
      · have hz : ¬ nI ((k + 1) % ns) = 0 := fun q => hd ((nI_eq (by omega) (by decide)).mp (q.trans nI_0.symm))
        simp only [bnd_s]
        rw [if_neg hne, chk_pos hne, pk_rem (by omega) hs0 (by omega), if_neg hz, t1', t2', cl1_s, cl1_s, if_neg (fun q => hd ((mod_sw hs0).mp (by have := (nI_eq (by omega) (by omega)).mp q; rw [← Nat.add_assoc]; exact this))), cl1_s, if_pos rfl, nI_1]
        unfold fX5_again_L65
        have z0' := L70_0 (k18 := fX5_again_L18 n2) hna h20 (nI ns) (nx 160 stc 198 - nx 160 stc 38) (m + dmS 160 stc) (t + dtS 160 stc) (k + 1) na 0 xF (by omega) (by show na < 1000; omega)
        rw [nI_0] at z0'
        rw [z0']
        exact ⟨qr, X, m', t', st', r1, r2, hL.tr r3⟩
theorem op_again (m t : Int32) (ta ts th tp tv rv : Int32) (tK tS tP tT tW tR : Nat → Int32) (hi : i < 512) (hN : RN i st arms strokes hand step kind slack place turn way stroke) : ∃ qr T m' t' st', fX4_again arms strokes hand step kind slack place turn way stroke ta ts th tp tv rv tK tS tP tT tW tR = some (qr, T) ∧ fX5_again m t st = some (qr, m', t', st') ∧ FrL st st' := by
  obtain ⟨na, ns, nt, rfl, rfl, rfl, hnt, g⟩ := hN
  have h37 : st 37 = nI ns := by have := g.2.2.2.1; rw [Nat.zero_add] at this; exact this
  have hcp : fX5_copies 0 160 st = some (cpv 0 160 40 st) := copies_r (f := 0) (t := 160) (by decide) (by decide) (by decide) st
  obtain ⟨K', S', P', T', W', R', e1, g1⟩ := copy_GR g ta ts th tp tv rv tK tS tP tT tW tR
  have al := again_loop g 200 0 (900 * (i : Int)) xF xF (cpv 0 160 40 st) hand 0 0 m t P' T' W' (by omega) (by decide) (by decide) (by omega) (by omega) (by omega) hnt (g1.cp 160) (fun j hj => cpv_out (by omega))
  obtain ⟨qr, X, m', t', st', r1, r2, r3⟩ := al
  unfold fX4_again fX5_again
  rw [cl12_mk e1, chk_pos (by decide), bnd_s, cl_37, h37, hcp, cl1_s]
  exact ⟨qr, X, m', t', st', r1, r2, FrL.tr (fun j hj => cpv_out (by omega)) r3⟩
theorem shr16 (v : Int32) : (iushr v 16) &&& 32767 = (v >>> ((16 : Int32) &&& 31)) &&& 32767 := by
  rw [pk_and (iushr v 16) 15 (by decide), pk_and (v >>> ((16 : Int32) &&& 31)) 15 (by decide)]
  have h1 := pk_ushr v 16 16 (by decide)
  have h2 := pk_shr v ((16 : Int32) &&& 31) 16 (by decide)
  rw [Int.shiftRight_eq_div_pow] at h2
  have h3 : v.toInt = if 2 * v.toBitVec.toNat < 2 ^ 32 then (v.toBitVec.toNat : Int) else (v.toBitVec.toNat : Int) - 2 ^ 32 := BitVec.toInt_eq_toNat_cond _
  have h4 : (v >>> ((16 : Int32) &&& 31)).toInt = if 2 * (v >>> ((16 : Int32) &&& 31)).toBitVec.toNat < 2 ^ 32 then ((v >>> ((16 : Int32) &&& 31)).toBitVec.toNat : Int) else ((v >>> ((16 : Int32) &&& 31)).toBitVec.toNat : Int) - 2 ^ 32 := BitVec.toInt_eq_toNat_cond _
  have h5 := v.toBitVec.isLt
  have h6 := (v >>> ((16 : Int32) &&& 31)).toBitVec.isLt
  have h7 : (iushr v 16).toBitVec.toNat = v.toBitVec.toNat / 2 ^ 16 := h1
  rw [h7]
  generalize (v >>> ((16 : Int32) &&& 31)).toBitVec.toNat = Y at *
  congr 1
  rw [h3] at h2
  rw [h2] at h4
  split at h4 <;> split at h4 <;> omega
theorem drift_loop {na ns : Nat} (oa os oh op : Int32) (oK oS oP oT oW oR : Nat → Int32) {K S R : Nat → Int32} {N : Nat} (hN : N ≤ 200) (a3 : Int32) : ∀ (q k : Nat) (B : Int) (nt n1 n2 : Nat) (stc : Nat → Int32) (x hd tv rv t : Int32) (P T W : Nat → Int32), k + q = N → q < n1 → q < n2 → 0 ≤ B → B + 9 * q ≤ 1000000 → GR B 160 na ns nt stc hd K S P T W R →
    ∃ qr X m' t' st', fX4_drift_L50 oa os oh op oK oS oP oT oW oR n1 (nI N) a3 x (nI k) (nI na) (nI ns) hd (nI nt) tv rv K S P T W R = some (qr, X) ∧ fX5_drift_L56 n2 (nI N) a3 x (nI k) tv t stc = some (qr, m', t', st') ∧ FrL stc st' := by
  intro q
  induction q with
  | zero =>
    intro k B nt n1 n2 stc x hd tv rv t P T W hk hn1 hn2 hB0 hB g
    obtain ⟨n1, rfl⟩ : ∃ z, n1 = z + 1 := ⟨n1 - 1, by omega⟩
    obtain ⟨n2, rfl⟩ : ∃ z, n2 = z + 1 := ⟨n2 - 1, by omega⟩
    have e : k = N := by omega
    subst e
    obtain ⟨e1, e2, -⟩ := err_sim hB0 (by omega) (by decide) g
    rw [fX4_drift_L50, fX5_drift_L56]
    rw [if_pos (Int32.le_refl _), if_pos (Int32.le_refl _), e2, show (160 : Int32) = nI 160 from rfl, e1, cl1_s, cl1_s]
    split
    · exact ⟨_, _, _, _, _, rfl, rfl, FrL.rf⟩
    · exact ⟨_, _, _, _, _, rfl, rfl, FrL.rf⟩
  | succ q ih =>
    intro k B nt n1 n2 stc x hd tv rv t P T W hk hn1 hn2 hB0 hB g
    obtain ⟨n1, rfl⟩ : ∃ z, n1 = z + 1 := ⟨n1 - 1, by omega⟩
    obtain ⟨n2, rfl⟩ : ∃ z, n2 = z + 1 := ⟨n2 - 1, by omega⟩
    have hle : ¬ nI N ≤ nI k := fun q => by have := (nI_leI (by omega) (by omega)).mp q; omega
    have d19 : ¬ (19 : Int32) = 0 := by decide
    rw [fX4_drift_L50, fX5_drift_L56]
    rw [if_neg hle, if_neg hle]
    simp only [bnd_s, chk_pos d19, shr16]
    obtain ⟨w, hw, ew⟩ := pk_andE ((x * 1103515245 + 12345) >>> ((16 : Int32) &&& 31)) (m := 32767) 15 (by decide)
    rw [ew, show (19 : Int32) = nI 19 from rfl, pk_rem (by omega) (by decide) (by decide)]
    have hm : w % 19 < 19 := Nat.mod_lt _ (by decide)
    have hv := v9 (v := nI (w % 19)) ⟨nI_pos' (by omega), show nI (w % 19) ≤ (18 : Int32) from (nI_leI (b := 18) (by omega) (by omega)).mpr (by omega)⟩
    obtain ⟨dm, dt, st', P', T', W', i1, i2, i3, i4⟩ := hand_sim hB0 (by omega) (by decide) g hv.1 hv.2
    rw [cl6_mk (i2 tv rv), show (160 : Int32) = nI 160 from rfl, cl3_mk (i1 tv t), nI_1]
    obtain ⟨qr, X, m', t', st2, r1, r2, r3⟩ := ih (k + 1) (B + 9) nt n1 n2 st' (x * 1103515245 + 12345) (st' (160 + 38)) (tv + dm) (rv + dt) (t + dt) P' T' W' (by omega) (by omega) (by omega) (by omega) (by omega) i3
    exact ⟨qr, X, m', t', st2, r1, r2, (i4.L (by decide)).tr r3⟩
theorem op_drift (a1 a2 a3 m t : Int32) (ta ts th tp tv rv : Int32) (tK tS tP tT tW tR : Nat → Int32) (hi : i < 512) (hN : RN i st arms strokes hand step kind slack place turn way stroke) : ∃ qr T m' t' st', fX4_drift a1 a2 a3 arms strokes hand step kind slack place turn way stroke ta ts th tp tv rv tK tS tP tT tW tR = some (qr, T) ∧ fX5_drift a1 a2 a3 m t st = some (qr, m', t', st') ∧ FrL st st' := by
  obtain ⟨na, ns, nt, rfl, rfl, rfl, hnt, g⟩ := hN
  have h20 : st 20 = nI na := by have := g.2.2.1; rw [Nat.zero_add] at this; exact this
  unfold fX4_drift fX5_drift
  rw [w_eq, gate, fs_eq, gate, in_eq a2 1 200 1 200 rfl rfl, gate, in_eq a3 0 1 0 1 rfl rfl, gate, chk_pos (by decide), cl_20, h20]
  by_cases c : 1 ≤ a2 ∧ a2 ≤ 200
  · simp only [if_pos c]
    by_cases c2 : 0 ≤ a3 ∧ a3 ≤ 1
    · simp only [if_pos c2]
      by_cases c3 : nI na = 0
      · simp only [if_pos c3]
        exact ⟨_, _, _, _, _, rfl, rfl, FrL.rf⟩
      · simp only [if_neg c3]
        obtain ⟨N, hN, rfl⟩ := of_rng (i_le.mpr (by have := i_le.mp c.1; have e1 : (1 : Int32).toInt = 1 := rfl; have e0 : (0 : Int32).toInt = 0 := rfl; omega)) c.2 (n := 200) rfl
        have hcp : fX5_copies 0 160 st = some (cpv 0 160 40 st) := copies_r (f := 0) (t := 160) (by decide) (by decide) (by decide) st
        obtain ⟨K', S', P', T', W', R', e1, g1⟩ := copy_GR g ta ts th tp tv rv tK tS tP tT tW tR
        obtain ⟨qr, X, m', t', st2, r1, r2, r3⟩ := drift_loop (nI na) (nI ns) hand (nI nt) kind slack place turn way stroke hN a3 N 0 (900 * (i : Int)) nt xF xF (cpv 0 160 40 st) a1 hand 0 0 t P' T' W' (by omega) (by show N < 1000; omega) (by show N < 1000; omega) (by omega) (by omega) (g1.cp 160)
        rw [nI_0] at r1 r2
        rw [cl12_mk e1, hcp, cl1_s]
        exact ⟨qr, X, m', t', st2, r1, r2, FrL.tr (fun j hj => cpv_out (by omega)) r3⟩
    · simp only [if_neg c2]
      exact ⟨_, _, _, _, _, rfl, rfl, FrL.rf⟩
  · simp only [if_neg c]
    exact ⟨_, _, _, _, _, rfl, rfl, FrL.rf⟩
end OPg
