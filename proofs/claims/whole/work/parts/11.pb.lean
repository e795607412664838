-- questions: runs, ahead, when
theorem wI_rng {b na ns : Nat} (hb : b + 40 ≤ 240) {kind slack stroke : Nat → Int32} : ∀ (k : Nat) (B : Int) (nt : Nat) (st : Nat → Int32) (hand : Int32) (place turn way : Nat → Int32), 0 ≤ B → B + 9 * k ≤ 1000000 → nt + k < 1000000 → GR B b na ns nt st hand kind slack place turn way stroke → ∀ (w : Int32) (M : Int), 2 * (B + 9 * k) ≤ M → 0 ≤ w.toInt → w.toInt ≤ M → 0 ≤ (wI b na k st w).toInt ∧ (wI b na k st w).toInt ≤ M := by
  intro k
  induction k with
  | zero =>
    intro B nt st hand place turn way hB0 hB hnt g w M hM h1 h2
    exact ⟨h1, h2⟩
  | succ k ih =>
    intro B nt st hand place turn way hB0 hB hnt g w M hM h1 h2
    obtain ⟨-, -, p1, t1, w1, -, h4⟩ := step_sim hB0 (by omega) hb (by omega) g
    obtain ⟨-, -, e1, e2⟩ := err_sim (by omega) (by omega) hb h4
    show 0 ≤ (wI b na k (nx b st) (mxv w (errv b na (nx b st)))).toInt ∧ _ ≤ _
    refine ih (B + 9) (nt + 1) (nx b st) _ p1 t1 w1 (by omega) (by omega) (by omega) h4 _ M (by omega) ?_ ?_
    · unfold mxv
      split
      · exact h1
      · exact e1
    · unfold mxv
      split
      · exact h2
      · omega
/-- a page's steps and the trial's, side by side -/
theorem go_both {B : Int} (hB0 : 0 ≤ B) {b na ns nt N : Nat} (hb : b + 40 ≤ 160 ∨ (200 ≤ b ∧ b + 40 ≤ 240)) (hN : N ≤ 200) (hB : B + 9 * N ≤ 1000000) (hnt : nt ≤ 9999) {st : Nat → Int32} {hand : Int32} {K S P T W R : Nat → Int32} (g : GR B b na ns nt st hand K S P T W R) :
    ∃ (er mo tu wo hd : Int32) (P' T' W' st' : Nat → Int32), (∀ m t w : Int32, fX5_stepsGo (nI b) (nI N) m t w st = some (er, mo, tu, wo, st')) ∧ (∀ tv rv : Int32, fX0_takeSteps (nI N) (nI na) (nI ns) hand (nI nt) tv rv K S P T W R = some (hd, nI (nt + N), tv + mo, rv + tu, P', T', W')) ∧ (∀ tv rv : Int32, fX0_greatestError (nI N) (nI na) (nI ns) hand (nI nt) tv rv K S P T W R = some (wo, hd, nI (nt + N), tv + mo, rv + tu, P', T', W')) ∧ fX0_error (nI na) hd P' = some er ∧ Fr 160 st st' ∧ GR (B + 9 * N) 160 na ns (nt + N) st' hd K S P' T' W' R ∧ er.toInt ≤ 2 * (B + 9 * N) ∧ wo.toInt ≤ 2 * (B + 9 * N) := by
  have g1 := g.cp 160
  obtain ⟨f1, P', T', W', s1, s2, s3⟩ := steps_sim (b := 160) (by decide) N B nt (cpv b 160 40 st) hand P T W hB0 hB (by omega) g1
  obtain ⟨e1, e2, e3, e4⟩ := err_sim (by omega) (by omega) (by decide) s3
  have hw := wI_rng (b := 160) (by decide) N B nt (cpv b 160 40 st) hand P T W hB0 hB (by omega) g1 0 (2 * (B + 9 * N)) (Int.le_refl _) (Int.le_refl _) (by show (0 : Int) ≤ _; omega)
  refine ⟨_, _, _, _, _, P', T', W', _, fun m t w => stepsGo_r hB0 hb hB (by omega) (by omega) g m t w, fun tv rv => ?_, fun tv rv => ?_, e2, Fr.cp.tr f1, s3, e4, hw.2⟩
  · have := s1 0 N xF tv rv (by omega) (by omega) (by show N < 1000; omega)
    rw [nI_0] at this
    exact this
  · have := s2 0 N xF 0 tv rv (by omega) (by omega) (by show N < 1000; omega)
    rw [nI_0] at this
    exact this
theorem mxv_comm (x y : Int32) : mxv x y = if x ≤ y then y else x := by
  unfold mxv
  by_cases h : y ≤ x
  · rw [if_pos h]
    by_cases k : x ≤ y
    · rw [if_pos k]
      exact i_eq.mpr (by have := i_le.mp h; have := i_le.mp k; omega)
    · rw [if_neg k]
  · rw [if_neg h, if_pos (i_le.mpr (by have := n_le h; omega))]
theorem gate2 {β : Type} {c : Prop} [Decidable c] {A B : Option β} (k : Int32 → Option β) (h0 : k 0 = A) (h1 : k 1 = B) : cl1 (some (if c then (1 : Int32) else 0)) k = if c then B else A := by
  by_cases h : c
  · rw [if_pos h, if_pos h, cl1_s, h1]
  · rw [if_neg h, if_neg h, cl1_s, h0]
section OPq
variable {i : Nat} {st : Nat → Int32} {arms strokes hand step : Int32} {kind slack place turn way stroke : Nat → Int32}
theorem op_runs (a1 a2 m t w : Int32) (ta ts th tp tv rv : Int32) (tK tS tP tT tW tR : Nat → Int32) (hi : i < 512) (hN : RN i st arms strokes hand step kind slack place turn way stroke) : ∃ qr T m' t' w' st', fX4_runs a1 a2 arms strokes hand step kind slack place turn way stroke ta ts th tp tv rv tK tS tP tT tW tR = some (qr, T) ∧ fX5_runs a1 a2 m t w st = some (qr, m', t', w', st') ∧ FrL st st' := by
  obtain ⟨na, ns, nt, rfl, rfl, rfl, hnt, g⟩ := hN
  unfold fX4_runs fX5_runs
  rw [ah_eq, gate, w_eq, gate, ml_eq, gate, in_eq a2 0 4 0 4 rfl rfl, gate]
  by_cases c : 0 ≤ a1 ∧ a1 ≤ 200
  · simp only [if_pos c]
    by_cases c2 : 0 ≤ a2 ∧ a2 ≤ 4
    · simp only [if_pos c2]
      obtain ⟨N, hN, rfl⟩ := of_rng c.1 c.2 (n := 200) rfl
      obtain ⟨K', S', P', T', W', R', e1, g1⟩ := copy_GR g ta ts th tp tv rv tK tS tP tT tW tR
      obtain ⟨er, mo, tu, wo, hd, P2, T2, W2, st', k1, k2, k3, k4, k5, k6, k7, k8⟩ := go_both (by omega) (Or.inl (by decide)) hN (by omega) hnt g1
      have kk := k1 m t w
      rw [nI_0] at kk
      obtain ⟨q1, q2, -⟩ := err_sim (by omega) (by omega) (by decide) (g1.fr k5 (by decide))
      rw [nI_0] at q1
      have k198 : st' 198 = hd := k6.2.2.2.2.2.1.symm
      have x198 : xin (198 : Int32) 240 := by decide
      have c198 : (198 : Int32).toNatClampNeg = 198 := by decide
      rw [cl12_mk e1, q2, cl1_s, cl8_mk (k3 0 0), cl5_mk kk, q1, cl1_s, bnd_s, k4, cl1_s, imax_mxv, mxv_comm, chk_pos x198, c198, k198, Int32.zero_add, Int32.zero_add]
      have hf := k5.L (by decide)
      by_cases d0 : a2 = 0
      · simp only [if_pos d0]; exact ⟨_, _, _, _, _, _, rfl, rfl, hf⟩
      by_cases d1 : a2 = 1
      · simp only [if_neg d0, if_pos d1]; exact ⟨_, _, _, _, _, _, rfl, rfl, hf⟩
      by_cases d2 : a2 = 2
      · simp only [if_neg d0, if_neg d1, if_pos d2]; exact ⟨_, _, _, _, _, _, rfl, rfl, hf⟩
      by_cases d3 : a2 = 3
      · simp only [if_neg d0, if_neg d1, if_neg d2, if_pos d3]
        split
        · exact ⟨_, _, _, _, _, _, rfl, rfl, hf⟩
        · exact ⟨_, _, _, _, _, _, rfl, rfl, hf⟩
      · simp only [if_neg d0, if_neg d1, if_neg d2, if_neg d3]; exact ⟨_, _, _, _, _, _, rfl, rfl, hf⟩
    · simp only [if_neg c2]
      exact ⟨_, _, _, _, _, _, rfl, rfl, FrL.rf⟩
  · simp only [if_neg c]
    exact ⟨_, _, _, _, _, _, rfl, rfl, FrL.rf⟩
theorem op_ahead (a1 a2 m t w : Int32) (ta ts th tp tv rv : Int32) (tK tS tP tT tW tR : Nat → Int32) (hi : i < 512) (hN : RN i st arms strokes hand step kind slack place turn way stroke) : ∃ qr T m' t' w' st', fX4_ahead a1 a2 arms strokes hand step kind slack place turn way stroke ta ts th tp tv rv tK tS tP tT tW tR = some (qr, T) ∧ fX5_ahead a1 a2 m t w st = some (qr, m', t', w', st') ∧ FrL st st' := by
  obtain ⟨na, ns, nt, rfl, rfl, rfl, hnt, g⟩ := hN
  have h20 : st 20 = nI na := by have := g.2.2.1; rw [Nat.zero_add] at this; exact this
  have hna := g.1
  unfold fX4_ahead fX5_ahead
  rw [ia_eq, gate, ah_eq, gate, ma_eq, h20, gate, ml_eq, gate]
  by_cases c : 0 ≤ a1 ∧ a1 ≤ nI na - 1
  · simp only [if_pos c]
    by_cases c2 : 0 ≤ a2 ∧ a2 ≤ 200
    · simp only [if_pos c2]
      obtain ⟨k, hk, rfl⟩ := of_idx (by omega) c.1 c.2
      obtain ⟨N, hN, rfl⟩ := of_rng c2.1 c2.2 (n := 200) rfl
      obtain ⟨K', S', P', T', W', R', e1, g1⟩ := copy_GR g ta ts th tp tv rv tK tS tP tT tW tR
      obtain ⟨er, mo, tu, wo, hd, P2, T2, W2, st', k1, k2, k3, k4, k5, k6, k7, k8⟩ := go_both (by omega) (Or.inl (by decide)) hN (by omega) hnt g1
      have kk := k1 m t w
      rw [nI_0] at kk
      have hp : P2 k = st' (160 + 8 + k) := (k6.2.2.2.2.2.2.2.2.1 k hk).2.2.1
      rw [cl12_mk e1, cl7_mk (k2 0 0), cl5_mk kk, show (168 : Int32) + nI k = nI (168 + k) from nI_add 168 k, chk_pos (xin_nI (by omega) (by omega)), chk_pos (xin_nI (by omega) (by omega)), cN (by omega), cN (by omega), hp]
      exact ⟨_, _, _, _, _, _, rfl, rfl, k5.L (by decide)⟩
    · simp only [if_neg c2]
      exact ⟨_, _, _, _, _, _, rfl, rfl, FrL.rf⟩
  · simp only [if_neg c]
    exact ⟨_, _, _, _, _, _, rfl, rfl, FrL.rf⟩
def sgnv (y : Int32) : Int32 := if 0 < y then 1 else if y = 0 then 0 else -1
theorem sg_v (y : Int32) : fJ6_signum_0f7a4 y = some (sgnv y) := sg_eq y
theorem sgnv_0 (y : Int32) : sgnv y = 0 ↔ y = 0 := by
  unfold sgnv
  by_cases h : 0 < y
  · rw [if_pos h]
    exact ⟨fun q => absurd q d10, fun q => by rw [q] at h; exact absurd h (by decide)⟩
  · rw [if_neg h]
    by_cases k : y = 0
    · rw [if_pos k]
      exact ⟨fun _ => k, fun _ => rfl⟩
    · rw [if_neg k]
      exact ⟨fun q => absurd q (by decide), fun q => absurd q k⟩
theorem when_loop {na ns : Nat} {a : Nat} (ha : a < na) (oa os oh op : Int32) (oK oS oP oT oW oR : Nat → Int32) {K S R : Nat → Int32} (tg D p0 : Int32) (hD : D.toInt = tg.toInt - p0.toInt) (hD0 : ¬ D = 0) (htg : -1000000 ≤ tg.toInt ∧ tg.toInt ≤ 1000000) (hp0 : -1000000 ≤ p0.toInt ∧ p0.toInt ≤ 1000000) : ∀ (q k : Nat) (B : Int) (nt : Nat) (n1 n2 : Nat) (stc : Nat → Int32) (hd tv rv m t : Int32) (P T W : Nat → Int32), k + q = 200 → q < n1 → q < n2 → 0 ≤ B → B + 9 * (q + 1) ≤ 1000000 → nt + q + 1 < 1000000 → GR B 160 na ns nt stc hd K S P T W R → stc (8 + a) = p0 →
    ∃ qr X m' t' st', fX4_when_L59 oa os oh op oK oS oP oT oW oR n1 (nI a) tg (sgnv D) (nI (k + 1)) (nI na) (nI ns) hd (nI nt) tv rv K S P T W R = some (qr, X) ∧ fX5_when_L100 (fX5_when_L43 n2) (nI a) D (nI k) m t stc = some (qr, m', t', st') ∧ FrL stc st' := by
  intro q
  induction q with
  | zero =>
    intro k B nt n1 n2 stc hd tv rv m t P T W hk hn1 hn2 hB0 hB hnt g hp
    obtain ⟨n1, rfl⟩ : ∃ z, n1 = z + 1 := ⟨n1 - 1, by omega⟩
    obtain ⟨n2, rfl⟩ : ∃ z, n2 = z + 1 := ⟨n2 - 1, by omega⟩
    have e : k = 200 := by omega
    subst e
    obtain ⟨h1, h2, p1, t1, w1, h3, h4⟩ := step_sim hB0 (by omega) (by decide) (by omega) g
    unfold fX5_when_L100
    rw [show (160 : Int32) = nI 160 from rfl, cl3_mk (h1 m t), bnd_s, nI_1, fX4_when_L59, fX5_when_L43]
    rw [if_pos (show (200 : Int32) < nI (200 + 1) by decide), if_pos (show (200 : Int32) < nI (200 + 1) by decide)]
    exact ⟨_, _, _, _, _, rfl, rfl, h2.L (by decide)⟩
  | succ q ih =>
    intro k B nt n1 n2 stc hd tv rv m t P T W hk hn1 hn2 hB0 hB hnt g hp
    obtain ⟨n1, rfl⟩ : ∃ z, n1 = z + 1 := ⟨n1 - 1, by omega⟩
    obtain ⟨n2, rfl⟩ : ∃ z, n2 = z + 1 := ⟨n2 - 1, by omega⟩
    obtain ⟨h1, h2, p1, t1, w1, h3, h4⟩ := step_sim hB0 (by omega) (by decide) (by omega) g
    have hna := g.1
    have hlt : ¬ (200 : Int32) < nI (k + 1) := fun q => by have := (nI_ltI (a := 200) (by omega) (by omega)).mp q; omega
    have hp1 : p1 a = nx 160 stc (160 + 8 + a) := (h4.2.2.2.2.2.2.2.2.1 a ha).2.2.1
    have hr := (h4.2.2.2.2.2.2.2.1 a ha).2.2.1
    have hp2 : nx 160 stc (8 + a) = p0 := (h2 (8 + a) (by omega)).trans hp
    have ii := ih (k + 1) (B + 9) (nt + 1) n1 n2 (nx 160 stc) (nx 160 stc (160 + 38)) (tv + dmS 160 stc) (rv + dtS 160 stc) (m + dmS 160 stc) (t + dtS 160 stc) p1 t1 w1 (by omega) (by omega) (by omega) (by omega) (by omega) (by omega) h4 hp2
    have e100 : ∀ (n : Nat), fX5_when_L100 (fX5_when_L43 n) (nI a) D (nI k) m t stc = fX5_when_L43 n (nI a) D (nI (k + 1)) (m + dmS 160 stc) (t + dtS 160 stc) (nx 160 stc) := fun n => by
      unfold fX5_when_L100
      rw [show (160 : Int32) = nI 160 from rfl, cl3_mk (h1 m t), bnd_s, nI_1]
    rw [e100, fX4_when_L59, fX5_when_L43]
    rw [if_neg hlt, if_neg hlt, cl7_mk (h3 tv rv), chk_pos (xin_nI (by omega) (by omega)), cN (by omega), hp1, show (168 : Int32) + nI a = nI (168 + a) from nI_add 168 a, show (8 : Int32) + nI a = nI (8 + a) from nI_add 8 a, chk_pos (xin_nI (by omega) (by omega)), chk_pos (xin_nI (by omega) (by omega)), cN (by omega), cN (by omega), hp2, sg_v, cl1_s]
    simp only [bnd_s]
    rw [if_neg hD0, nI_1]
    rw [show 160 + 8 + a = 168 + a by omega] at hr ⊢
    generalize nx 160 stc (168 + a) = pl at *
    have e0 : (0 : Int32).toInt = 0 := rfl
    have hv : (pl - p0).toInt = pl.toInt - p0.toInt := i_sub (by omega) (by omega)
    have hw : (tg - pl).toInt = tg.toInt - pl.toInt := i_sub (by omega) (by omega)
    have hDn := n_eq hD0
    have c1 : sgnv (tg - pl) = sgnv D ↔ (0 < D.toInt ∧ pl.toInt < tg.toInt) ∨ (D.toInt < 0 ∧ tg.toInt < pl.toInt) := by
      unfold sgnv
      by_cases u1 : 0 < D
      · have := i_lt.mp u1
        rw [if_pos u1]
        by_cases u2 : 0 < tg - pl
        · have := i_lt.mp u2
          rw [if_pos u2]
          exact ⟨fun _ => Or.inl ⟨by omega, by omega⟩, fun _ => rfl⟩
        · have := n_lt u2
          rw [if_neg u2]
          refine ⟨fun h => ?_, fun h => by omega⟩
          split at h
          · exact absurd h (by decide)
          · exact absurd h (by decide)
      · have := n_lt u1
        rw [if_neg u1, if_neg hD0]
        by_cases u2 : 0 < tg - pl
        · have := i_lt.mp u2
          rw [if_pos u2]
          exact ⟨fun h => absurd h (by decide), fun h => by omega⟩
        · have := n_lt u2
          rw [if_neg u2]
          by_cases u3 : tg - pl = 0
          · have u3' := i_eq.mp u3
            rw [if_pos u3]
            exact ⟨fun h => absurd h (by decide), fun h => by omega⟩
          · have := n_eq u3
            rw [if_neg u3]
            exact ⟨fun _ => Or.inr ⟨by omega, by omega⟩, fun _ => rfl⟩
    unfold fX5_when_L87
    by_cases u : (0 < D.toInt ∧ pl.toInt < tg.toInt) ∨ (D.toInt < 0 ∧ tg.toInt < pl.toInt)
    · rw [if_pos (c1.mpr u)]
      have e2 : (if D ≤ 0 then if 0 ≤ D then fX5_when_L100 (fX5_when_L43 n2) (nI a) D (nI (k + 1)) (m + dmS 160 stc) (t + dtS 160 stc) (nx 160 stc) else if D < pl - p0 then fX5_when_L100 (fX5_when_L43 n2) (nI a) D (nI (k + 1)) (m + dmS 160 stc) (t + dtS 160 stc) (nx 160 stc) else some (nI (k + 1), m + dmS 160 stc, t + dtS 160 stc, nx 160 stc) else if D ≤ pl - p0 then some (nI (k + 1), m + dmS 160 stc, t + dtS 160 stc, nx 160 stc) else if 0 ≤ D then fX5_when_L100 (fX5_when_L43 n2) (nI a) D (nI (k + 1)) (m + dmS 160 stc) (t + dtS 160 stc) (nx 160 stc) else if D < pl - p0 then fX5_when_L100 (fX5_when_L43 n2) (nI a) D (nI (k + 1)) (m + dmS 160 stc) (t + dtS 160 stc) (nx 160 stc) else some (nI (k + 1), m + dmS 160 stc, t + dtS 160 stc, nx 160 stc)) = fX5_when_L100 (fX5_when_L43 n2) (nI a) D (nI (k + 1)) (m + dmS 160 stc) (t + dtS 160 stc) (nx 160 stc) := by
        by_cases v1 : D ≤ 0
        · have := i_le.mp v1
          rw [if_pos v1, if_neg (fun q => by have := i_le.mp q; omega), if_pos (i_lt.mpr (by omega))]
        · have := n_le v1
          rw [if_neg v1, if_neg (fun q => by have := i_le.mp q; omega), if_pos (i_le.mpr (by omega))]
      rw [e2]
      obtain ⟨qr, X, m', t', st', r1, r2, r3⟩ := ii
      exact ⟨qr, X, m', t', st', r1, r2, (h2.L (by decide)).tr r3⟩
    · rw [if_neg (fun h => u (c1.mp h))]
      have e2 : (if D ≤ 0 then if 0 ≤ D then fX5_when_L100 (fX5_when_L43 n2) (nI a) D (nI (k + 1)) (m + dmS 160 stc) (t + dtS 160 stc) (nx 160 stc) else if D < pl - p0 then fX5_when_L100 (fX5_when_L43 n2) (nI a) D (nI (k + 1)) (m + dmS 160 stc) (t + dtS 160 stc) (nx 160 stc) else some (nI (k + 1), m + dmS 160 stc, t + dtS 160 stc, nx 160 stc) else if D ≤ pl - p0 then some (nI (k + 1), m + dmS 160 stc, t + dtS 160 stc, nx 160 stc) else if 0 ≤ D then fX5_when_L100 (fX5_when_L43 n2) (nI a) D (nI (k + 1)) (m + dmS 160 stc) (t + dtS 160 stc) (nx 160 stc) else if D < pl - p0 then fX5_when_L100 (fX5_when_L43 n2) (nI a) D (nI (k + 1)) (m + dmS 160 stc) (t + dtS 160 stc) (nx 160 stc) else some (nI (k + 1), m + dmS 160 stc, t + dtS 160 stc, nx 160 stc)) = some (nI (k + 1), m + dmS 160 stc, t + dtS 160 stc, nx 160 stc) := by
        by_cases v1 : D ≤ 0
        · have := i_le.mp v1
          rw [if_pos v1, if_neg (fun q => by have := i_le.mp q; omega), if_neg (fun q => by have := i_lt.mp q; omega)]
        · have := n_le v1
          rw [if_neg v1, if_pos (i_le.mpr (by omega))]
      rw [e2]
      exact ⟨_, _, _, _, _, rfl, rfl, h2.L (by decide)⟩
theorem op_when (a1 a2 m t : Int32) (ta ts th tp tv rv : Int32) (tK tS tP tT tW tR : Nat → Int32) (hi : i < 512) (hN : RN i st arms strokes hand step kind slack place turn way stroke) : ∃ qr T m' t' st', fX4_when a1 a2 arms strokes hand step kind slack place turn way stroke ta ts th tp tv rv tK tS tP tT tW tR = some (qr, T) ∧ fX5_when a1 a2 m t st = some (qr, m', t', st') ∧ FrL st st' := by
  obtain ⟨na, ns, nt, rfl, rfl, rfl, hnt, g⟩ := hN
  have h20 : st 20 = nI na := by have := g.2.2.1; rw [Nat.zero_add] at this; exact this
  have hna := g.1
  unfold fX4_when fX5_when
  rw [ia_eq, gate, sp_eq, gate, ma_eq, h20, gate, mp_eq, gate]
  by_cases c : 0 ≤ a1 ∧ a1 ≤ nI na - 1
  · simp only [if_pos c]
    by_cases c2 : 100000 ≤ a2 ∧ a2 ≤ 300000
    · simp only [if_pos c2]
      obtain ⟨k, hk, rfl⟩ := of_idx (by omega) c.1 c.2
      have hc1 := i_le.mp c2.1
      have hc2 := i_le.mp c2.2
      have e1 : (100000 : Int32).toInt = 100000 := rfl
      have e3 : (300000 : Int32).toInt = 300000 := rfl
      have e2 : (200000 : Int32).toInt = 200000 := rfl
      have e0 : (0 : Int32).toInt = 0 := rfl
      have htg : (a2 - 200000).toInt = a2.toInt - 200000 := by rw [i_sub (by omega) (by omega)]; rfl
      generalize a2 - 200000 = tg at *
      have hpl := (g.2.2.2.2.2.2.2.2.1 k hk).2.2.1
      have hpr := (g.2.2.2.2.2.2.2.1 k hk).2.2.1
      simp only [Nat.zero_add] at hpl hpr
      have hD : (tg - st (8 + k)).toInt = tg.toInt - (st (8 + k)).toInt := i_sub (by omega) (by omega)
      have hcp : fX5_copies 0 160 st = some (cpv 0 160 40 st) := copies_r (f := 0) (t := 160) (by decide) (by decide) (by decide) st
      have cp1 : cpv 0 160 40 st (168 + k) = st (8 + k) := by rw [cpv_in (by omega) (by omega), show 0 + (168 + k - 160) = 8 + k by omega]
      have cp2 : cpv 0 160 40 st (8 + k) = st (8 + k) := cpv_out (by omega)
      rw [bnd_s, bnd_s, chk_pos (xin_nI (by omega) (by omega)), cN (by omega), hpl, sg_v, cl1_s, hcp, cl1_s, show (8 : Int32) + nI k = nI (8 + k) from nI_add 8 k, chk_pos (xin_nI (by omega) (by omega)), cN (by omega)]
      have hself : (st (8 + k) - st (8 + k)) = 0 := Int32.sub_self _
      show ∃ qr T m' t' st', _ ∧ fX5_when_L43 (999 + 1) (nI k) (tg - st (8 + k)) 0 m t (cpv 0 160 40 st) = _ ∧ _
      rw [fX5_when_L43, if_neg (show ¬ (200 : Int32) < 0 by decide), show (168 : Int32) + nI k = nI (168 + k) from nI_add 168 k, show (8 : Int32) + nI k = nI (8 + k) from nI_add 8 k, chk_pos (xin_nI (by omega) (by omega)), chk_pos (xin_nI (by omega) (by omega)), cN (by omega), cN (by omega), cp1, cp2, hself, bnd_s]
      have hfr : FrL st (cpv 0 160 40 st) := fun j hj => cpv_out (by omega)
      generalize hDd : tg - st (8 + k) = D at *
      by_cases hD0 : D = 0
      · rw [if_pos hD0]
        rw [if_pos ((sgnv_0 D).mpr hD0)]
        exact ⟨_, _, _, _, _, rfl, rfl, hfr⟩
      · obtain ⟨K', S', P', T', W', R', e1, g1⟩ := copy_GR g ta ts th tp tv rv tK tS tP tT tW tR
        have hs : ¬ sgnv D = 0 := fun q => hD0 ((sgnv_0 D).mp q)
        have wl := when_loop hk (nI na) (nI ns) hand (nI nt) kind slack place turn way stroke tg D (st (8 + k)) hD hD0 (by omega) (by omega) 200 0 (900 * (i : Int)) nt xF 999 (cpv 0 160 40 st) hand 0 0 m t P' T' W' (by omega) (by decide) (by decide) (by omega) (by omega) (by omega) (g1.cp 160) cp2
        have hDn := n_eq hD0
        obtain ⟨qr, X, m', t', st', r1, r2, r3⟩ := wl
        rw [nI_0] at r2
        rw [if_neg hs, if_neg hD0, cl12_mk e1]
        have e9 : (if D ≤ 0 then fX5_when_L87 (fX5_when_L43 999) (nI k) D 0 0 m t (cpv 0 160 40 st) else if D ≤ 0 then some (0, m, t, cpv 0 160 40 st) else fX5_when_L87 (fX5_when_L43 999) (nI k) D 0 0 m t (cpv 0 160 40 st)) = fX5_when_L100 (fX5_when_L43 999) (nI k) D 0 m t (cpv 0 160 40 st) := by
          unfold fX5_when_L87
          by_cases v1 : D ≤ 0
          · have := i_le.mp v1
            rw [if_pos v1, if_neg (fun q => by have := i_le.mp q; omega), if_pos (i_lt.mpr (by omega))]
          · have := n_le v1
            rw [if_neg v1, if_neg v1, if_pos (i_le.mpr (by omega))]
        rw [e9]
        exact ⟨qr, X, m', t', st', r1, r2, hfr.tr r3⟩
    · simp only [if_neg c2]
      exact ⟨_, _, _, _, _, rfl, rfl, FrL.rf⟩
  · simp only [if_neg c]
    exact ⟨_, _, _, _, _, rfl, rfl, FrL.rf⟩
end OPq
