-- questions: luck, mean (the runs)
def valv (x2 er : Int32) : Int32 := if x2 = -4 then er else if x2 < er then 0 else 1
theorem mr_loop {na ns j n v : Nat} (hv : v ≤ 10) (hn : n ≤ 8) (hj : j < 256) {K S R : Nat → Int32} (oa os oh op : Int32) (oK oS oP oT oW oR : Nat → Int32) (x2 x4 : Int32) (x5 x7 : Int64) (n2' : Nat) : ∀ (q i n1 nf : Nat) (B : Int) (nt : Nat) (s : Nat → Int32) (hd tv rv : Int32) (P T W : Nat → Int32) (p : Nat) (m t : Int32), i + q = n → q < n1 → q < nf → 0 ≤ B → B + 9 * q ≤ 1000000 → nt + q < 1000000 → GR B 160 na ns nt s hd K S P T W R →
    ∃ er X m' t' s', fX4_errorMissing_L13 oa os oh op oK oS oP oT oW oR n1 (nI j) (nI n) (nI i) (nI na) (nI ns) hd (nI nt) tv rv K S P T W R = some (er, X) ∧ fX5_byMisses_L54 (fX5_byMisses_L32 n2') nf (nI v) x2 (nI n) x4 x5 x7 (nI j) (lN p) (nI i) m t s = fX5_byMisses_L32 n2' (nI v) x2 (nI n) x4 (x5 + lN (p * prodv v j i q) * (valv x2 er).toInt64) x7 (nI (j + 1)) m' t' s' ∧ Fr 160 s s' ∧ 0 ≤ er.toInt ∧ er.toInt ≤ 2000000 := by
  intro q
  induction q with
  | zero =>
    intro i n1 nf B nt s hd tv rv P T W p m t hi hn1 hf hB0 hB hnt g
    obtain ⟨n1, rfl⟩ : ∃ z, n1 = z + 1 := ⟨n1 - 1, by omega⟩
    obtain ⟨nf, rfl⟩ : ∃ z, nf = z + 1 := ⟨nf - 1, by omega⟩
    have e : i = n := by omega
    subst e
    obtain ⟨e1, e2, e3, e4⟩ := err_sim hB0 (by omega) (by decide) g
    have e1' : fX5_errorOn 160 s = _ := e1
    refine ⟨errv 160 na s, (nI na, nI ns, hd, nI nt, tv, rv, K, S, P, T, W, R), m, t, s, ?_, ?_, Fr.rf, e3, by omega⟩
    · rw [fX4_errorMissing_L13]
      rw [if_pos (Int32.le_refl _), e2, cl1_s]
    · rw [fX5_byMisses_L54]
      unfold fX5_byMisses_L148 valv
      rw [if_pos (Int32.le_refl _), e1', cl1_s]
      simp only [bnd_s, nI_1]
      show _ = fX5_byMisses_L32 n2' (nI v) x2 (nI i) x4 (x5 + lN (p * 1) * _) x7 (nI (j + 1)) m t s
      rw [Nat.mul_one]
      split
      · rfl
      · split <;> rfl
  | succ q ih =>
    intro i n1 nf B nt s hd tv rv P T W p m t hi hn1 hf hB0 hB hnt g
    obtain ⟨n1, rfl⟩ : ∃ z, n1 = z + 1 := ⟨n1 - 1, by omega⟩
    obtain ⟨nf, rfl⟩ : ∃ z, nf = z + 1 := ⟨nf - 1, by omega⟩
    have hle : ¬ nI n ≤ nI i := fun q => by have := (nI_leI (by omega) (by omega)).mp q; omega
    have hb := bit_b i (by omega) j hj
    have h2 := Nat.mod_lt (j / 2 ^ i) (show 0 < 2 by decide)
    have ep : ∀ f : Nat, fac v j i = f → p * prodv v j i (q + 1) = p * f * prodv v j (i + 1) q := fun f hf => by
      show p * (fac v j i * prodv v j (i + 1) q) = _
      rw [hf, Nat.mul_assoc]
    rw [fX4_errorMissing_L13, fX5_byMisses_L54]
    unfold fX5_byMisses_L76 fX5_byMisses_L95
    rw [if_neg hle, if_neg hle, hb]
    by_cases u : j / 2 ^ i % 2 = 1
    · have hm := miss_r (by decide) g m t
      have hm' : fX5_stepOn 160 1 m t s = _ := hm
      obtain ⟨er, X, m', t', s', i1, i2, i3, i4, i5⟩ := ih (i + 1) n1 nf B (nt + 1) (upd s (160 + 39) (nI (nt + 1))) hd tv rv P T W (p * v) m t (by omega) (by omega) (by omega) hB0 (by omega) (by omega) (g.step1 (nt + 1))
      rw [u, if_neg (show ¬ nI 1 = 0 from d10), if_pos (show nI 1 = 1 from rfl), if_neg d10, bnd_s, bnd_s, cl3_mk hm', bnd_s, nI_1, nI_1, nI_l (show v < 2 ^ 31 by omega), lN_mul, i2, ep v (by unfold fac; rw [if_pos u])]
      unfold fX4_errorMissing_L49
      rw [bnd_s, nI_1, i1]
      exact ⟨er, X, m', t', s', rfl, rfl, Fr.u39.tr i3, i4, i5⟩
    · have u0 : j / 2 ^ i % 2 = 0 := by omega
      obtain ⟨h1, h2, p1, t1, w1, h3, h4⟩ := step_sim hB0 (by omega) (by decide) (by omega) g
      have h1' : fX5_stepOn 160 0 m t s = _ := h1 m t
      obtain ⟨er, X, m', t', s', i1, i2, i3, i4, i5⟩ := ih (i + 1) n1 nf (B + 9) (nt + 1) (nx 160 s) (nx 160 s (160 + 38)) (tv + dmS 160 s) (rv + dtS 160 s) p1 t1 w1 (p * (10 - v)) (m + dmS 160 s) (t + dtS 160 s) (by omega) (by omega) (by omega) (by omega) (by omega) (by omega) h4
      rw [u0, if_pos nI_0, if_neg (show ¬ nI 0 = 1 from d01), if_pos rfl, cl7_mk (h3 tv rv), bnd_s, cl3_mk h1', bnd_s, nI_1, show (10 : Int32) - nI v = nI (10 - v) from pk_sub (a := 10) hv, nI_l (show 10 - v < 2 ^ 31 by omega), lN_mul, i2, ep (10 - v) (by unfold fac; rw [if_neg u])]
      unfold fX4_errorMissing_L49
      rw [bnd_s, nI_1, i1]
      exact ⟨er, X, m', t', s', rfl, rfl, h2.tr i3, i4, i5⟩
section OPl
variable {i : Nat} {st : Nat → Int32} {arms strokes hand step : Int32} {kind slack place turn way stroke : Nat → Int32}
theorem pow8 {n : Nat} (hn : n ≤ 8) : (10 : Nat) ^ n ≤ 100000000 ∧ (2 : Nat) ^ n ≤ 256 ∧ 0 < (10 : Nat) ^ n := ⟨Nat.le_trans (Nat.pow_le_pow_right (by decide) hn) (by decide), Nat.le_trans (Nat.pow_le_pow_right (by decide) hn) (by decide), Nat.pow_pos (by decide)⟩
theorem shl_n {n : Nat} (hn : n ≤ 8) : (1 : Int32) <<< (nI n &&& 31) = nI (2 ^ n) := shl_v n (by omega)
theorem luck_loop {B : Int} (hB0 : 0 ≤ B) {na ns nt n v : Nat} (hv : v ≤ 10) (hn : n ≤ 8) (hB : B + 100 ≤ 1000000) (hnt : nt ≤ 9999) (a2 a4 : Int32) (h4 : ¬ a2 = -4) (g : GR B 0 na ns nt st hand kind slack place turn way stroke) :
    ∀ (q j n1 n2 s5 : Nat) (stc : Nat → Int32) (m t : Int32) (ta ts th tp tv rv : Int32) (tK tS tP tT tW tR : Nat → Int32), j + q = 2 ^ n → q < n1 → q < n2 → s5 ≤ j * 200000000000000 → FrL st stc →
    ∃ qr X m' t' st', fX4_luck_L30 (nI na) (nI ns) hand (nI nt) kind slack place turn way stroke n1 (nI v) a2 (nI n) a4 (lN s5) (nI j) ta ts th tp tv rv tK tS tP tT tW tR = some (qr, X) ∧ fX5_byMisses_L32 n2 (nI v) a2 (nI n) a4 (lN s5) (lN (10 ^ n)) (nI j) m t stc = some (qr, m', t', st') ∧ FrL st st' := by
  obtain ⟨hp1, hp2, hp3⟩ := pow8 hn
  intro q
  induction q with
  | zero =>
    intro j n1 n2 s5 stc m t ta ts th tp tv rv tK tS tP tT tW tR hq hn1 hn2 hs hf
    obtain ⟨n1, rfl⟩ : ∃ z, n1 = z + 1 := ⟨n1 - 1, by omega⟩
    obtain ⟨n2, rfl⟩ : ∃ z, n2 = z + 1 := ⟨n2 - 1, by omega⟩
    have e : j = 2 ^ n := by omega
    subst e
    have hs2 : s5 < 2 ^ 63 := by omega
    obtain ⟨r, f1, f2⟩ := frac_eq (s := s5) (w := 10 ^ n) hs2 hp3 (by omega) a4
    have hpw : fX4_power 10 (nI n) = some (lN (10 ^ n)) := power_c (b := 10) (by decide) (by omega)
    rw [fX4_luck_L30, fX5_byMisses_L32]
    rw [shl_n hn, if_pos (Int32.le_refl _), if_pos (Int32.le_refl _), hpw, cl1_s, f1, f2, cl1_s, cl1_s]
    exact ⟨_, _, _, _, _, rfl, rfl, hf⟩
  | succ q ih =>
    intro j n1 n2 s5 stc m t ta ts th tp tv rv tK tS tP tT tW tR hq hn1 hn2 hs hf
    obtain ⟨n1, rfl⟩ : ∃ z, n1 = z + 1 := ⟨n1 - 1, by omega⟩
    obtain ⟨n2, rfl⟩ : ∃ z, n2 = z + 1 := ⟨n2 - 1, by omega⟩
    have hle : ¬ nI (2 ^ n) ≤ nI j := fun q => by have := (nI_leI (by omega) (by omega)).mp q; omega
    have hcp : fX5_copies 0 160 stc = some (cpv 0 160 40 stc) := copies_r (f := 0) (t := 160) (by decide) (by decide) (by decide) stc
    obtain ⟨K', S', P', T', W', R', e1, g1⟩ := copy_GR g ta ts th tp tv rv tK tS tP tT tW tR
    have g2 : GR B 0 na ns nt stc hand K' S' P' T' W' R' := g1.page (fun j hj => hf _ (by omega))
    obtain ⟨er, X, m1, t1, s1, i1, i2, i3, i4, i5⟩ := mr_loop hv hn (show j < 256 by omega) (nI na) (nI ns) hand (nI nt) kind slack place turn way stroke a2 a4 (lN s5) (lN (10 ^ n)) n2 n 0 xF xF B nt (cpv 0 160 40 stc) hand 0 0 P' T' W' 1 m t (by omega) (by show n < 1000; omega) (by show n < 1000; omega) hB0 (by omega) (by omega) (g2.cp 160)
    rw [nI_0] at i1 i2
    have i1' : fX4_errorMissing (nI j) (nI n) (nI na) (nI ns) hand (nI nt) kind slack place turn way stroke ta ts th tp tv rv tK tS tP tT tW tR = some (er, X) := by
      unfold fX4_errorMissing
      rw [cl12_mk e1, i1]
    have hf' : FrL st s1 := (hf.tr (fun j hj => cpv_out (by omega))).tr (i3.L (by decide))
    have hW := prod_le hv j n 0
    rw [fX4_luck_L30, fX5_byMisses_L32]
    rw [shl_n hn, if_neg hle, if_neg hle, weight_c hv hn (by omega), cl1_s, hcp, cl1_s, show (1 : Int64) = lN 1 from rfl, i2, Nat.one_mul]
    generalize prodv v j 0 n = W at *
    unfold fX4_luck_L72
    obtain ⟨x1, x2, x3, x4, x5, x6, x7, x8, x9, x10, x11, x12⟩ := X
    by_cases u : W = 0
    · subst u
      rw [if_pos ((lg0 (lN 0)).mpr lN_0), bnd_s, nI_1, lN_0, Int64.zero_mul, Int64.add_zero]
      exact ih (j + 1) n1 n2 s5 s1 _ _ _ _ _ _ _ _ _ _ _ _ _ _ (by omega) (by omega) (by omega) (Nat.le_trans hs (Nat.mul_le_mul_right _ (Nat.le_succ j))) hf'
    · rw [if_neg (fun q => u ((lN_z (by omega)).mp ((lg0 _).mp q))), cl13_mk i1']
      unfold valv
      rw [if_neg h4]
      by_cases u2 : a2 < er
      · rw [if_pos u2, if_pos u2, bnd_s, nI_1, show (0 : Int32).toInt64 = 0 from rfl, Int64.mul_zero, Int64.add_zero]
        exact ih (j + 1) n1 n2 s5 s1 _ _ _ _ _ _ _ _ _ _ _ _ _ _ (by omega) (by omega) (by omega) (Nat.le_trans hs (Nat.mul_le_mul_right _ (Nat.le_succ j))) hf'
      · rw [if_neg u2, if_neg u2, bnd_s, bnd_s, nI_1, show (1 : Int32).toInt64 = 1 from rfl, Int64.mul_one, lN_add]
        exact ih (j + 1) n1 n2 (s5 + W) s1 _ _ _ _ _ _ _ _ _ _ _ _ _ _ (by omega) (by omega) (by omega) (by omega) hf'
theorem mean_loop {B : Int} (hB0 : 0 ≤ B) {na ns nt n v : Nat} (hv : v ≤ 10) (hn : n ≤ 8) (hB : B + 100 ≤ 1000000) (hnt : nt ≤ 9999) (a4 : Int32) (g : GR B 0 na ns nt st hand kind slack place turn way stroke) :
    ∀ (q j n1 n2 s5 : Nat) (stc : Nat → Int32) (m t : Int32) (ta ts th tp tv rv : Int32) (tK tS tP tT tW tR : Nat → Int32), j + q = 2 ^ n → q < n1 → q < n2 → s5 ≤ j * 200000000000000 → FrL st stc →
    ∃ qr X m' t' st', fX4_mean_L19 (nI na) (nI ns) hand (nI nt) kind slack place turn way stroke n1 (nI v) (nI n) a4 (lN s5) (nI j) ta ts th tp tv rv tK tS tP tT tW tR = some (qr, X) ∧ fX5_byMisses_L32 n2 (nI v) (-4) (nI n) a4 (lN s5) (lN (10 ^ n)) (nI j) m t stc = some (qr, m', t', st') ∧ FrL st st' := by
  obtain ⟨hp1, hp2, hp3⟩ := pow8 hn
  intro q
  induction q with
  | zero =>
    intro j n1 n2 s5 stc m t ta ts th tp tv rv tK tS tP tT tW tR hq hn1 hn2 hs hf
    obtain ⟨n1, rfl⟩ : ∃ z, n1 = z + 1 := ⟨n1 - 1, by omega⟩
    obtain ⟨n2, rfl⟩ : ∃ z, n2 = z + 1 := ⟨n2 - 1, by omega⟩
    have e : j = 2 ^ n := by omega
    subst e
    have hs2 : s5 < 2 ^ 63 := by omega
    obtain ⟨r, f1, f2⟩ := frac_eq (s := s5) (w := 10 ^ n) hs2 hp3 (by omega) a4
    have hpw : fX4_power 10 (nI n) = some (lN (10 ^ n)) := power_c (b := 10) (by decide) (by omega)
    rw [fX4_mean_L19, fX5_byMisses_L32]
    rw [shl_n hn, if_pos (Int32.le_refl _), if_pos (Int32.le_refl _), hpw, cl1_s, f1, f2, cl1_s, cl1_s]
    exact ⟨_, _, _, _, _, rfl, rfl, hf⟩
  | succ q ih =>
    intro j n1 n2 s5 stc m t ta ts th tp tv rv tK tS tP tT tW tR hq hn1 hn2 hs hf
    obtain ⟨n1, rfl⟩ : ∃ z, n1 = z + 1 := ⟨n1 - 1, by omega⟩
    obtain ⟨n2, rfl⟩ : ∃ z, n2 = z + 1 := ⟨n2 - 1, by omega⟩
    have hle : ¬ nI (2 ^ n) ≤ nI j := fun q => by have := (nI_leI (by omega) (by omega)).mp q; omega
    have hcp : fX5_copies 0 160 stc = some (cpv 0 160 40 stc) := copies_r (f := 0) (t := 160) (by decide) (by decide) (by decide) stc
    obtain ⟨K', S', P', T', W', R', e1, g1⟩ := copy_GR g ta ts th tp tv rv tK tS tP tT tW tR
    have g2 : GR B 0 na ns nt stc hand K' S' P' T' W' R' := g1.page (fun j hj => hf _ (by omega))
    obtain ⟨er, X, m1, t1, s1, i1, i2, i3, i4, i5⟩ := mr_loop hv hn (show j < 256 by omega) (nI na) (nI ns) hand (nI nt) kind slack place turn way stroke (-4) a4 (lN s5) (lN (10 ^ n)) n2 n 0 xF xF B nt (cpv 0 160 40 stc) hand 0 0 P' T' W' 1 m t (by omega) (by show n < 1000; omega) (by show n < 1000; omega) hB0 (by omega) (by omega) (g2.cp 160)
    rw [nI_0] at i1 i2
    have i1' : fX4_errorMissing (nI j) (nI n) (nI na) (nI ns) hand (nI nt) kind slack place turn way stroke ta ts th tp tv rv tK tS tP tT tW tR = some (er, X) := by
      unfold fX4_errorMissing
      rw [cl12_mk e1, i1]
    have hf' : FrL st s1 := (hf.tr (fun j hj => cpv_out (by omega))).tr (i3.L (by decide))
    have hW := prod_le hv j n 0
    obtain ⟨k, hk, rfl⟩ := nI_of (x := er) (fun q => by have := i_lt.mp q; have e0 : (0 : Int32).toInt = 0 := rfl; omega)
    rw [nI_toInt hk] at i5
    rw [fX4_mean_L19, fX5_byMisses_L32]
    rw [shl_n hn, if_neg hle, if_neg hle, weight_c hv hn (by omega), cl1_s, hcp, cl1_s, show (1 : Int64) = lN 1 from rfl, i2, Nat.one_mul]
    generalize prodv v j 0 n = W at *
    unfold fX4_mean_L59
    obtain ⟨x1, x2, x3, x4, x5, x6, x7, x8, x9, x10, x11, x12⟩ := X
    by_cases u : W = 0
    · subst u
      rw [if_pos ((lg0 (lN 0)).mpr lN_0), bnd_s, nI_1, lN_0, Int64.zero_mul, Int64.add_zero]
      exact ih (j + 1) n1 n2 s5 s1 _ _ _ _ _ _ _ _ _ _ _ _ _ _ (by omega) (by omega) (by omega) (Nat.le_trans hs (Nat.mul_le_mul_right _ (Nat.le_succ j))) hf'
    · rw [if_neg (fun q => u ((lN_z (by omega)).mp ((lg0 _).mp q))), cl13_mk i1']
      unfold valv
      have hb : W * k ≤ 100000000 * 2000000 := Nat.mul_le_mul (by omega) (by omega)
      rw [if_pos rfl, bnd_s, bnd_s, nI_1, nI_l hk, lN_mul, lN_add]
      exact ih (j + 1) n1 n2 (s5 + W * k) s1 _ _ _ _ _ _ _ _ _ _ _ _ _ _ (by omega) (by omega) (by omega) (by omega) hf'
theorem odds_eq (a1 a2 a3 : Int32) : fX4_areOdds a1 a2 a3 = some (if (0 ≤ a1 ∧ a1 ≤ 10) ∧ (0 ≤ a2 ∧ a2 ≤ 8) ∧ (0 ≤ a3 ∧ a3 ≤ 1) then 1 else 0) := by
  unfold fX4_areOdds
  rw [w_eq, gate, w_eq, gate, fs_eq, gate]
  by_cases c1 : 0 ≤ a1 ∧ a1 ≤ 10
  · rw [if_pos c1]
    by_cases c2 : 0 ≤ a2 ∧ a2 ≤ 8
    · rw [if_pos c2]
      by_cases c3 : 0 ≤ a3 ∧ a3 ≤ 1
      · rw [if_pos c3, if_pos ⟨c1, c2, c3⟩]
      · rw [if_neg c3, if_neg (fun h => c3 h.2.2)]
    · rw [if_neg c2, if_neg (fun h => c2 h.2.1)]
  · rw [if_neg c1, if_neg (fun h => c1 h.1)]
theorem op_luck (a1 a2 a3 a4 m t : Int32) (ta ts th tp tv rv : Int32) (tK tS tP tT tW tR : Nat → Int32) (hi : i < 512) (hN : RN i st arms strokes hand step kind slack place turn way stroke) : ∃ qr T m' t' st', fX4_luck a1 a2 a3 a4 arms strokes hand step kind slack place turn way stroke ta ts th tp tv rv tK tS tP tT tW tR = some (qr, T) ∧ fX5_luck a1 a2 a3 a4 m t st = some (qr, m', t', st') ∧ FrL st st' := by
  obtain ⟨na, ns, nt, rfl, rfl, rfl, hnt, g⟩ := hN
  unfold fX4_luck fX5_luck
  rw [odds_eq, gate, w_eq, gate, in_eq a1 0 10 0 10 rfl rfl, gate, in_eq a2 0 99 0 99 rfl rfl, gate, in_eq a3 0 8 0 8 rfl rfl, gate, in_eq a4 0 1 0 1 rfl rfl, gate]
  by_cases c1 : 0 ≤ a1 ∧ a1 ≤ 10
  · by_cases c2 : 0 ≤ a2 ∧ a2 ≤ 99
    · by_cases c3 : 0 ≤ a3 ∧ a3 ≤ 8
      · by_cases c4 : 0 ≤ a4 ∧ a4 ≤ 1
        · simp only [if_pos c1, if_pos c2, if_pos c3, if_pos c4]
          rw [if_pos ⟨c1, c3, c4⟩]
          obtain ⟨v, hv, rfl⟩ := of_rng c1.1 c1.2 (n := 10) rfl
          obtain ⟨n, hn, rfl⟩ := of_rng c3.1 c3.2 (n := 8) rfl
          have h4 : ¬ a2 = -4 := fun q => by rw [q] at c2; exact absurd c2.1 (by decide)
          obtain ⟨hp1, hp2, hp3⟩ := pow8 hn
          obtain ⟨qr, X, m', t', st', r1, r2, r3⟩ := luck_loop (B := 900 * (i : Int)) (by omega) hv hn (by omega) hnt a2 a4 h4 g (2 ^ n) 0 xF xF 0 st m t ta ts th tp tv rv tK tS tP tT tW tR (by omega) (by show 2 ^ n < 1000; omega) (by show 2 ^ n < 1000; omega) (by omega) FrL.rf
          rw [nI_0] at r1 r2
          have r0 := pow_r (nI v) a2 a4 (lN 0) hn m t st n 0 xF 1 (by omega) (by show n < 1000; omega)
          rw [nI_0, Nat.one_mul] at r0
          have r2' : fX5_byMisses (nI v) a2 (nI n) a4 m t st = some (qr, m', t', st') := r0.trans r2
          rw [cl4_mk r2']
          exact ⟨qr, X, m', t', st', r1, rfl, r3⟩
        · simp only [if_pos c1, if_pos c2, if_pos c3, if_neg c4]
          rw [if_neg (fun h => c4 h.2.2)]
          exact ⟨_, _, _, _, _, rfl, rfl, FrL.rf⟩
      · simp only [if_pos c1, if_pos c2, if_neg c3]
        rw [if_neg (fun h => c3 h.2.1)]
        exact ⟨_, _, _, _, _, rfl, rfl, FrL.rf⟩
    · simp only [if_pos c1, if_neg c2]
      split
      · exact ⟨_, _, _, _, _, rfl, rfl, FrL.rf⟩
      · exact ⟨_, _, _, _, _, rfl, rfl, FrL.rf⟩
  · simp only [if_neg c1]
    rw [if_neg (fun h => c1 h.1)]
    exact ⟨_, _, _, _, _, rfl, rfl, FrL.rf⟩
theorem op_mean (a1 a2 a3 m t : Int32) (ta ts th tp tv rv : Int32) (tK tS tP tT tW tR : Nat → Int32) (hi : i < 512) (hN : RN i st arms strokes hand step kind slack place turn way stroke) : ∃ qr T m' t' st', fX4_mean a1 a2 a3 arms strokes hand step kind slack place turn way stroke ta ts th tp tv rv tK tS tP tT tW tR = some (qr, T) ∧ fX5_mean a1 a2 a3 m t st = some (qr, m', t', st') ∧ FrL st st' := by
  obtain ⟨na, ns, nt, rfl, rfl, rfl, hnt, g⟩ := hN
  unfold fX4_mean fX5_mean
  rw [odds_eq, gate, in_eq a1 0 10 0 10 rfl rfl, gate, in_eq a2 0 8 0 8 rfl rfl, gate, in_eq a3 0 1 0 1 rfl rfl, gate]
  by_cases c1 : 0 ≤ a1 ∧ a1 ≤ 10
  · by_cases c3 : 0 ≤ a2 ∧ a2 ≤ 8
    · by_cases c4 : 0 ≤ a3 ∧ a3 ≤ 1
      · simp only [if_pos c1, if_pos c3, if_pos c4]
        rw [if_pos ⟨c1, c3, c4⟩]
        obtain ⟨v, hv, rfl⟩ := of_rng c1.1 c1.2 (n := 10) rfl
        obtain ⟨n, hn, rfl⟩ := of_rng c3.1 c3.2 (n := 8) rfl
        obtain ⟨hp1, hp2, hp3⟩ := pow8 hn
        obtain ⟨qr, X, m', t', st', r1, r2, r3⟩ := mean_loop (B := 900 * (i : Int)) (by omega) hv hn (by omega) hnt a3 g (2 ^ n) 0 xF xF 0 st m t ta ts th tp tv rv tK tS tP tT tW tR (by omega) (by show 2 ^ n < 1000; omega) (by show 2 ^ n < 1000; omega) (by omega) FrL.rf
        rw [nI_0] at r1 r2
        have r0 := pow_r (nI v) (-4) a3 (lN 0) hn m t st n 0 xF 1 (by omega) (by show n < 1000; omega)
        rw [nI_0, Nat.one_mul] at r0
        have r2' : fX5_byMisses (nI v) (-4) (nI n) a3 m t st = some (qr, m', t', st') := r0.trans r2
        rw [cl4_mk r2']
        exact ⟨qr, X, m', t', st', r1, rfl, r3⟩
      · simp only [if_pos c1, if_pos c3, if_neg c4]
        rw [if_neg (fun h => c4 h.2.2)]
        exact ⟨_, _, _, _, _, rfl, rfl, FrL.rf⟩
    · simp only [if_pos c1, if_neg c3]
      rw [if_neg (fun h => c3 h.2.1)]
      exact ⟨_, _, _, _, _, rfl, rfl, FrL.rf⟩
  · simp only [if_neg c1]
    rw [if_neg (fun h => c1 h.1)]
    exact ⟨_, _, _, _, _, rfl, rfl, FrL.rf⟩
end OPl
