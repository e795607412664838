-- questions: swap
theorem set_c {a : Nat} (ha : a < 4) (K S T : Nat → Int32) : fX0_settingOf (nI a) 0 K S T = some (K a) ∧ fX0_settingOf (nI a) 1 K S T = some (S a) ∧ fX0_settingOf (nI a) 2 K S T = some (T a) := by
  unfold fX0_settingOf
  rw [if_pos rfl, if_neg d10, if_pos rfl, if_neg d20, if_neg d21, chk_pos (xin_nI ha (by omega)), chk_pos (xin_nI ha (by omega)), chk_pos (xin_nI ha (by omega)), cN (by omega)]
  exact ⟨rfl, rfl, rfl⟩
theorem chg_c {a : Nat} (ha : a < 4) (v : Int32) (K S T : Nat → Int32) : fX0_changeSetting (nI a) 0 v K S T = some (upd K a v, S, T) ∧ fX0_changeSetting (nI a) 1 v K S T = some (K, upd S a v, T) ∧ fX0_changeSetting (nI a) 2 v K S T = some (K, S, upd T a v) := by
  unfold fX0_changeSetting
  rw [if_pos rfl, if_neg d10, if_pos rfl, if_neg d20, if_neg d21, chk_pos (xin_nI ha (by omega)), chk_pos (xin_nI ha (by omega)), chk_pos (xin_nI ha (by omega)), cN (by omega), bnd_s, bnd_s, bnd_s]
  exact ⟨rfl, rfl, rfl⟩
theorem exch_c {a b : Nat} (ha : a < 4) (hb : b < 4) (K S T : Nat → Int32) : fX0_exchange (nI a) (nI b) K S T = some (upd (upd K a (K b)) b (K a), upd (upd S a (S b)) b (S a), upd (upd T a (T b)) b (T a)) := by
  unfold fX0_exchange
  show fX0_exchange_L2 (996 + 1 + 1 + 1 + 1) (nI a) (nI b) 0 K S T = _
  rw [fX0_exchange_L2, if_neg (by decide), (set_c ha _ _ _).1, cl1_s, (set_c hb _ _ _).1, cl1_s, cl3_mk (chg_c ha _ _ _ _).1, cl3_mk (chg_c hb _ _ _ _).1, bnd_s, show (0 : Int32) + 1 = 1 from by decide]
  rw [fX0_exchange_L2, if_neg (by decide), (set_c ha _ _ _).2.1, cl1_s, (set_c hb _ _ _).2.1, cl1_s, cl3_mk (chg_c ha _ _ _ _).2.1, cl3_mk (chg_c hb _ _ _ _).2.1, bnd_s, show (1 : Int32) + 1 = 2 from by decide]
  rw [fX0_exchange_L2, if_neg (by decide), (set_c ha _ _ _).2.2, cl1_s, (set_c hb _ _ _).2.2, cl1_s, cl3_mk (chg_c ha _ _ _ _).2.2, cl3_mk (chg_c hb _ _ _ _).2.2, bnd_s, show (2 : Int32) + 1 = 3 from by decide]
  rw [fX0_exchange_L2, if_pos (by decide)]
theorem chgs_r {a b off : Nat} (ha : a < 4) (hb : b < 4) (ho : off ≤ 12) (st : Nat → Int32) : fX5_changesOn 200 (nI a) (nI b) (nI off) st = some (upd (upd st (200 + off + a) (st (off + b))) (200 + off + b) (st (off + a))) := by
  unfold fX5_changesOn
  simp only [show (200 : Int32) + nI off = nI (200 + off) from nI_add 200 off, nI_add]
  simp only [chk_pos (xin_nI (show off + b < 240 by omega) (show off + b < 2 ^ 31 by omega)), chk_pos (xin_nI (show off + a < 240 by omega) (show off + a < 2 ^ 31 by omega)), chk_pos (xin_nI (show 200 + off + b < 240 by omega) (show 200 + off + b < 2 ^ 31 by omega)), chk_pos (xin_nI (show 200 + off + a < 240 by omega) (show 200 + off + a < 2 ^ 31 by omega)), bnd_s, cN (show off + b < 1000000 by omega), cN (show off + a < 1000000 by omega), cN (show 200 + off + b < 1000000 by omega), cN (show 200 + off + a < 1000000 by omega)]
  rw [upd_n _ _ (show off + a ≠ 200 + off + a by omega)]
section OPs2
variable {i : Nat} {st : Nat → Int32} {arms strokes hand step : Int32} {kind slack place turn way stroke : Nat → Int32}
/-- two arms of the page 200 changed with each other -/
theorem exch_GR {B : Int} {na ns nt a b : Nat} {K S P T W R : Nat → Int32} (g : GR B 0 na ns nt st hand K S P T W R) (ha : a < na) (hb : b < na) : ∃ s1 s2 s3 : Nat → Int32, fX5_changesOn 200 (nI a) (nI b) 0 (cpv 0 200 40 st) = some s1 ∧ fX5_changesOn 200 (nI a) (nI b) 4 s1 = some s2 ∧ fX5_changesOn 200 (nI a) (nI b) 12 s2 = some s3 ∧ GR B 200 na ns nt s3 hand (upd (upd K a (K b)) b (K a)) (upd (upd S a (S b)) b (S a)) P (upd (upd T a (T b)) b (T a)) W R ∧ Fr 200 st s3 := by
  have hna := g.1
  obtain ⟨a1, a2, -, a4, -⟩ := g.2.2.2.2.2.2.2.2.1 a ha
  obtain ⟨b1, b2, -, b4, -⟩ := g.2.2.2.2.2.2.2.2.1 b hb
  obtain ⟨ra1, ra2, -, ra4⟩ := g.2.2.2.2.2.2.2.1 a ha
  obtain ⟨rb1, rb2, -, rb4⟩ := g.2.2.2.2.2.2.2.1 b hb
  simp only [Nat.zero_add] at a1 a2 a4 b1 b2 b4 ra1 ra2 ra4 rb1 rb2 rb4
  have c1 : fX5_changesOn 200 (nI a) (nI b) 0 (cpv 0 200 40 st) = _ := chgs_r (off := 0) (show a < 4 by omega) (show b < 4 by omega) (by decide) _
  rw [Nat.zero_add, Nat.zero_add, Nat.add_zero, cpv_out (k := b) (by omega), cpv_out (k := a) (by omega)] at c1
  refine ⟨_, _, _, c1, chgs_r (off := 4) (show a < 4 by omega) (show b < 4 by omega) (by decide) _, chgs_r (off := 12) (show a < 4 by omega) (show b < 4 by omega) (by decide) _, ?_, ?_⟩
  · have gg := (((((((g.cp 200).setK ha rb1.1 rb1.2).setK hb ra1.1 ra1.2).setS ha rb2.1 rb2.2).setS hb ra2.1 ra2.2).setT ha rb4.1 rb4.2).setT hb ra4.1 ra4.2)
    simp only [upd_n _ _ (show 4 + b ≠ 200 + b by omega), upd_n _ _ (show 4 + b ≠ 200 + a by omega), upd_n _ _ (show 4 + a ≠ 200 + b by omega), upd_n _ _ (show 4 + a ≠ 200 + a by omega), upd_n _ _ (show 12 + b ≠ 200 + 4 + b by omega), upd_n _ _ (show 12 + b ≠ 200 + 4 + a by omega), upd_n _ _ (show 12 + a ≠ 200 + 4 + b by omega), upd_n _ _ (show 12 + a ≠ 200 + 4 + a by omega), upd_n _ _ (show 12 + b ≠ 200 + b by omega), upd_n _ _ (show 12 + b ≠ 200 + a by omega), upd_n _ _ (show 12 + a ≠ 200 + b by omega), upd_n _ _ (show 12 + a ≠ 200 + a by omega), cpv_out (f := 0) (t := 200) (i := 40) (st := st) (k := 4 + b) (by omega), cpv_out (f := 0) (t := 200) (i := 40) (st := st) (k := 4 + a) (by omega), cpv_out (f := 0) (t := 200) (i := 40) (st := st) (k := 12 + b) (by omega), cpv_out (f := 0) (t := 200) (i := 40) (st := st) (k := 12 + a) (by omega)]
    rw [a1, a2, a4, b1, b2, b4]
    exact gg
  · intro j hj
    rw [upd_n _ _ (by omega), upd_n _ _ (by omega), upd_n _ _ (by omega), upd_n _ _ (by omega), upd_n _ _ (by omega), upd_n _ _ (by omega), cpv_out (by omega)]
theorem swap_in {B : Int} (hB0 : 0 ≤ B) {na ns nt N : Nat} (hN : N ≤ 200) (hB : B + 9 * N ≤ 1000000) (hnt : nt ≤ 9999) (a2 : Int32) (g : GR B 0 na ns nt st hand kind slack place turn way stroke) {a : Nat} (ha : a < na) {n1' n2' : Nat}
    (hk : ∀ (stc : Nat → Int32) (x3 x4 m t wo : Int32) (ta ts th tp tv rv : Int32) (tK tS tP tT tW tR : Nat → Int32), FrL st stc → ∃ qr X m' t' w' st', fX4_swap_L50 (nI na) (nI ns) hand (nI nt) kind slack place turn way stroke n1' (nI N) a2 x3 x4 (nI (a + 1)) ta ts th tp tv rv tK tS tP tT tW tR = some (qr, X) ∧ fX5_swap_L33 n2' (nI N) a2 x3 x4 (nI (a + 1)) m t wo stc = some (qr, m', t', w', st') ∧ FrL st st') :
    ∀ (q v n1 n2 : Nat) (stc : Nat → Int32) (x3 x4 m t wo : Int32) (ta ts th tp tv rv : Int32) (tK tS tP tT tW tR : Nat → Int32), v + q = na → q < n1 → q < n2 → FrL st stc →
    ∃ qr X m' t' w' st', fX4_swap_L68 (nI na) (nI ns) hand (nI nt) kind slack place turn way stroke (fX4_swap_L50 (nI na) (nI ns) hand (nI nt) kind slack place turn way stroke n1') n1 (nI N) a2 x3 x4 (nI a) (nI v) ta ts th tp tv rv tK tS tP tT tW tR = some (qr, X) ∧ fX5_swap_L51 (fX5_swap_L33 n2') n2 (nI N) a2 x3 x4 (nI a) (nI v) m t wo stc = some (qr, m', t', w', st') ∧ FrL st st' := by
  have c20 : xin (20 : Int32) 240 := by decide
  have hna := g.1
  intro q
  induction q with
  | zero =>
    intro v n1 n2 stc x3 x4 m t wo ta ts th tp tv rv tK tS tP tT tW tR hq hn1 hn2 hf
    obtain ⟨n1, rfl⟩ : ∃ z, n1 = z + 1 := ⟨n1 - 1, by omega⟩
    obtain ⟨n2, rfl⟩ : ∃ z, n2 = z + 1 := ⟨n2 - 1, by omega⟩
    have e : v = na := by omega
    subst e
    have h20 : stc 20 = nI v := by rw [hf 20 (by omega)]; have := g.2.2.1; rw [Nat.zero_add] at this; exact this
    rw [fX4_swap_L68, fX5_swap_L51]
    rw [if_pos (Int32.le_refl _), chk_pos c20, cl_20, h20, if_pos (Int32.le_refl _), bnd_s, bnd_s, nI_1]
    exact hk stc x3 x4 m t wo ta ts th tp tv rv tK tS tP tT tW tR hf
  | succ q ih =>
    intro v n1 n2 stc x3 x4 m t wo ta ts th tp tv rv tK tS tP tT tW tR hq hn1 hn2 hf
    obtain ⟨n1, rfl⟩ : ∃ z, n1 = z + 1 := ⟨n1 - 1, by omega⟩
    obtain ⟨n2, rfl⟩ : ∃ z, n2 = z + 1 := ⟨n2 - 1, by omega⟩
    have h20 : stc 20 = nI na := by rw [hf 20 (by omega)]; have := g.2.2.1; rw [Nat.zero_add] at this; exact this
    obtain ⟨K', S', P', T', W', R', e1, g1⟩ := copy_GR g ta ts th tp tv rv tK tS tP tT tW tR
    have g2 : GR B 0 na ns nt stc hand K' S' P' T' W' R' := g1.page (fun j hj => hf _ (by omega))
    have hcp : fX5_copies 0 200 stc = some (cpv 0 200 40 stc) := copies_r (f := 0) (t := 200) (by decide) (by decide) (by decide) stc
    obtain ⟨s1, s2, s3, q1, q2, q3, g3, f3⟩ := exch_GR g2 ha (show v < na by omega)
    obtain ⟨er, mo, tu, wo', hd, P2, T2, W2, st', k1, k2, k3, k4, k5, k6, k7, k8⟩ := go_both hB0 (Or.inr ⟨by decide, by decide⟩) hN hB hnt g3
    have hf' : FrL st st' := (hf.tr (f3.L (by decide))).tr (k5.L (by decide))
    have hle : ¬ nI na ≤ nI v := fun q => by have := (nI_leI (by omega) (by omega)).mp q; omega
    rw [fX4_swap_L68, fX5_swap_L51]
    rw [if_neg hle, chk_pos c20, cl_20, h20, if_neg hle, cl12_mk e1, cl3_mk (exch_c (by omega) (by omega) _ _ _), cl7_mk (k2 0 0), k4, cl1_s, hcp, cl1_s, q1, cl1_s, q2, cl1_s, q3, cl1_s, show (200 : Int32) = nI 200 from rfl, cl5_mk (k1 m t wo)]
    unfold fX4_swap_L138 fX5_swap_L137 fX5_swap_L151
    simp only [bnd_s, nI_1]
    by_cases u : x3 ≤ er
    · rw [if_pos u, if_pos u, if_pos u]
      exact ih (v + 1) n1 n2 st' x3 x4 _ _ _ _ _ _ _ _ _ _ _ _ _ _ _ (by omega) (by omega) (by omega) hf'
    · rw [if_neg u, if_neg u, if_neg u]
      exact ih (v + 1) n1 n2 st' er (10 * nI a + nI v) _ _ _ _ _ _ _ _ _ _ _ _ _ _ _ (by omega) (by omega) (by omega) hf'
theorem swap_out {B : Int} (hB0 : 0 ≤ B) {na ns nt N : Nat} (hN : N ≤ 200) (hB : B + 9 * N ≤ 1000000) (hnt : nt ≤ 9999) (a2 : Int32) (g : GR B 0 na ns nt st hand kind slack place turn way stroke) :
    ∀ (q v n1 n2 : Nat) (stc : Nat → Int32) (x3 x4 m t wo : Int32) (ta ts th tp tv rv : Int32) (tK tS tP tT tW tR : Nat → Int32), v + q = na → q < n1 → q < n2 → FrL st stc →
    ∃ qr X m' t' w' st', fX4_swap_L50 (nI na) (nI ns) hand (nI nt) kind slack place turn way stroke n1 (nI N) a2 x3 x4 (nI v) ta ts th tp tv rv tK tS tP tT tW tR = some (qr, X) ∧ fX5_swap_L33 n2 (nI N) a2 x3 x4 (nI v) m t wo stc = some (qr, m', t', w', st') ∧ FrL st st' := by
  have c20 : xin (20 : Int32) 240 := by decide
  have hna := g.1
  intro q
  induction q with
  | zero =>
    intro v n1 n2 stc x3 x4 m t wo ta ts th tp tv rv tK tS tP tT tW tR hq hn1 hn2 hf
    obtain ⟨n1, rfl⟩ : ∃ z, n1 = z + 1 := ⟨n1 - 1, by omega⟩
    obtain ⟨n2, rfl⟩ : ∃ z, n2 = z + 1 := ⟨n2 - 1, by omega⟩
    have e : v = na := by omega
    subst e
    have h20 : stc 20 = nI v := by rw [hf 20 (by omega)]; have := g.2.2.1; rw [Nat.zero_add] at this; exact this
    rw [fX4_swap_L50, fX5_swap_L33]
    rw [if_pos (Int32.le_refl _), chk_pos c20, cl_20, h20, if_pos (Int32.le_refl _), end_sw]
    split
    · exact ⟨_, _, _, _, _, _, rfl, rfl, hf⟩
    · split
      · exact ⟨_, _, _, _, _, _, rfl, rfl, hf⟩
      · exact ⟨_, _, _, _, _, _, rfl, rfl, hf⟩
  | succ q ih =>
    intro v n1 n2 stc x3 x4 m t wo ta ts th tp tv rv tK tS tP tT tW tR hq hn1 hn2 hf
    obtain ⟨n1, rfl⟩ : ∃ z, n1 = z + 1 := ⟨n1 - 1, by omega⟩
    obtain ⟨n2, rfl⟩ : ∃ z, n2 = z + 1 := ⟨n2 - 1, by omega⟩
    have h20 : stc 20 = nI na := by rw [hf 20 (by omega)]; have := g.2.2.1; rw [Nat.zero_add] at this; exact this
    have hle : ¬ nI na ≤ nI v := fun q => by have := (nI_leI (by omega) (by omega)).mp q; omega
    rw [fX4_swap_L50, fX5_swap_L33]
    rw [if_neg hle, chk_pos c20, cl_20, h20, if_neg hle, bnd_s, bnd_s, nI_1]
    exact swap_in hB0 hN hB hnt a2 g (show v < na by omega) (fun stc x3 x4 m t wo ta ts th tp tv rv tK tS tP tT tW tR hf => ih (v + 1) n1 n2 stc x3 x4 m t wo ta ts th tp tv rv tK tS tP tT tW tR (by omega) (by omega) (by omega) hf) q (v + 1) xF xF stc x3 x4 m t wo ta ts th tp tv rv tK tS tP tT tW tR (by omega) (by show q < 1000; omega) (by show q < 1000; omega) hf
theorem op_swap (a1 a2 m t wo : Int32) (ta ts th tp tv rv : Int32) (tK tS tP tT tW tR : Nat → Int32) (hi : i < 512) (hN : RN i st arms strokes hand step kind slack place turn way stroke) : ∃ qr T m' t' w' st', fX4_swap a1 a2 arms strokes hand step kind slack place turn way stroke ta ts th tp tv rv tK tS tP tT tW tR = some (qr, T) ∧ fX5_swap a1 a2 m t wo st = some (qr, m', t', w', st') ∧ FrL st st' := by
  obtain ⟨na, ns, nt, rfl, rfl, rfl, hnt, g⟩ := hN
  have hna := g.1
  unfold fX4_swap fX5_swap
  rw [ah_eq, gate, fs_eq, gate, ml_eq, gate, in_eq a2 0 1 0 1 rfl rfl, gate]
  by_cases c : 0 ≤ a1 ∧ a1 ≤ 200
  · simp only [if_pos c]
    by_cases c2 : 0 ≤ a2 ∧ a2 ≤ 1
    · simp only [if_pos c2]
      obtain ⟨N, hN, rfl⟩ := of_rng c.1 c.2 (n := 200) rfl
      obtain ⟨K', S', P', T', W', R', e1, g1⟩ := copy_GR g ta ts th tp tv rv tK tS tP tT tW tR
      obtain ⟨er, mo, tu, wo', hd, P2, T2, W2, st', k1, k2, k3, k4, k5, k6, k7, k8⟩ := go_both (by omega) (Or.inl (by decide)) hN (by omega) hnt g1
      have kk := k1 m t wo
      rw [nI_0] at kk
      obtain ⟨qr, X, m', t', w', st2, r1, r2, r3⟩ := swap_out (B := 900 * (i : Int)) (by omega) hN (by omega) hnt a2 g na 0 xF xF st' er (-4) mo tu wo' (nI na) (nI ns) hd (nI (nt + N)) (0 + mo) (0 + tu) K' S' P2 T2 W2 R' (by omega) (by show na < 1000; omega) (by show na < 1000; omega) (k5.L (by decide))
      rw [nI_0] at r1 r2
      rw [cl12_mk e1, cl7_mk (k2 0 0), k4, cl1_s, cl5_mk kk]
      exact ⟨qr, X, m', t', w', st2, r1, r2, r3⟩
    · simp only [if_neg c2]
      exact ⟨_, _, _, _, _, _, rfl, rfl, FrL.rf⟩
  · simp only [if_neg c]
    exact ⟨_, _, _, _, _, _, rfl, rfl, FrL.rf⟩
end OPs2
