-- questions: slack, kind, miss, lead, swap
/-- least so far: the same on both sides (the second case served a class that began with the greatest int) -/
def Lst (v : Nat) (x y : Int32) : Prop := x = y ∨ (v = 0 ∧ x = 2147483647 ∧ y = 1000000)
theorem Lst.le {v : Nat} {x y r : Int32} (h : Lst v x y) (hr : r.toInt < 1000000) : (x ≤ r ↔ y ≤ r) ∧ (y ≤ r → x = y) := by
  rcases h with rfl | ⟨-, rfl, rfl⟩
  · exact ⟨Iff.rfl, fun _ => rfl⟩
  · have e1 : (2147483647 : Int32).toInt = 2147483647 := rfl
    have e2 : (1000000 : Int32).toInt = 1000000 := rfl
    have n1 : ¬ (2147483647 : Int32) ≤ r := fun q => by have := i_le.mp q; omega
    have n2 : ¬ (1000000 : Int32) ≤ r := fun q => by have := i_le.mp q; omega
    exact ⟨⟨fun h => absurd h n1, fun h => absurd h n2⟩, fun h => absurd h n2⟩
section OPb
variable {i : Nat} {st : Nat → Int32} {arms strokes hand step : Int32} {kind slack place turn way stroke : Nat → Int32}
theorem best_loop {B : Int} (hB0 : 0 ≤ B) {na ns nt N a c top : Nat} (hN : N ≤ 200) (hB : B + 9 * N ≤ 499999) (hnt : nt ≤ 9999) (hc : c < 40) (htop : top ≤ 9) (w a4 : Int32) (hmost : fX4_mostOf w = some (nI top)) (g : GR B 0 na ns nt st hand kind slack place turn way stroke)
    (hch : ∀ (v : Nat) (K S P T W R : Nat → Int32), v ≤ top → GR B 0 na ns nt st hand K S P T W R → ∃ K2 S2 : Nat → Int32, fX0_changeSetting (nI a) w (nI v) K S T = some (K2, S2, T) ∧ GR B 200 na ns nt (upd (cpv 0 200 40 st) (200 + c) (nI v)) hand K2 S2 P T W R) :
    ∀ (q v n1 n2 : Nat) (stc : Nat → Int32) (x5c x5r x6 m t wo : Int32) (ta ts th tp tv rv : Int32) (tK tS tP tT tW tR : Nat → Int32), v + q = top + 1 → q < n1 → q < n2 → Lst v x5c x5r → FrL st stc → (∀ j, j < 40 → j ≠ c → stc (200 + j) = st j) →
    ∃ qr X m' t' w' st', fX4_bestSetting_L35 (nI na) (nI ns) hand (nI nt) kind slack place turn way stroke n1 (nI a) w (nI N) a4 x5c x6 (nI v) ta ts th tp tv rv tK tS tP tT tW tR = some (qr, X) ∧ fX5_leastAt_L18 n2 (nI c) (nI (top + 1)) (nI N) a4 x5r x6 (nI v) m t wo stc = some (qr, m', t', w', st') ∧ FrL st st' := by
  intro q
  induction q with
  | zero =>
    intro v n1 n2 stc x5c x5r x6 m t wo ta ts th tp tv rv tK tS tP tT tW tR hq hn1 hn2 hl hf hp
    obtain ⟨n1, rfl⟩ : ∃ z, n1 = z + 1 := ⟨n1 - 1, by omega⟩
    obtain ⟨n2, rfl⟩ : ∃ z, n2 = z + 1 := ⟨n2 - 1, by omega⟩
    have e : v = top + 1 := by omega
    subst e
    have hx : x5c = x5r := by
      rcases hl with h | ⟨h, -, -⟩
      · exact h
      · omega
    subst hx
    rw [fX4_bestSetting_L35, fX5_leastAt_L18]
    rw [hmost, cl1_s, if_pos ((nI_ltI (by omega) (by omega)).mpr (by omega)), if_pos (Int32.le_refl _)]
    split
    · exact ⟨_, _, _, _, _, _, rfl, rfl, hf⟩
    · exact ⟨_, _, _, _, _, _, rfl, rfl, hf⟩
  | succ q ih =>
    intro v n1 n2 stc x5c x5r x6 m t wo ta ts th tp tv rv tK tS tP tT tW tR hq hn1 hn2 hl hf hp
    obtain ⟨n1, rfl⟩ : ∃ z, n1 = z + 1 := ⟨n1 - 1, by omega⟩
    obtain ⟨n2, rfl⟩ : ∃ z, n2 = z + 1 := ⟨n2 - 1, by omega⟩
    obtain ⟨K', S', P', T', W', R', e1, g1⟩ := copy_GR g ta ts th tp tv rv tK tS tP tT tW tR
    obtain ⟨K2, S2, e2, g2⟩ := hch v K' S' P' T' W' R' (by omega) g1
    have g3 : GR B 200 na ns nt (upd stc (200 + c) (nI v)) hand K2 S2 P' T' W' R' := g2.page (fun j hj => by
      by_cases e : j = c
      · subst e; rw [upd_s, upd_s]
      · rw [upd_n _ _ (by omega), upd_n _ _ (by omega), cpv_in (by omega) (by omega), hp j hj e, show 0 + (200 + j - 200) = j by omega])
    obtain ⟨er, mo, tu, wo', hd, P2, T2, W2, st', k1, k2, k3, k4, k5, k6, k7, k8⟩ := go_both hB0 (Or.inr ⟨by decide, by decide⟩) hN (by omega) hnt g3
    have hf' : FrL st st' := (FrL.tr hf (fun j hj => upd_n _ _ (by omega))).tr (k5.L (by decide))
    have hp' : ∀ j, j < 40 → j ≠ c → st' (200 + j) = st j := fun j hj e => by rw [k5 (200 + j) (by omega), upd_n _ _ (by omega)]; exact hp j hj e
    have hle := hl.le (r := er) (by omega)
    rw [fX4_bestSetting_L35, fX5_leastAt_L18]
    rw [hmost, cl1_s, if_neg (fun q => by have := (nI_ltI (by omega) (by omega)).mp q; omega), if_neg (fun q => by have := (nI_leI (by omega) (by omega)).mp q; omega), cl12_mk e1, cl3_mk e2, cl7_mk (k2 0 0), k4, cl1_s, show (200 : Int32) + nI c = nI (200 + c) from nI_add 200 c, chk_pos (xin_nI (by omega) (by omega)), cN (by omega), bnd_s, show (200 : Int32) = nI 200 from rfl, cl5_mk (k1 m t wo)]
    unfold fX4_bestSetting_L98 fX5_leastAt_L60 fX5_leastAt_L76
    simp only [bnd_s, nI_1]
    by_cases u : x5r ≤ er
    · rw [if_pos (hle.1.mpr u), if_pos u, if_pos u]
      exact ih (v + 1) n1 n2 st' x5c x5r x6 _ _ _ _ _ _ _ _ _ _ _ _ _ _ _ (by omega) (by omega) (by omega) (Or.inl (hle.2 u)) hf' hp'
    · rw [if_neg (fun h => u (hle.1.mp h)), if_neg u, if_neg u]
      exact ih (v + 1) n1 n2 st' er er (nI v) _ _ _ _ _ _ _ _ _ _ _ _ _ _ _ (by omega) (by omega) (by omega) (Or.inl rfl) hf' hp'
theorem op_kind (a1 a2 a3 m t wo : Int32) (ta ts th tp tv rv : Int32) (tK tS tP tT tW tR : Nat → Int32) (hi : i < 512) (hN : RN i st arms strokes hand step kind slack place turn way stroke) : ∃ qr T m' t' w' st', fX4_kind a1 a2 a3 arms strokes hand step kind slack place turn way stroke ta ts th tp tv rv tK tS tP tT tW tR = some (qr, T) ∧ fX5_kind a1 a2 a3 m t wo st = some (qr, m', t', w', st') ∧ FrL st st' := by
  obtain ⟨na, ns, nt, rfl, rfl, rfl, hnt, g⟩ := hN
  have h20 : st 20 = nI na := by have := g.2.2.1; rw [Nat.zero_add] at this; exact this
  have hna := g.1
  unfold fX4_kind fX4_bestSetting fX5_kind
  rw [ia_eq, gate, ah_eq, gate, fs_eq, gate, ma_eq, h20, gate, ml_eq, gate, in_eq a3 0 1 0 1 rfl rfl, gate]
  by_cases c : 0 ≤ a1 ∧ a1 ≤ nI na - 1
  · simp only [if_pos c]
    by_cases c2 : 0 ≤ a2 ∧ a2 ≤ 200
    · simp only [if_pos c2]
      by_cases c3 : 0 ≤ a3 ∧ a3 ≤ 1
      · simp only [if_pos c3]
        obtain ⟨k, hk, rfl⟩ := of_idx (by omega) c.1 c.2
        obtain ⟨N, hN, rfl⟩ := of_rng c2.1 c2.2 (n := 200) rfl
        obtain ⟨qr, X, m', t', w', st', r1, r2, r3⟩ := best_loop (B := 900 * (i : Int)) (by omega) (a := k) (c := k) (top := 3) hN (by omega) hnt (by omega) (by decide) 0 a3 rfl g (fun v K S P T W R hv gg => by
            have e1 : fX0_changeSetting (nI k) 0 (nI v) K S T = some (upd K k (nI v), S, T) := by
              unfold fX0_changeSetting
              rw [if_pos rfl, chk_pos (xin_nI (by omega) (by omega)), bnd_s, cN (by omega)]
            exact ⟨_, _, e1, (gg.cp 200).setK hk (by rw [nI_toInt (by omega)]; omega) (by rw [nI_toInt (by omega)]; omega)⟩)
          4 0 xF xF (cpv 0 200 40 st) 1000000 1000000 0 m t wo ta ts th tp tv rv tK tS tP tT tW tR (by omega) (by decide) (by decide) (Or.inl rfl) (fun j hj => cpv_out (by omega)) (fun j hj _ => by rw [cpv_in (by omega) (by omega), show 0 + (200 + j - 200) = j by omega])
        rw [nI_0] at r1 r2
        unfold fX5_leastAt
        have hcp : fX5_copies 0 200 st = some (cpv 0 200 40 st) := copies_r (f := 0) (t := 200) (by decide) (by decide) (by decide) st
        rw [hcp, cl1_s, r1]
        have r2' : fX5_leastAt_L18 xF (nI k) 4 (nI N) a3 1000000 0 0 m t wo (cpv 0 200 40 st) = some (qr, m', t', w', st') := r2
        rw [r2']
        exact ⟨qr, X, m', t', w', st', rfl, rfl, r3⟩
      · simp only [if_neg c3]
        exact ⟨_, _, _, _, _, _, rfl, rfl, FrL.rf⟩
    · simp only [if_neg c2]
      exact ⟨_, _, _, _, _, _, rfl, rfl, FrL.rf⟩
  · simp only [if_neg c]
    exact ⟨_, _, _, _, _, _, rfl, rfl, FrL.rf⟩
theorem op_slack (a1 a2 a3 m t wo : Int32) (ta ts th tp tv rv : Int32) (tK tS tP tT tW tR : Nat → Int32) (hi : i < 512) (hN : RN i st arms strokes hand step kind slack place turn way stroke) : ∃ qr T m' t' w' st', fX4_slack a1 a2 a3 arms strokes hand step kind slack place turn way stroke ta ts th tp tv rv tK tS tP tT tW tR = some (qr, T) ∧ fX5_slack a1 a2 a3 m t wo st = some (qr, m', t', w', st') ∧ FrL st st' := by
  obtain ⟨na, ns, nt, rfl, rfl, rfl, hnt, g⟩ := hN
  have h20 : st 20 = nI na := by have := g.2.2.1; rw [Nat.zero_add] at this; exact this
  have hna := g.1
  unfold fX4_slack fX4_bestSetting fX5_slack
  rw [ia_eq, gate, ah_eq, gate, fs_eq, gate, ma_eq, h20, gate, ml_eq, gate, in_eq a3 0 1 0 1 rfl rfl, gate]
  by_cases c : 0 ≤ a1 ∧ a1 ≤ nI na - 1
  · simp only [if_pos c]
    by_cases c2 : 0 ≤ a2 ∧ a2 ≤ 200
    · simp only [if_pos c2]
      by_cases c3 : 0 ≤ a3 ∧ a3 ≤ 1
      · simp only [if_pos c3]
        obtain ⟨k, hk, rfl⟩ := of_idx (by omega) c.1 c.2
        obtain ⟨N, hN, rfl⟩ := of_rng c2.1 c2.2 (n := 200) rfl
        obtain ⟨qr, X, m', t', w', st', r1, r2, r3⟩ := best_loop (B := 900 * (i : Int)) (by omega) (a := k) (c := 4 + k) (top := 9) hN (by omega) hnt (by omega) (by decide) 1 a3 rfl g (fun v K S P T W R hv gg => by
            have e1 : fX0_changeSetting (nI k) 1 (nI v) K S T = some (K, upd S k (nI v), T) := by
              unfold fX0_changeSetting
              rw [if_neg d10, if_pos rfl, chk_pos (xin_nI (by omega) (by omega)), bnd_s, cN (by omega)]
            have g2 := (gg.cp 200).setS hk (v := nI v) (by rw [nI_toInt (by omega)]; omega) (by rw [nI_toInt (by omega)]; omega)
            rw [Nat.add_assoc] at g2
            exact ⟨_, _, e1, g2⟩)
          10 0 xF xF (cpv 0 200 40 st) 1000000 1000000 0 m t wo ta ts th tp tv rv tK tS tP tT tW tR (by omega) (by decide) (by decide) (Or.inl rfl) (fun j hj => cpv_out (by omega)) (fun j hj _ => by rw [cpv_in (by omega) (by omega), show 0 + (200 + j - 200) = j by omega])
        rw [nI_0] at r1 r2
        unfold fX5_leastAt
        have hcp : fX5_copies 0 200 st = some (cpv 0 200 40 st) := copies_r (f := 0) (t := 200) (by decide) (by decide) (by decide) st
        rw [hcp, cl1_s, r1]
        have r2' : fX5_leastAt_L18 xF (nI (4 + k)) 10 (nI N) a3 1000000 0 0 m t wo (cpv 0 200 40 st) = some (qr, m', t', w', st') := r2
        rw [show (4 : Int32) + nI k = nI (4 + k) from nI_add 4 k, r2']
        exact ⟨qr, X, m', t', w', st', rfl, rfl, r3⟩
      · simp only [if_neg c3]
        exact ⟨_, _, _, _, _, _, rfl, rfl, FrL.rf⟩
    · simp only [if_neg c2]
      exact ⟨_, _, _, _, _, _, rfl, rfl, FrL.rf⟩
  · simp only [if_neg c]
    exact ⟨_, _, _, _, _, _, rfl, rfl, FrL.rf⟩
theorem end_sw {β : Type} {x2 x4 : Int32} {A B : Option β} : (if x2 = 0 then A else if x4 = -4 then A else B) = (if x4 = -4 then A else if x2 = 0 then A else B) := by
  by_cases h : x2 = 0
  · rw [if_pos h, if_pos h]
    split <;> rfl
  · rw [if_neg h, if_neg h]
theorem miss_loop {B : Int} (hB0 : 0 ≤ B) {na ns nt N : Nat} (hN : N ≤ 200) (hB : B + 9 * N ≤ 1000000) (hnt : nt ≤ 9999) (a2 : Int32) (g : GR B 0 na ns nt st hand kind slack place turn way stroke) :
    ∀ (q v n1 n2 : Nat) (stc : Nat → Int32) (x3 x4 m t wo : Int32) (ta ts th tp tv rv : Int32) (tK tS tP tT tW tR : Nat → Int32), v + q = ns → q < n1 → q < n2 → FrL st stc →
    ∃ qr X m' t' w' st', fX4_miss_L50 (nI na) (nI ns) hand (nI nt) kind slack place turn way stroke n1 (nI N) a2 x3 x4 (nI v) ta ts th tp tv rv tK tS tP tT tW tR = some (qr, X) ∧ fX5_miss_L33 n2 (nI N) a2 x3 x4 (nI v) m t wo stc = some (qr, m', t', w', st') ∧ FrL st st' := by
  have c37 : xin (37 : Int32) 240 := by decide
  have hns := g.2.1
  intro q
  induction q with
  | zero =>
    intro v n1 n2 stc x3 x4 m t wo ta ts th tp tv rv tK tS tP tT tW tR hq hn1 hn2 hf
    obtain ⟨n1, rfl⟩ : ∃ z, n1 = z + 1 := ⟨n1 - 1, by omega⟩
    obtain ⟨n2, rfl⟩ : ∃ z, n2 = z + 1 := ⟨n2 - 1, by omega⟩
    have e : v = ns := by omega
    subst e
    have h37 : stc 37 = nI v := by rw [hf 37 (by omega)]; have := g.2.2.2.1; rw [Nat.zero_add] at this; exact this
    rw [fX4_miss_L50, fX5_miss_L33]
    rw [if_pos (Int32.le_refl _), chk_pos c37, cl_37, h37, if_pos (Int32.le_refl _), end_sw]
    split
    · exact ⟨_, _, _, _, _, _, rfl, rfl, hf⟩
    · split
      · exact ⟨_, _, _, _, _, _, rfl, rfl, hf⟩
      · exact ⟨_, _, _, _, _, _, rfl, rfl, hf⟩
  | succ q ih =>
    intro v n1 n2 stc x3 x4 m t wo ta ts th tp tv rv tK tS tP tT tW tR hq hn1 hn2 hf
    obtain ⟨n1, rfl⟩ : ∃ z, n1 = z + 1 := ⟨n1 - 1, by omega⟩
    obtain ⟨n2, rfl⟩ : ∃ z, n2 = z + 1 := ⟨n2 - 1, by omega⟩
    have h37 : stc 37 = nI ns := by rw [hf 37 (by omega)]; have := g.2.2.2.1; rw [Nat.zero_add] at this; exact this
    obtain ⟨K', S', P', T', W', R', e1, g1⟩ := copy_GR g ta ts th tp tv rv tK tS tP tT tW tR
    have g2 : GR B 0 na ns nt stc hand K' S' P' T' W' R' := g1.page (fun j hj => hf _ (by omega))
    have g3 := (g2.cp 200).setW (i := v) (v := 0) (by omega) (by decide) (by decide)
    have hcp : fX5_copies 0 200 stc = some (cpv 0 200 40 stc) := copies_r (f := 0) (t := 200) (by decide) (by decide) (by decide) stc
    obtain ⟨er, mo, tu, wo', hd, P2, T2, W2, st', k1, k2, k3, k4, k5, k6, k7, k8⟩ := go_both hB0 (Or.inr ⟨by decide, by decide⟩) hN hB hnt g3
    have hf' : FrL st st' := (hf.tr (FrL.tr (fun j hj => cpv_out (by omega)) (fun j hj => upd_n _ _ (by omega)))).tr (k5.L (by decide))
    have hle : ¬ nI ns ≤ nI v := fun q => by have := (nI_leI (by omega) (by omega)).mp q; omega
    rw [fX4_miss_L50, fX5_miss_L33]
    rw [if_neg hle, chk_pos c37, cl_37, h37, if_neg hle, cl12_mk e1, chk_pos (xin_nI (by omega) (by omega)), cN (by omega), bnd_s, cl7_mk (k2 0 0), k4, cl1_s, hcp, cl1_s, show (221 : Int32) + nI v = nI (200 + 21 + v) from nI_add 221 v, chk_pos (xin_nI (by omega) (by omega)), cN (by omega), bnd_s, show (200 : Int32) = nI 200 from rfl, cl5_mk (k1 m t wo)]
    unfold fX4_miss_L114 fX5_miss_L88 fX5_miss_L102
    simp only [bnd_s, nI_1]
    by_cases u : x3 ≤ er
    · rw [if_pos u, if_pos u, if_pos u]
      exact ih (v + 1) n1 n2 st' x3 x4 _ _ _ _ _ _ _ _ _ _ _ _ _ _ _ (by omega) (by omega) (by omega) hf'
    · rw [if_neg u, if_neg u, if_neg u]
      exact ih (v + 1) n1 n2 st' er (nI v) _ _ _ _ _ _ _ _ _ _ _ _ _ _ _ (by omega) (by omega) (by omega) hf'
theorem op_miss (a1 a2 m t wo : Int32) (ta ts th tp tv rv : Int32) (tK tS tP tT tW tR : Nat → Int32) (hi : i < 512) (hN : RN i st arms strokes hand step kind slack place turn way stroke) : ∃ qr T m' t' w' st', fX4_miss a1 a2 arms strokes hand step kind slack place turn way stroke ta ts th tp tv rv tK tS tP tT tW tR = some (qr, T) ∧ fX5_miss a1 a2 m t wo st = some (qr, m', t', w', st') ∧ FrL st st' := by
  obtain ⟨na, ns, nt, rfl, rfl, rfl, hnt, g⟩ := hN
  have hns := g.2.1
  unfold fX4_miss fX5_miss
  rw [ah_eq, gate, fs_eq, gate, ml_eq, gate, in_eq a2 0 1 0 1 rfl rfl, gate]
  by_cases c : 0 ≤ a1 ∧ a1 ≤ 200
  · simp only [if_pos c]
    by_cases c2 : 0 ≤ a2 ∧ a2 ≤ 1
    · simp only [if_pos c2]
      obtain ⟨N, hN, rfl⟩ := of_rng c.1 c.2 (n := 200) rfl
      obtain ⟨K', S', P', T', W', R', e1, g1⟩ := copy_GR g ta ts th tp tv rv tK tS tP tT tW tR
      obtain ⟨er, mo, tu, wo', hd, P2, T2, W2, st', k1, k2, k3, k4, k5, k6, k7, k8⟩ := go_both (by omega) (Or.inl (by decide)) hN (by omega) hnt g1
      have kk := k1 m t wo
      rw [nI_0] at kk
      obtain ⟨qr, X, m', t', w', st2, r1, r2, r3⟩ := miss_loop (B := 900 * (i : Int)) (by omega) hN (by omega) hnt a2 g ns 0 xF xF st' er (-4) mo tu wo' (nI na) (nI ns) hd (nI (nt + N)) (0 + mo) (0 + tu) K' S' P2 T2 W2 R' (by omega) (by show ns < 1000; omega) (by show ns < 1000; omega) (k5.L (by decide))
      rw [nI_0] at r1 r2
      rw [cl12_mk e1, cl7_mk (k2 0 0), k4, cl1_s, cl5_mk kk]
      exact ⟨qr, X, m', t', w', st2, r1, r2, r3⟩
    · simp only [if_neg c2]
      exact ⟨_, _, _, _, _, _, rfl, rfl, FrL.rf⟩
  · simp only [if_neg c]
    exact ⟨_, _, _, _, _, _, rfl, rfl, FrL.rf⟩
theorem lead_loop {B : Int} (hB0 : 0 ≤ B) {na ns nt N : Nat} (hN : N ≤ 200) (hB : B + 9 + 9 * N ≤ 499999) (hnt : nt ≤ 9999) (a2 : Int32) (g : GR B 0 na ns nt st hand kind slack place turn way stroke) :
    ∀ (q v n1 n2 : Nat) (stc : Nat → Int32) (x3c x3 x4 m t wo : Int32) (ta ts th tp tv rv : Int32) (tK tS tP tT tW tR : Nat → Int32), v + q = 19 → q < n1 → q < n2 → Lst v x3c x3 → FrL st stc →
    ∃ qr X m' t' w' st', fX4_lead_L25 (nI na) (nI ns) hand (nI nt) kind slack place turn way stroke n1 (nI N) a2 x3c x4 (nI v) ta ts th tp tv rv tK tS tP tT tW tR = some (qr, X) ∧ fX5_lead_L28 n2 (nI N) a2 x3 x4 (nI v) m t wo stc = some (qr, m', t', w', st') ∧ FrL st st' := by
  intro q
  induction q with
  | zero =>
    intro v n1 n2 stc x3c x3 x4 m t wo ta ts th tp tv rv tK tS tP tT tW tR hq hn1 hn2 hl hf
    obtain ⟨n1, rfl⟩ : ∃ z, n1 = z + 1 := ⟨n1 - 1, by omega⟩
    obtain ⟨n2, rfl⟩ : ∃ z, n2 = z + 1 := ⟨n2 - 1, by omega⟩
    have e : v = 19 := by omega
    subst e
    have hx : x3c = x3 := by
      rcases hl with h | ⟨h, -, -⟩
      · exact h
      · omega
    subst hx
    rw [fX4_lead_L25, fX5_lead_L28]
    rw [if_pos (show (18 : Int32) < nI 19 by decide), if_pos (show (18 : Int32) < nI 19 by decide)]
    split
    · exact ⟨_, _, _, _, _, _, rfl, rfl, hf⟩
    · exact ⟨_, _, _, _, _, _, rfl, rfl, hf⟩
  | succ q ih =>
    intro v n1 n2 stc x3c x3 x4 m t wo ta ts th tp tv rv tK tS tP tT tW tR hq hn1 hn2 hl hf
    obtain ⟨n1, rfl⟩ : ∃ z, n1 = z + 1 := ⟨n1 - 1, by omega⟩
    obtain ⟨n2, rfl⟩ : ∃ z, n2 = z + 1 := ⟨n2 - 1, by omega⟩
    obtain ⟨K', S', P', T', W', R', e1, g1⟩ := copy_GR g ta ts th tp tv rv tK tS tP tT tW tR
    have g2 : GR B 0 na ns nt stc hand K' S' P' T' W' R' := g1.page (fun j hj => hf _ (by omega))
    have hcp : fX5_copies 0 200 stc = some (cpv 0 200 40 stc) := copies_r (f := 0) (t := 200) (by decide) (by decide) (by decide) stc
    have hv := v9 (v := nI v) ⟨nI_pos' (by omega), show nI v ≤ (18 : Int32) from (nI_leI (b := 18) (by omega) (by omega)).mpr (by omega)⟩
    obtain ⟨dm, dt, sth, P3, T3, W3, i1, i2, i3, i4⟩ := hand_sim hB0 (by omega) (by decide) (g2.cp 200) hv.1 hv.2
    obtain ⟨er, mo, tu, wo', hd, P2, T2, W2, st', k1, k2, k3, k4, k5, k6, k7, k8⟩ := go_both (by omega) (Or.inr ⟨by decide, by decide⟩) hN (by omega) hnt i3
    have hf' : FrL st st' := (hf.tr (FrL.tr (fun j hj => cpv_out (by omega)) (i4.L (by decide)))).tr (k5.L (by decide))
    have hlt : ¬ (18 : Int32) < nI v := fun q => by have := (nI_ltI (a := 18) (by omega) (by omega)).mp q; omega
    have hle := hl.le (r := wo') (by omega)
    rw [fX4_lead_L25, fX5_lead_L28]
    rw [if_neg hlt, if_neg hlt, cl12_mk e1, cl6_mk (i2 0 0), cl8_mk (k3 _ _), hcp, cl1_s, show (200 : Int32) = nI 200 from rfl, cl3_mk (i1 m t), cl5_mk (k1 _ _ wo)]
    unfold fX4_lead_L78 fX5_lead_L79 fX5_lead_L97
    simp only [bnd_s, nI_1]
    by_cases u : x3 ≤ wo'
    · rw [if_pos (hle.1.mpr u), if_pos u, if_pos u]
      exact ih (v + 1) n1 n2 st' x3c x3 x4 _ _ _ _ _ _ _ _ _ _ _ _ _ _ _ (by omega) (by omega) (by omega) (Or.inl (hle.2 u)) hf'
    · rw [if_neg (fun h => u (hle.1.mp h)), if_neg u, if_neg u]
      exact ih (v + 1) n1 n2 st' wo' wo' (nI v) _ _ _ _ _ _ _ _ _ _ _ _ _ _ _ (by omega) (by omega) (by omega) (Or.inl rfl) hf'
theorem op_lead (a1 a2 m t wo : Int32) (ta ts th tp tv rv : Int32) (tK tS tP tT tW tR : Nat → Int32) (hi : i < 512) (hN : RN i st arms strokes hand step kind slack place turn way stroke) : ∃ qr T m' t' w' st', fX4_lead a1 a2 arms strokes hand step kind slack place turn way stroke ta ts th tp tv rv tK tS tP tT tW tR = some (qr, T) ∧ fX5_lead a1 a2 m t wo st = some (qr, m', t', w', st') ∧ FrL st st' := by
  obtain ⟨na, ns, nt, rfl, rfl, rfl, hnt, g⟩ := hN
  unfold fX4_lead fX5_lead
  rw [ah_eq, gate, fs_eq, gate, ml_eq, gate, in_eq a2 0 1 0 1 rfl rfl, gate]
  by_cases c : 0 ≤ a1 ∧ a1 ≤ 200
  · simp only [if_pos c]
    by_cases c2 : 0 ≤ a2 ∧ a2 ≤ 1
    · simp only [if_pos c2]
      obtain ⟨N, hN, rfl⟩ := of_rng c.1 c.2 (n := 200) rfl
      have rr := lead_loop (B := 900 * (i : Int)) (by omega) hN (by omega) hnt a2 g 19 0 xF xF st 1000000 1000000 0 m t wo ta ts th tp tv rv tK tS tP tT tW tR (by omega) (by decide) (by decide) (Or.inl rfl) FrL.rf
      rw [nI_0] at rr
      exact rr
    · simp only [if_neg c2]
      exact ⟨_, _, _, _, _, _, rfl, rfl, FrL.rf⟩
  · simp only [if_neg c]
    exact ⟨_, _, _, _, _, _, rfl, rfl, FrL.rf⟩
end OPb
