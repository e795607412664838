-- alter, hang, count
theorem d10 : ¬ (1 : Int32) = 0 := by decide
theorem d12 : ¬ (1 : Int32) = 2 := by decide
theorem d20 : ¬ (2 : Int32) = 0 := by decide
theorem d21 : ¬ (2 : Int32) = 1 := by decide
theorem d01 : ¬ (0 : Int32) = 1 := by decide
theorem d02 : ¬ (0 : Int32) = 2 := by decide
theorem of1 {x : Int32} (h : 0 ≤ x ∧ x ≤ 1) : x = 0 ∨ x = 1 := by
  have h1 := v_rng h.1 h.2 (n := 1) rfl
  rcases (by omega : x.toInt = 0 ∨ x.toInt = 1) with q | q
  · exact Or.inl (i_eq.mpr q)
  · exact Or.inr (i_eq.mpr q)
theorem of2 {x : Int32} (h : 0 ≤ x ∧ x ≤ 2) : x = 0 ∨ x = 1 ∨ x = 2 := by
  have h1 := v_rng h.1 h.2 (n := 2) rfl
  rcases (by omega : x.toInt = 0 ∨ x.toInt = 1 ∨ x.toInt = 2) with q | q | q
  · exact Or.inl (i_eq.mpr q)
  · exact Or.inr (Or.inl (i_eq.mpr q))
  · exact Or.inr (Or.inr (i_eq.mpr q))
theorem of3 {x : Int32} (h : 0 ≤ x ∧ x ≤ 3) : x = 0 ∨ x = 1 ∨ x = 2 ∨ x = 3 := by
  have h1 := v_rng h.1 h.2 (n := 3) rfl
  rcases (by omega : x.toInt = 0 ∨ x.toInt = 1 ∨ x.toInt = 2 ∨ x.toInt = 3) with q | q | q | q
  · exact Or.inl (i_eq.mpr q)
  · exact Or.inr (Or.inl (i_eq.mpr q))
  · exact Or.inr (Or.inr (Or.inl (i_eq.mpr q)))
  · exact Or.inr (Or.inr (Or.inr (i_eq.mpr q)))
theorem nI_m1 {m : Nat} (h : m ≤ 1000) : ¬ nI m = -1 := fun q => by
  have := i_eq.mp q
  rw [nI_toInt (by omega)] at this
  have e : (-1 : Int32).toInt = -1 := rfl
  omega
theorem lane_n4 {x : Int32} (h : x = 0 ∨ x = 1 ∨ x = 2) : ¬ x = -4 := by
  rcases h with q | q | q <;> rw [q] <;> decide
section OPa
variable {i : Nat} {st : Nat → Int32} {arms strokes hand step : Int32} {kind slack place turn way stroke : Nat → Int32}
theorem op_alter (a1 a2 a3 : Int32) (hN : RN i st arms strokes hand step kind slack place turn way stroke) : ∃ (qr : Int32) (kind' slack' turn' st' : Nat → Int32), fX4_alter a1 a2 a3 arms kind slack turn = some (qr, kind', slack', turn') ∧ fX5_alter a1 a2 a3 st = some (qr, st') ∧ RN (i + 1) st' arms strokes hand step kind' slack' place turn' way stroke ∧ FrI st st' := by
  have hN0 := hN
  obtain ⟨na, ns, nt, rfl, rfl, rfl, hnt, g⟩ := hN
  have h20 : st 20 = nI na := by have := g.2.2.1; rw [Nat.zero_add] at this; exact this
  have hna := g.1
  have bad : fX5_alter_L46 a1 a2 a3 st = some (-1, st) := by
    unfold fX5_alter_L46 fX5_alter_L47 fX5_alter_L69
    split
    · rw [cl2_mk (puts_0 _ _ _ _)]
    · rw [cl2_mk (puts_0 _ _ _ _)]
  unfold fX4_alter fX5_alter
  rw [ia_eq, gate, ma_eq, h20, gate, bad, w_eq, gate, in_eq a2 0 2 0 2 rfl rfl, gate]
  by_cases c : 0 ≤ a1 ∧ a1 ≤ nI na - 1
  · simp only [if_pos c]
    by_cases c2 : 0 ≤ a2 ∧ a2 ≤ 2
    · simp only [if_pos c2]
      obtain ⟨k, hk, rfl⟩ := of_idx (by omega) c.1 c.2
      have gu := g.up (show 900 * (i : Int) ≤ 900 * ((i + 1 : Nat) : Int) by omega)
      obtain ⟨q1, q2, q3, q4, q5⟩ := g.2.2.2.2.2.2.2.2.1 k hk
      simp only [Nat.zero_add] at q1 q2 q3 q4 q5
      rcases of2 c2 with rfl | rfl | rfl
      · rw [show fX4_mostOf 0 = some 3 from rfl, cl1_s, w_eq, gate, if_pos rfl]
        unfold fX5_alter_L36
        rw [in_eq a3 0 3 0 3 rfl rfl, gate, bad]
        by_cases c3 : 0 ≤ a3 ∧ a3 ≤ 3
        · simp only [if_pos c3]
          have hv := v_rng c3.1 c3.2 (n := 3) rfl
          unfold fX5_alter_L47 fX5_alter_L69 fX0_settingOf fX0_changeSetting
          rw [if_pos rfl, if_pos rfl, if_neg d02, show (4 : Int32) * 0 + nI k = nI k from by rw [show (4 : Int32) * 0 = 0 from by decide, Int32.zero_add], cl2_mk (puts_r (by omega) _ _ _)]
          simp only [chk_pos (xin_nI (show k < 4 by omega) (show k < 2 ^ 31 by omega)), bnd_s, cl1_s, cN (show k < 1000000 by omega)]
          rw [sub_z, Int32.add_zero, q1]
          refine ⟨_, _, _, _, _, rfl, rfl, ⟨na, ns, nt, rfl, rfl, rfl, hnt, ?_⟩, fun j h1 h2 => upd_n _ _ (by omega)⟩
          have := gu.setK hk hv.1 hv.2
          rw [Nat.zero_add] at this
          exact this
        · simp only [if_neg c3]
          exact ⟨_, _, _, _, _, rfl, rfl, hN0.up, fun _ _ _ => rfl⟩
      · rw [show fX4_mostOf 1 = some 9 from rfl, cl1_s, w_eq, gate, if_neg d10]
        unfold fX5_alter_L36
        rw [in_eq a3 0 9 0 9 rfl rfl, gate, bad]
        by_cases c3 : 0 ≤ a3 ∧ a3 ≤ 9
        · simp only [if_pos c3]
          have hv := v_rng c3.1 c3.2 (n := 9) rfl
          unfold fX5_alter_L47 fX5_alter_L69 fX0_settingOf fX0_changeSetting
          rw [if_neg d10, if_pos rfl, if_neg d10, if_pos rfl, if_neg d12, show (4 : Int32) * 1 + nI k = nI (4 + k) from by rw [show (4 : Int32) * 1 = nI 4 from by decide, nI_add], cl2_mk (puts_r (by omega) _ _ _)]
          simp only [chk_pos (xin_nI (show k < 4 by omega) (show k < 2 ^ 31 by omega)), bnd_s, cl1_s, cN (show k < 1000000 by omega)]
          rw [sub_z, Int32.add_zero, q2]
          refine ⟨_, _, _, _, _, rfl, rfl, ⟨na, ns, nt, rfl, rfl, rfl, hnt, ?_⟩, fun j h1 h2 => upd_n _ _ (by omega)⟩
          have := gu.setS hk hv.1 hv.2
          simp only [Nat.zero_add] at this
          exact this
        · simp only [if_neg c3]
          exact ⟨_, _, _, _, _, rfl, rfl, hN0.up, fun _ _ _ => rfl⟩
      · rw [show fX4_mostOf 2 = some 9 from rfl, cl1_s, w_eq, gate, if_neg d20]
        unfold fX5_alter_L36
        rw [in_eq a3 0 9 0 9 rfl rfl, gate, bad]
        by_cases c3 : 0 ≤ a3 ∧ a3 ≤ 9
        · simp only [if_pos c3]
          have hv := v_rng c3.1 c3.2 (n := 9) rfl
          unfold fX5_alter_L47 fX5_alter_L69 fX0_settingOf fX0_changeSetting
          rw [if_neg d20, if_neg d21, if_neg d20, if_neg d21, if_pos rfl, show (12 : Int32) + nI k = nI (12 + k) from nI_add 12 k, cl2_mk (puts_r (by omega) _ _ _)]
          simp only [chk_pos (xin_nI (show k < 4 by omega) (show k < 2 ^ 31 by omega)), bnd_s, cl1_s, cN (show k < 1000000 by omega)]
          rw [sub_z, Int32.add_zero, q4]
          refine ⟨_, _, _, _, _, rfl, rfl, ⟨na, ns, nt, rfl, rfl, rfl, hnt, ?_⟩, fun j h1 h2 => upd_n _ _ (by omega)⟩
          have := gu.setT hk hv.1 hv.2
          simp only [Nat.zero_add] at this
          exact this
        · simp only [if_neg c3]
          exact ⟨_, _, _, _, _, rfl, rfl, hN0.up, fun _ _ _ => rfl⟩
    · simp only [if_neg c2]
      exact ⟨_, _, _, _, _, rfl, rfl, hN0.up, fun _ _ _ => rfl⟩
  · simp only [if_neg c]
    exact ⟨_, _, _, _, _, rfl, rfl, hN0.up, fun _ _ _ => rfl⟩
theorem last_c {B : Int} {b na ns nt : Nat} (g : GR B b na ns nt st hand kind slack place turn way stroke) : fX0_lastPlace (nI na) hand place = some (leadv b st na) := by
  obtain ⟨g1, g2, g3, g4, g5, g6, g7, g8, g9, g10⟩ := g
  unfold fX0_lastPlace leadv
  by_cases h : na = 0
  · subst h
    rw [if_pos nI_0, if_pos rfl, g6]
  · have hne : ¬ nI na = 0 := fun q => h ((nI_eq (by omega) (by decide)).mp (q.trans nI_0.symm))
    have hg := (g9 (na - 1) (by omega)).2.2.1
    rw [if_neg hne, if_neg h, show (1 : Int32) = nI 1 from rfl, pk_sub (by omega), chk_pos (xin_nI (by omega) (by omega)), cN (by omega), hg]
    congr 2
    omega
theorem op_hang (a1 a2 : Int32) (hN : RN i st arms strokes hand step kind slack place turn way stroke) : ∃ (qr arms' : Int32) (kind' slack' place' turn' way' st' : Nat → Int32), fX4_hang a1 a2 arms hand kind slack place turn way = some (qr, arms', kind', slack', place', turn', way') ∧ fX5_hang a1 a2 st = some (qr, st') ∧ RN (i + 1) st' arms' strokes hand step kind' slack' place' turn' way' stroke ∧ FrI st st' := by
  have hN0 := hN
  obtain ⟨na, ns, nt, rfl, rfl, rfl, hnt, g⟩ := hN
  have h20 : st 20 = nI na := by have := g.2.2.1; rw [Nat.zero_add] at this; exact this
  have hna := g.1
  unfold fX4_hang fX5_hang
  rw [w_eq, gate, w_eq, gate, in_eq a1 0 3 0 3 rfl rfl, gate, in_eq a2 0 9 0 9 rfl rfl, gate]
  by_cases c : 0 ≤ a1 ∧ a1 ≤ 3
  · simp only [if_pos c]
    by_cases c2 : 0 ≤ a2 ∧ a2 ≤ 9
    · simp only [if_pos c2]
      have c20 : xin (20 : Int32) 240 := by decide
      simp only [chk_pos c20, cl_20, bnd_s, h20]
      by_cases hf : na = 4
      · subst hf
        refine ⟨-3, nI 4, kind, slack, place, turn, way, st, ?_, if_pos rfl, hN0.up, fun _ _ _ => rfl⟩
        unfold fX0_appendArm
        rw [if_neg (by decide)]
        rfl
      · rw [if_neg (show ¬ nI na = (4 : Int32) from fun q => hf ((nI_eq (b := 4) (by omega) (by omega)).mp q))]
        have gu := (g.up (show 900 * (i : Int) ≤ 900 * ((i + 1 : Nat) : Int) by omega)).hang (by omega) (show na < 4 by omega) (v_rng c.1 c.2 (n := 3) rfl) (v_rng c2.1 c2.2 (n := 9) rfl)
        simp only [Nat.zero_add] at gu
        unfold fX0_appendArm
        rw [if_pos (show nI na < (4 : Int32) from (nI_ltI (b := 4) (by omega) (by omega)).mpr (by omega)), last_c g, cl1_s]
        rw [show (4 : Int32) + nI na = nI (4 + na) from nI_add 4 na, show (8 : Int32) + nI na = nI (8 + na) from nI_add 8 na, show (12 : Int32) + nI na = nI (12 + na) from nI_add 12 na, show (16 : Int32) + nI na = nI (16 + na) from nI_add 16 na]
        simp only [chk_pos (xin_nI (show na < 4 by omega) (show na < 2 ^ 31 by omega)), chk_pos (xin_nI (show na < 240 by omega) (show na < 2 ^ 31 by omega)), chk_pos (xin_nI (show 4 + na < 240 by omega) (show 4 + na < 2 ^ 31 by omega)), chk_pos (xin_nI (show 8 + na < 240 by omega) (show 8 + na < 2 ^ 31 by omega)), chk_pos (xin_nI (show 12 + na < 240 by omega) (show 12 + na < 2 ^ 31 by omega)), chk_pos (xin_nI (show 16 + na < 240 by omega) (show 16 + na < 2 ^ 31 by omega)), bnd_s, cl1_s, cN (show na < 1000000 by omega), cN (show 4 + na < 1000000 by omega), cN (show 8 + na < 1000000 by omega), cN (show 12 + na < 1000000 by omega), cN (show 16 + na < 1000000 by omega), nI_1]
        have hl := lead_r (b := 0) (by decide) (show na ≤ 4 by omega) (upd (upd st na a1) (4 + na) a2)
        have el : leadv 0 (upd (upd st na a1) (4 + na) a2) na = leadv 0 st na := by
          unfold leadv
          split
          · rw [upd_n _ _ (by omega), upd_n _ _ (by omega)]
          · rw [upd_n _ _ (by omega), upd_n _ _ (by omega)]
        rw [nI_0, el] at hl
        rw [hl, cl1_s, upd_n _ _ (show 20 ≠ 16 + na by omega), upd_n _ _ (show 20 ≠ 12 + na by omega), upd_n _ _ (show 20 ≠ 8 + na by omega), upd_n _ _ (show 20 ≠ 4 + na by omega), upd_n _ _ (show 20 ≠ na by omega), h20, nI_1, upd_s]
        rw [cl7_mk rfl, if_neg d10]
        refine ⟨_, _, _, _, _, _, _, _, rfl, rfl, ⟨na + 1, ns, nt, rfl, rfl, rfl, hnt, gu⟩, fun j h1 h2 => ?_⟩
        rw [upd_n _ _ (by omega), upd_n _ _ (by omega), upd_n _ _ (by omega), upd_n _ _ (by omega), upd_n _ _ (by omega), upd_n _ _ (by omega)]
    · simp only [if_neg c2]
      exact ⟨_, _, _, _, _, _, _, _, rfl, rfl, hN0.up, fun _ _ _ => rfl⟩
  · simp only [if_neg c]
    exact ⟨_, _, _, _, _, _, _, _, rfl, rfl, hN0.up, fun _ _ _ => rfl⟩
def sumI (f : Nat → Int32) : Nat → Nat → Int32
  | _, 0 => 0
  | i, k + 1 => f i + sumI f (i + 1) k
theorem sum_c {na : Nat} (hna : na ≤ 4) (w : Int32) (f : Nat → Int32) (hf : ∀ a, a < na → fX0_settingOf (nI a) w kind slack turn = some (f a)) : ∀ (k i n : Nat) (x : Int32), i + k = na → k < n → fX0_sumOf_L4 (nI na) kind slack turn n w x (nI i) = some (x + sumI f i k) := by
  intro k
  induction k with
  | zero =>
    intro i n x hi hn
    obtain ⟨n, rfl⟩ : ∃ z, n = z + 1 := ⟨n - 1, by omega⟩
    have e : i = na := by omega
    subst e
    rw [fX0_sumOf_L4]
    rw [if_pos (Int32.le_refl _)]
    show _ = some (x + 0)
    rw [Int32.add_zero]
  | succ k ih =>
    intro i n x hi hn
    obtain ⟨n, rfl⟩ : ∃ z, n = z + 1 := ⟨n - 1, by omega⟩
    rw [fX0_sumOf_L4]
    rw [if_neg (fun q => by have := (nI_leI (by omega) (by omega)).mp q; omega), hf i (by omega), cl1_s, bnd_s, bnd_s, nI_1, ih (i + 1) n _ (by omega) (by omega), Int32.add_assoc]
    rfl
theorem count_r {na : Nat} (hna : na ≤ 4) (h20 : st 20 = nI na) (taped many : Int32) (isKept lanes lengths : Nat → Int32) (a1 : Int32) : ∀ (k i n : Nat) (x y : Int32), i + k = na → k < n → fX5_count_L7 taped many st isKept lanes lengths n a1 x y (nI i) = fX5_count_L7 taped many st isKept lanes lengths 1 a1 (x + sumI (fun a => st (4 + a)) i k) (y + sumI (fun a => st (12 + a)) i k) (nI na) := by
  have c20 : xin (20 : Int32) 240 := by decide
  intro k
  induction k with
  | zero =>
    intro i n x y hi hn
    obtain ⟨n, rfl⟩ : ∃ z, n = z + 1 := ⟨n - 1, by omega⟩
    have e : i = na := by omega
    subst e
    show _ = fX5_count_L7 taped many st isKept lanes lengths 1 a1 (x + 0) (y + 0) (nI i)
    rw [Int32.add_zero, Int32.add_zero, fX5_count_L7, fX5_count_L7]
    rw [chk_pos c20, cl_20, h20, if_pos (Int32.le_refl _), chk_pos c20, if_pos (Int32.le_refl _)]
  | succ k ih =>
    intro i n x y hi hn
    obtain ⟨n, rfl⟩ : ∃ z, n = z + 1 := ⟨n - 1, by omega⟩
    have e := ih (i + 1) n (x + st (4 + i)) (y + st (12 + i)) (by omega) (by omega)
    rw [Int32.add_assoc, Int32.add_assoc] at e
    rw [fX5_count_L7]
    rw [chk_pos c20, cl_20, h20, if_neg (fun q => by have := (nI_leI (by omega) (by omega)).mp q; omega), show (4 : Int32) + nI i = nI (4 + i) from nI_add 4 i, show (12 : Int32) + nI i = nI (12 + i) from nI_add 12 i]
    simp only [chk_pos (xin_nI (show 4 + i < 240 by omega) (show 4 + i < 2 ^ 31 by omega)), chk_pos (xin_nI (show 12 + i < 240 by omega) (show 12 + i < 2 ^ 31 by omega)), bnd_s, cN (show 4 + i < 1000000 by omega), cN (show 12 + i < 1000000 by omega), nI_1]
    exact e
theorem sumI_c {f f' : Nat → Int32} : ∀ (k i : Nat), (∀ a, a < i + k → f a = f' a) → sumI f i k = sumI f' i k
  | 0, _, _ => rfl
  | k + 1, i, h => by
    show f i + sumI f (i + 1) k = f' i + sumI f' (i + 1) k
    rw [h i (by omega), sumI_c k (i + 1) (fun a ha => h a (by omega))]
theorem op_count (a1 : Int32) (hN : RN i st arms strokes hand step kind slack place turn way stroke) {kept isKept : Nat → Int32} (hK : RK kept isKept) {len flt taped rf : Int32} {bytes tape : Nat → Int32} (hT : RT len flt bytes taped rf tape) {size many : Int32} {sR aR pR seen : Nat → Int32} (hS : RS size sR aR pR many seen) {lane0 size0 : Int32} {cells0 lanes lengths rcells : Nat → Int32} (hH : RH 0 lane0 size0 cells0 lanes lengths rcells) (s1 s2 s3 : Int32) : ∃ qr : Int32, fX4_count a1 kept arms kind slack turn len size size0 s1 s2 s3 = some qr ∧ fX5_count a1 taped many st isKept lanes lengths = some qr := by
  obtain ⟨na, ns, nt, rfl, rfl, rfl, hnt, g⟩ := hN
  obtain ⟨k1, k2⟩ := hK
  obtain ⟨-, n, -, rfl, rfl, -⟩ := hT
  obtain ⟨n2, -, rfl, rfl, -⟩ := hS
  have h20 : st 20 = nI na := by have := g.2.2.1; rw [Nat.zero_add] at this; exact this
  have hna := g.1
  have c20 : xin (20 : Int32) 240 := by decide
  have hr : fX5_count a1 (nI n) (nI n2) st isKept lanes lengths = _ := count_r hna h20 (nI n) (nI n2) isKept lanes lengths a1 na 0 xF 0 0 (by omega) (by show na < 1000; omega)
  rw [Int32.zero_add, Int32.zero_add, fX5_count_L7, chk_pos c20, cl_20, h20, if_pos (Int32.le_refl _)] at hr
  rw [hr]
  have hs1 : fX0_sumOf 1 (nI na) kind slack turn = _ := sum_c hna 1 slack (fun a ha => by unfold fX0_settingOf; rw [if_neg (by decide), if_pos rfl, chk_pos (xin_nI (by omega) (by omega)), cN (by omega)]) na 0 xF 0 (by omega) (by show na < 1000; omega)
  have hs2 : fX0_sumOf 2 (nI na) kind slack turn = _ := sum_c hna 2 turn (fun a ha => by unfold fX0_settingOf; rw [if_neg (by decide), if_neg (by decide), chk_pos (xin_nI (by omega) (by omega)), cN (by omega)]) na 0 xF 0 (by omega) (by show na < 1000; omega)
  rw [Int32.zero_add] at hs1 hs2
  have e1 : sumI slack 0 na = sumI (fun a => st (4 + a)) 0 na := sumI_c na 0 (fun a ha => by have := (g.2.2.2.2.2.2.2.2.1 a (by omega)).2.1; simp only [Nat.zero_add] at this; exact this)
  have e2 : sumI turn 0 na = sumI (fun a => st (12 + a)) 0 na := sumI_c na 0 (fun a ha => by have := (g.2.2.2.2.2.2.2.2.1 a (by omega)).2.2.2.1; simp only [Nat.zero_add] at this; exact this)
  unfold fX4_count
  rw [hs1, hs2, e1, e2]
  by_cases d0 : a1 = 0
  · simp only [if_pos d0]; exact ⟨_, rfl, rfl⟩
  by_cases d1 : a1 = 1
  · simp only [if_neg d0, if_pos d1]
    unfold fX4_count_L62 fX5_count_L107
    have z0 : (0 : Int32).toNatClampNeg = 0 := by decide
    have z1 : (1 : Int32).toNatClampNeg = 1 := by decide
    have x0 : xin (0 : Int32) 2 := by decide
    have x1 : xin (1 : Int32) 2 := by decide
    simp only [chk_pos x0, chk_pos x1, z0, z1, k1, k2]
    split
    · split
      · exact ⟨_, rfl, rfl⟩
      · exact ⟨_, rfl, rfl⟩
    · split
      · exact ⟨_, rfl, rfl⟩
      · exact ⟨_, rfl, rfl⟩
  by_cases d2 : a1 = 2
  · simp only [if_neg d0, if_neg d1, if_pos d2]; exact ⟨_, rfl, rfl⟩
  by_cases d3 : a1 = 3
  · simp only [if_neg d0, if_neg d1, if_neg d2, if_pos d3]
    have z0 : (0 : Int32).toNatClampNeg = 0 := by decide
    have x0 : xin (0 : Int32) 4 := by decide
    simp only [chk_pos x0, z0]
    rw [if_pos trivial, if_pos trivial]
    rcases hH with ⟨q1, q2⟩ | ⟨m, hm, q1, q2, q3, q4, -⟩
    · rw [if_pos q1, if_pos q2]
      exact ⟨_, rfl, rfl⟩
    · rw [if_neg (show ¬ size0 = -1 by rw [q1]; exact nI_m1 (by omega)), if_neg (show ¬ lanes 0 = -4 by rw [← q3]; exact lane_n4 q4), q1, q2]
      exact ⟨_, rfl, rfl⟩
  by_cases d4 : a1 = 4
  · simp only [if_neg d0, if_neg d1, if_neg d2, if_neg d3, if_pos d4]; exact ⟨_, rfl, rfl⟩
  by_cases d5 : a1 = 5
  · simp only [if_neg d0, if_neg d1, if_neg d2, if_neg d3, if_neg d4, if_pos d5]; exact ⟨_, rfl, rfl⟩
  · simp only [if_neg d0, if_neg d1, if_neg d2, if_neg d3, if_neg d4, if_neg d5]; exact ⟨_, rfl, rfl⟩
end OPa
