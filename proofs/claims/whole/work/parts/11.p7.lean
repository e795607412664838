-- ops that change the gear
theorem puts_r {k : Nat} (hk : k < 240) (v less : Int32) (st : Nat → Int32) : fX5_puts 1 (nI k) v less st = some (st k + less, upd st k (v - less)) := by
  unfold fX5_puts
  rw [if_neg (by decide), chk_pos (xin_nI hk (by omega)), bnd_s, bnd_s, chk_pos (xin_nI hk (by omega)), bnd_s, cN (by omega)]
theorem puts_0 (a v less : Int32) (st : Nat → Int32) : fX5_puts 0 a v less st = some (-1, st) := if_pos rfl
theorem sub_z (v : Int32) : v - 0 = v := by rw [Int32.sub_eq_add_neg]; exact Int32.add_zero v
section GRs
variable {B : Int} {b na ns nt : Nat} {st : Nat → Int32} {hand : Int32} {kind slack place turn way stroke : Nat → Int32}
theorem GR.setK (g : GR B b na ns nt st hand kind slack place turn way stroke) {a : Nat} (ha : a < na) {v : Int32} (h1 : 0 ≤ v.toInt) (h2 : v.toInt ≤ 3) : GR B b na ns nt (upd st (b + a) v) hand (upd kind a v) slack place turn way stroke := by
  obtain ⟨g1, g2, g3, g4, g5, g6, g7, g8, g9, g10⟩ := g
  refine ⟨g1, g2, by rw [upd_n _ _ (by omega)]; exact g3, by rw [upd_n _ _ (by omega)]; exact g4, by rw [upd_n _ _ (by omega)]; exact g5, by rw [upd_n _ _ (by omega)]; exact g6, by rw [upd_n _ _ (by omega)]; exact g7, fun j hj => ?_, fun j hj => ?_, fun j hj => by rw [upd_n _ _ (by omega)]; exact g10 j hj⟩
  · unfold PgA
    obtain ⟨p1, p2, p3, p4⟩ := g8 j hj
    rw [upd_n _ _ (show b + 4 + j ≠ b + a by omega), upd_n _ _ (show b + 8 + j ≠ b + a by omega), upd_n _ _ (show b + 12 + j ≠ b + a by omega)]
    by_cases e : j = a
    · subst e; rw [upd_s]; exact ⟨⟨h1, h2⟩, p2, p3, p4⟩
    · rw [upd_n _ _ (show b + j ≠ b + a by omega)]; exact ⟨p1, p2, p3, p4⟩
  · obtain ⟨p1, p2, p3, p4, p5⟩ := g9 j hj
    rw [upd_n _ _ (show b + 4 + j ≠ b + a by omega), upd_n _ _ (show b + 8 + j ≠ b + a by omega), upd_n _ _ (show b + 12 + j ≠ b + a by omega), upd_n _ _ (show b + 16 + j ≠ b + a by omega)]
    by_cases e : j = a
    · subst e; rw [upd_s, upd_s]; exact ⟨rfl, p2, p3, p4, p5⟩
    · rw [upd_n _ _ (show b + j ≠ b + a by omega), upd_n _ _ e]; exact ⟨p1, p2, p3, p4, p5⟩
theorem GR.setS (g : GR B b na ns nt st hand kind slack place turn way stroke) {a : Nat} (ha : a < na) {v : Int32} (h1 : 0 ≤ v.toInt) (h2 : v.toInt ≤ 9) : GR B b na ns nt (upd st (b + 4 + a) v) hand kind (upd slack a v) place turn way stroke := by
  obtain ⟨g1, g2, g3, g4, g5, g6, g7, g8, g9, g10⟩ := g
  refine ⟨g1, g2, by rw [upd_n _ _ (by omega)]; exact g3, by rw [upd_n _ _ (by omega)]; exact g4, by rw [upd_n _ _ (by omega)]; exact g5, by rw [upd_n _ _ (by omega)]; exact g6, by rw [upd_n _ _ (by omega)]; exact g7, fun j hj => ?_, fun j hj => ?_, fun j hj => by rw [upd_n _ _ (by omega)]; exact g10 j hj⟩
  · unfold PgA
    obtain ⟨p1, p2, p3, p4⟩ := g8 j hj
    rw [upd_n _ _ (show b + j ≠ b + 4 + a by omega), upd_n _ _ (show b + 8 + j ≠ b + 4 + a by omega), upd_n _ _ (show b + 12 + j ≠ b + 4 + a by omega)]
    by_cases e : j = a
    · subst e; rw [upd_s]; exact ⟨p1, ⟨h1, h2⟩, p3, p4⟩
    · rw [upd_n _ _ (show b + 4 + j ≠ b + 4 + a by omega)]; exact ⟨p1, p2, p3, p4⟩
  · obtain ⟨p1, p2, p3, p4, p5⟩ := g9 j hj
    rw [upd_n _ _ (show b + j ≠ b + 4 + a by omega), upd_n _ _ (show b + 8 + j ≠ b + 4 + a by omega), upd_n _ _ (show b + 12 + j ≠ b + 4 + a by omega), upd_n _ _ (show b + 16 + j ≠ b + 4 + a by omega)]
    by_cases e : j = a
    · subst e; rw [upd_s, upd_s]; exact ⟨p1, rfl, p3, p4, p5⟩
    · rw [upd_n _ _ (show b + 4 + j ≠ b + 4 + a by omega), upd_n _ _ e]; exact ⟨p1, p2, p3, p4, p5⟩
theorem GR.setT (g : GR B b na ns nt st hand kind slack place turn way stroke) {a : Nat} (ha : a < na) {v : Int32} (h1 : 0 ≤ v.toInt) (h2 : v.toInt ≤ 9) : GR B b na ns nt (upd st (b + 12 + a) v) hand kind slack place (upd turn a v) way stroke := by
  obtain ⟨g1, g2, g3, g4, g5, g6, g7, g8, g9, g10⟩ := g
  refine ⟨g1, g2, by rw [upd_n _ _ (by omega)]; exact g3, by rw [upd_n _ _ (by omega)]; exact g4, by rw [upd_n _ _ (by omega)]; exact g5, by rw [upd_n _ _ (by omega)]; exact g6, by rw [upd_n _ _ (by omega)]; exact g7, fun j hj => ?_, fun j hj => ?_, fun j hj => by rw [upd_n _ _ (by omega)]; exact g10 j hj⟩
  · unfold PgA
    obtain ⟨p1, p2, p3, p4⟩ := g8 j hj
    rw [upd_n _ _ (show b + j ≠ b + 12 + a by omega), upd_n _ _ (show b + 8 + j ≠ b + 12 + a by omega), upd_n _ _ (show b + 4 + j ≠ b + 12 + a by omega)]
    by_cases e : j = a
    · subst e; rw [upd_s]; exact ⟨p1, p2, p3, ⟨h1, h2⟩⟩
    · rw [upd_n _ _ (show b + 12 + j ≠ b + 12 + a by omega)]; exact ⟨p1, p2, p3, p4⟩
  · obtain ⟨p1, p2, p3, p4, p5⟩ := g9 j hj
    rw [upd_n _ _ (show b + j ≠ b + 12 + a by omega), upd_n _ _ (show b + 8 + j ≠ b + 12 + a by omega), upd_n _ _ (show b + 4 + j ≠ b + 12 + a by omega), upd_n _ _ (show b + 16 + j ≠ b + 12 + a by omega)]
    by_cases e : j = a
    · subst e; rw [upd_s, upd_s]; exact ⟨p1, p2, p3, rfl, p5⟩
    · rw [upd_n _ _ (show b + 12 + j ≠ b + 12 + a by omega), upd_n _ _ e]; exact ⟨p1, p2, p3, p4, p5⟩
theorem GR.cut (g : GR B b na ns nt st hand kind slack place turn way stroke) {n : Nat} (hn : n ≤ na) : GR B b n ns nt (upd st (b + 20) (nI n)) hand kind slack place turn way stroke := by
  obtain ⟨g1, g2, g3, g4, g5, g6, g7, g8, g9, g10⟩ := g
  refine ⟨by omega, g2, upd_s _ _ _, by rw [upd_n _ _ (by omega)]; exact g4, by rw [upd_n _ _ (by omega)]; exact g5, by rw [upd_n _ _ (by omega)]; exact g6, by rw [upd_n _ _ (by omega)]; exact g7, fun j hj => (g8 j (by omega)).cong (upd_n _ _ (by omega)) (upd_n _ _ (by omega)) (upd_n _ _ (by omega)) (upd_n _ _ (by omega)), fun j hj => ?_, fun j hj => by rw [upd_n _ _ (by omega)]; exact g10 j hj⟩
  rw [upd_n _ _ (by omega), upd_n _ _ (by omega), upd_n _ _ (by omega), upd_n _ _ (by omega), upd_n _ _ (by omega)]
  exact g9 j (by omega)
theorem GR.drop (g : GR B b na ns nt st hand kind slack place turn way stroke) {n : Nat} (hn : n ≤ ns) : GR B b na n nt (upd st (b + 37) (nI n)) hand kind slack place turn way stroke := by
  obtain ⟨g1, g2, g3, g4, g5, g6, g7, g8, g9, g10⟩ := g
  refine ⟨g1, by omega, by rw [upd_n _ _ (by omega)]; exact g3, upd_s _ _ _, by rw [upd_n _ _ (by omega)]; exact g5, by rw [upd_n _ _ (by omega)]; exact g6, by rw [upd_n _ _ (by omega)]; exact g7, fun j hj => (g8 j (by omega)).cong (upd_n _ _ (by omega)) (upd_n _ _ (by omega)) (upd_n _ _ (by omega)) (upd_n _ _ (by omega)), fun j hj => ?_, fun j hj => by rw [upd_n _ _ (by omega)]; exact g10 j (by omega)⟩
  rw [upd_n _ _ (by omega), upd_n _ _ (by omega), upd_n _ _ (by omega), upd_n _ _ (by omega), upd_n _ _ (by omega)]
  exact g9 j (by omega)
theorem GR.setW (g : GR B b na ns nt st hand kind slack place turn way stroke) {i : Nat} (hi : i < 16) {v : Int32} (h1 : -9 ≤ v.toInt) (h2 : v.toInt ≤ 9) : GR B b na ns nt (upd st (b + 21 + i) v) hand kind slack place turn way (upd stroke i v) := by
  obtain ⟨g1, g2, g3, g4, g5, g6, g7, g8, g9, g10⟩ := g
  refine ⟨g1, g2, by rw [upd_n _ _ (by omega)]; exact g3, by rw [upd_n _ _ (by omega)]; exact g4, by rw [upd_n _ _ (by omega)]; exact g5, by rw [upd_n _ _ (by omega)]; exact g6, by rw [upd_n _ _ (by omega)]; exact g7, fun j hj => (g8 j (by omega)).cong (upd_n _ _ (by omega)) (upd_n _ _ (by omega)) (upd_n _ _ (by omega)) (upd_n _ _ (by omega)), fun j hj => ?_, fun j hj => ?_⟩
  · rw [upd_n _ _ (by omega), upd_n _ _ (by omega), upd_n _ _ (by omega), upd_n _ _ (by omega), upd_n _ _ (by omega)]
    exact g9 j (by omega)
  · by_cases e : j = i
    · subst e; rw [upd_s, upd_s]; exact ⟨rfl, h1, h2⟩
    · rw [upd_n _ _ (show b + 21 + j ≠ b + 21 + i by omega), upd_n _ _ e]; exact g10 j hj
theorem GR.add (g : GR B b na ns nt st hand kind slack place turn way stroke) (hs : ns < 16) {v : Int32} (h1 : -9 ≤ v.toInt) (h2 : v.toInt ≤ 9) : GR B b na (ns + 1) nt (upd (upd st (b + 21 + ns) v) (b + 37) (nI (ns + 1))) hand kind slack place turn way (upd stroke ns v) := by
  have g0 := g.setW hs h1 h2
  obtain ⟨g1, g2, g3, g4, g5, g6, g7, g8, g9, g10⟩ := g0
  refine ⟨g1, by omega, by rw [upd_n _ _ (by omega)]; exact g3, upd_s _ _ _, by rw [upd_n _ _ (by omega)]; exact g5, by rw [upd_n _ _ (by omega)]; exact g6, by rw [upd_n _ _ (by omega)]; exact g7, fun j hj => (g8 j (by omega)).cong (upd_n _ _ (by omega)) (upd_n _ _ (by omega)) (upd_n _ _ (by omega)) (upd_n _ _ (by omega)), fun j hj => ?_, fun j hj => ?_⟩
  · rw [upd_n _ _ (show b + j ≠ b + 37 by omega), upd_n _ _ (show b + 4 + j ≠ b + 37 by omega), upd_n _ _ (show b + 8 + j ≠ b + 37 by omega), upd_n _ _ (show b + 12 + j ≠ b + 37 by omega), upd_n _ _ (show b + 16 + j ≠ b + 37 by omega)]
    exact g9 j (by omega)
  · rw [upd_n _ _ (show b + 21 + j ≠ b + 37 by omega)]
    by_cases e : j = ns
    · subst e; rw [upd_s, upd_s]; exact ⟨rfl, h1, h2⟩
    · exact g10 j (by omega)
theorem GR.hang (g : GR B b na ns nt st hand kind slack place turn way stroke) (hB : 0 ≤ B) (ha : na < 4) {k s : Int32} (hk : 0 ≤ k.toInt ∧ k.toInt ≤ 3) (hs : 0 ≤ s.toInt ∧ s.toInt ≤ 9) : GR B b (na + 1) ns nt (upd (upd (upd (upd (upd (upd st (b + na) k) (b + 4 + na) s) (b + 8 + na) (leadv b st na)) (b + 12 + na) 0) (b + 16 + na) 0) (b + 20) (nI (na + 1))) hand (upd kind na k) (upd slack na s) (upd place na (leadv b st na)) (upd turn na 0) (upd way na 0) stroke := by
  have hl := lead_rng g.2.2.2.2.2.2.1 g.2.2.2.2.2.2.2.1 (Nat.le_refl na)
  obtain ⟨g1, g2, g3, g4, g5, g6, g7, g8, g9, g10⟩ := g
  have far : ∀ j, j ≠ b + na → j ≠ b + 4 + na → j ≠ b + 8 + na → j ≠ b + 12 + na → j ≠ b + 16 + na → j ≠ b + 20 → (upd (upd (upd (upd (upd (upd st (b + na) k) (b + 4 + na) s) (b + 8 + na) (leadv b st na)) (b + 12 + na) 0) (b + 16 + na) 0) (b + 20) (nI (na + 1))) j = st j := fun j e1 e2 e3 e4 e5 e6 => by
    rw [upd_n _ _ e6, upd_n _ _ e5, upd_n _ _ e4, upd_n _ _ e3, upd_n _ _ e2, upd_n _ _ e1]
  have n0 : (upd (upd (upd (upd (upd (upd st (b + na) k) (b + 4 + na) s) (b + 8 + na) (leadv b st na)) (b + 12 + na) 0) (b + 16 + na) 0) (b + 20) (nI (na + 1))) (b + na) = k := by
    rw [upd_n _ _ (by omega), upd_n _ _ (by omega), upd_n _ _ (by omega), upd_n _ _ (by omega), upd_n _ _ (by omega), upd_s]
  have n4 : (upd (upd (upd (upd (upd (upd st (b + na) k) (b + 4 + na) s) (b + 8 + na) (leadv b st na)) (b + 12 + na) 0) (b + 16 + na) 0) (b + 20) (nI (na + 1))) (b + 4 + na) = s := by
    rw [upd_n _ _ (by omega), upd_n _ _ (by omega), upd_n _ _ (by omega), upd_n _ _ (by omega), upd_s]
  have n8 : (upd (upd (upd (upd (upd (upd st (b + na) k) (b + 4 + na) s) (b + 8 + na) (leadv b st na)) (b + 12 + na) 0) (b + 16 + na) 0) (b + 20) (nI (na + 1))) (b + 8 + na) = leadv b st na := by
    rw [upd_n _ _ (by omega), upd_n _ _ (by omega), upd_n _ _ (by omega), upd_s]
  have n12 : (upd (upd (upd (upd (upd (upd st (b + na) k) (b + 4 + na) s) (b + 8 + na) (leadv b st na)) (b + 12 + na) 0) (b + 16 + na) 0) (b + 20) (nI (na + 1))) (b + 12 + na) = 0 := by
    rw [upd_n _ _ (by omega), upd_n _ _ (by omega), upd_s]
  have n16 : (upd (upd (upd (upd (upd (upd st (b + na) k) (b + 4 + na) s) (b + 8 + na) (leadv b st na)) (b + 12 + na) 0) (b + 16 + na) 0) (b + 20) (nI (na + 1))) (b + 16 + na) = 0 := by
    rw [upd_n _ _ (by omega), upd_s]
  have n20 : (upd (upd (upd (upd (upd (upd st (b + na) k) (b + 4 + na) s) (b + 8 + na) (leadv b st na)) (b + 12 + na) 0) (b + 16 + na) 0) (b + 20) (nI (na + 1))) (b + 20) = nI (na + 1) := upd_s _ _ _
  generalize (upd (upd (upd (upd (upd (upd st (b + na) k) (b + 4 + na) s) (b + 8 + na) (leadv b st na)) (b + 12 + na) 0) (b + 16 + na) 0) (b + 20) (nI (na + 1))) = st' at *
  have e0 : (0 : Int32).toInt = 0 := rfl
  refine ⟨by omega, g2, n20, by rw [far _ (by omega) (by omega) (by omega) (by omega) (by omega) (by omega)]; exact g4, by rw [far _ (by omega) (by omega) (by omega) (by omega) (by omega) (by omega)]; exact g5, by rw [far _ (by omega) (by omega) (by omega) (by omega) (by omega) (by omega)]; exact g6, by rw [far _ (by omega) (by omega) (by omega) (by omega) (by omega) (by omega)]; exact g7, fun j hj => ?_, fun j hj => ?_, fun j hj => by rw [far _ (by omega) (by omega) (by omega) (by omega) (by omega) (by omega)]; exact g10 j hj⟩
  · by_cases e : j = na
    · subst e
      unfold PgA
      rw [n0, n4, n8, n12]
      exact ⟨hk, hs, hl, by omega, by omega⟩
    · exact (g8 j (by omega)).cong (far _ (by omega) (by omega) (by omega) (by omega) (by omega) (by omega)) (far _ (by omega) (by omega) (by omega) (by omega) (by omega) (by omega)) (far _ (by omega) (by omega) (by omega) (by omega) (by omega) (by omega)) (far _ (by omega) (by omega) (by omega) (by omega) (by omega) (by omega))
  · by_cases e : j = na
    · subst e
      rw [n0, n4, n8, n12, n16, upd_s, upd_s, upd_s, upd_s, upd_s]
      exact ⟨rfl, rfl, rfl, rfl, rfl⟩
    · rw [far (b + j) (by omega) (by omega) (by omega) (by omega) (by omega) (by omega), far (b + 4 + j) (by omega) (by omega) (by omega) (by omega) (by omega) (by omega), far (b + 8 + j) (by omega) (by omega) (by omega) (by omega) (by omega) (by omega), far (b + 12 + j) (by omega) (by omega) (by omega) (by omega) (by omega) (by omega), far (b + 16 + j) (by omega) (by omega) (by omega) (by omega) (by omega) (by omega), upd_n _ _ e, upd_n _ _ e, upd_n _ _ e, upd_n _ _ e, upd_n _ _ e]
      exact g9 j (by omega)
end GRs
theorem v_rng {v hi : Int32} {n : Int} (h1 : 0 ≤ v) (h2 : v ≤ hi) (hn : hi.toInt = n) : 0 ≤ v.toInt ∧ v.toInt ≤ n := ⟨by have := i_le.mp h1; exact this, by have := i_le.mp h2; omega⟩
theorem v9 {v : Int32} (h : 0 ≤ v ∧ v ≤ 18) : -9 ≤ (v - 9).toInt ∧ (v - 9).toInt ≤ 9 := by
  have h1 := v_rng h.1 h.2 (n := 18) rfl
  have e9 : (9 : Int32).toInt = 9 := rfl
  rw [i_sub (by omega) (by omega)]
  omega
section OPs
variable {i : Nat} {st : Nat → Int32} {arms strokes hand step : Int32} {kind slack place turn way stroke : Nat → Int32}
theorem op_cut (a1 : Int32) (hN : RN i st arms strokes hand step kind slack place turn way stroke) : ∃ (qr arms' : Int32) (st' : Nat → Int32), fX4_cut a1 arms = some (qr, arms') ∧ fX5_cut a1 st = some (qr, st') ∧ RN (i + 1) st' arms' strokes hand step kind slack place turn way stroke ∧ FrI st st' := by
  have hN0 := hN
  obtain ⟨na, ns, nt, rfl, rfl, rfl, hnt, g⟩ := hN
  have h20 : st 20 = nI na := by have := g.2.2.1; rw [Nat.zero_add] at this; exact this
  unfold fX4_cut fX5_cut
  rw [w_eq, gate, chk_pos (by decide), cl_20, h20, in_eq a1 0 (nI na) 0 _ rfl rfl, cl1_s]
  by_cases c : 0 ≤ a1 ∧ a1 ≤ nI na
  · simp only [if_pos c]
    obtain ⟨k, hk, rfl⟩ := of_rng c.1 c.2 (nI_toInt (by have := g.1; omega))
    have hp : fX5_puts 1 (20 : Int32) (nI k) 0 st = _ := puts_r (k := 20) (by decide) (nI k) 0 st
    rw [cl2_mk hp, Int32.add_zero, sub_z, h20]
    refine ⟨_, _, _, rfl, rfl, ⟨k, ns, nt, rfl, rfl, rfl, hnt, ?_⟩, fun j h1 h2 => upd_n _ _ (by omega)⟩
    have := (g.up (show 900 * (i : Int) ≤ 900 * ((i + 1 : Nat) : Int) by omega)).cut hk
    rw [Nat.zero_add] at this
    exact this
  · simp only [if_neg c]
    rw [cl2_mk (puts_0 _ _ _ _)]
    exact ⟨_, _, _, rfl, rfl, hN0.up, fun _ _ _ => rfl⟩
theorem op_drop (a1 : Int32) (hN : RN i st arms strokes hand step kind slack place turn way stroke) : ∃ (qr strokes' : Int32) (st' : Nat → Int32), fX4_drop a1 strokes = some (qr, strokes') ∧ fX5_drop a1 st = some (qr, st') ∧ RN (i + 1) st' arms strokes' hand step kind slack place turn way stroke ∧ FrI st st' := by
  have hN0 := hN
  obtain ⟨na, ns, nt, rfl, rfl, rfl, hnt, g⟩ := hN
  have h37 : st 37 = nI ns := by have := g.2.2.2.1; rw [Nat.zero_add] at this; exact this
  unfold fX4_drop fX5_drop
  rw [w_eq, gate, chk_pos (by decide), cl_37, h37, in_eq a1 0 (nI ns) 0 _ rfl rfl, cl1_s]
  by_cases c : 0 ≤ a1 ∧ a1 ≤ nI ns
  · simp only [if_pos c]
    obtain ⟨k, hk, rfl⟩ := of_rng c.1 c.2 (nI_toInt (by have := g.2.1; omega))
    have hp : fX5_puts 1 (37 : Int32) (nI k) 0 st = _ := puts_r (k := 37) (by decide) (nI k) 0 st
    rw [cl2_mk hp, Int32.add_zero, sub_z, h37]
    refine ⟨_, _, _, rfl, rfl, ⟨na, k, nt, rfl, rfl, rfl, hnt, ?_⟩, fun j h1 h2 => upd_n _ _ (by omega)⟩
    have := (g.up (show 900 * (i : Int) ≤ 900 * ((i + 1 : Nat) : Int) by omega)).drop hk
    rw [Nat.zero_add] at this
    exact this
  · simp only [if_neg c]
    rw [cl2_mk (puts_0 _ _ _ _)]
    exact ⟨_, _, _, rfl, rfl, hN0.up, fun _ _ _ => rfl⟩
theorem op_set (a1 a2 : Int32) (hN : RN i st arms strokes hand step kind slack place turn way stroke) : ∃ (qr : Int32) (stroke' st' : Nat → Int32), fX4_set a1 a2 strokes stroke = some (qr, stroke') ∧ fX5_set a1 a2 st = some (qr, st') ∧ RN (i + 1) st' arms strokes hand step kind slack place turn way stroke' ∧ FrI st st' := by
  have hN0 := hN
  obtain ⟨na, ns, nt, rfl, rfl, rfl, hnt, g⟩ := hN
  have h37 : st 37 = nI ns := by have := g.2.2.2.1; rw [Nat.zero_add] at this; exact this
  unfold fX4_set fX5_set fX5_set_L25 fX5_set_L26
  rw [is_eq, gate, ss_eq, gate, ms_eq, h37, gate, in_eq a2 0 18 0 18 rfl rfl, gate, cl2_mk (puts_0 _ _ _ _)]
  by_cases c : 0 ≤ a1 ∧ a1 ≤ nI ns - 1
  · simp only [if_pos c]
    by_cases c2 : 0 ≤ a2 ∧ a2 ≤ 18
    · simp only [if_pos c2]
      obtain ⟨k, hk, rfl⟩ := of_idx (by have := g.2.1; omega) c.1 c.2
      have hns := g.2.1
      have hv := v9 c2
      have hg := (g.2.2.2.2.2.2.2.2.2 k hk).1
      rw [show (21 : Int32) + nI k = nI (21 + k) from nI_add 21 k, cl2_mk (puts_r (by omega) a2 9 st)]
      simp only [chk_pos (xin_nI (show k < 16 by omega) (show k < 2 ^ 31 by omega)), bnd_s, cN (show k < 1000000 by omega)]
      rw [hg, Nat.zero_add]
      refine ⟨_, _, _, rfl, rfl, ⟨na, ns, nt, rfl, rfl, rfl, hnt, ?_⟩, fun j h1 h2 => upd_n _ _ (by omega)⟩
      have := (g.up (show 900 * (i : Int) ≤ 900 * ((i + 1 : Nat) : Int) by omega)).setW (i := k) (by omega) hv.1 hv.2
      rw [Nat.zero_add] at this
      exact this
    · simp only [if_neg c2]
      exact ⟨_, _, _, rfl, rfl, hN0.up, fun _ _ _ => rfl⟩
  · simp only [if_neg c]
    exact ⟨_, _, _, rfl, rfl, hN0.up, fun _ _ _ => rfl⟩
/-- a stroke more, on both sides (also for read) -/
theorem add_c {ns : Nat} (hs : ns < 16) (v : Int32) (stroke : Nat → Int32) : fX0_appendStroke v (nI ns) stroke = some (1, nI (ns + 1), upd stroke ns v) := by
  unfold fX0_appendStroke
  rw [if_pos (show nI ns < (16 : Int32) from (nI_ltI (b := 16) (by omega) (by omega)).mpr hs), chk_pos (xin_nI hs (by omega)), bnd_s, bnd_s, nI_1, cN (by omega)]
theorem adds_r {ns : Nat} (hs : ns < 16) {v : Int32} (hv : 0 ≤ v ∧ v ≤ 18) {st : Nat → Int32} (h37 : st 37 = nI ns) : fX5_adds v st = some (nI (ns + 1), upd (upd st (21 + ns) (v - 9)) 37 (nI (ns + 1))) := by
  unfold fX5_adds
  have c37 : xin (37 : Int32) 240 := by decide
  rw [in_eq v 0 18 0 18 rfl rfl, gate, if_pos hv]
  simp only [chk_pos c37, cl_37, h37, bnd_s]
  rw [if_neg (show ¬ nI ns = (16 : Int32) from fun q => by have := (nI_eq (b := 16) (by omega) (by omega)).mp q; omega), show (21 : Int32) + nI ns = nI (21 + ns) from nI_add 21 ns, chk_pos (xin_nI (by omega) (by omega)), cN (by omega)]
  rw [upd_n _ _ (show 37 ≠ 21 + ns by omega), h37, nI_1, upd_s]
theorem op_add (a1 : Int32) (hN : RN i st arms strokes hand step kind slack place turn way stroke) : ∃ (qr strokes' : Int32) (stroke' st' : Nat → Int32), fX4_add a1 strokes stroke = some (qr, strokes', stroke') ∧ fX5_add a1 st = some (qr, st') ∧ RN (i + 1) st' arms strokes' hand step kind slack place turn way stroke' ∧ FrI st st' := by
  have hN0 := hN
  obtain ⟨na, ns, nt, rfl, rfl, rfl, hnt, g⟩ := hN
  have h37 : st 37 = nI ns := by have := g.2.2.2.1; rw [Nat.zero_add] at this; exact this
  have hns := g.2.1
  unfold fX4_add fX5_add
  rw [ss_eq, gate]
  by_cases c : 0 ≤ a1 ∧ a1 ≤ 18
  · simp only [if_pos c]
    by_cases hf : ns = 16
    · subst hf
      refine ⟨-3, nI 16, stroke, st, ?_, ?_, hN0.up, fun _ _ _ => rfl⟩
      · unfold fX0_appendStroke
        rw [if_neg (by decide)]
        rfl
      · unfold fX5_adds
        rw [in_eq a1 0 18 0 18 rfl rfl, gate, if_pos c, chk_pos (by decide), cl_37, if_pos (show st 37 = (16 : Int32) from h37)]
        rfl
    · have hv := v9 c
      rw [cl3_mk (add_c (by omega) _ _), cl2_mk (adds_r (by omega) c h37)]
      refine ⟨_, _, _, _, if_neg (by decide), rfl, ⟨na, ns + 1, nt, rfl, rfl, rfl, hnt, ?_⟩, fun j h1 h2 => by rw [upd_n _ _ (by omega), upd_n _ _ (by omega)]⟩
      have := (g.up (show 900 * (i : Int) ≤ 900 * ((i + 1 : Nat) : Int) by omega)).add (by omega) hv.1 hv.2
      simp only [Nat.zero_add] at this
      exact this
  · simp only [if_neg c]
    refine ⟨_, _, _, _, rfl, ?_, hN0.up, fun _ _ _ => rfl⟩
    unfold fX5_adds
    rw [in_eq a1 0 18 0 18 rfl rfl, gate, if_neg c]
    rfl
theorem op_pull (a1 tr rv m t : Int32) (hi : i < 512) (hN : RN i st arms strokes hand step kind slack place turn way stroke) : ∃ (qr hand' tr' rv' : Int32) (place' turn' way' : Nat → Int32) (m' t' : Int32) (st' : Nat → Int32), fX4_pull a1 arms hand tr rv kind slack place turn way = some (qr, hand', tr', rv', place', turn', way') ∧ fX5_pull a1 m t st = some (qr, m', t', st') ∧ RN (i + 1) st' arms strokes hand' step kind slack place' turn' way' stroke ∧ FrI st st' := by
  have hN0 := hN
  obtain ⟨na, ns, nt, rfl, rfl, rfl, hnt, g⟩ := hN
  unfold fX4_pull fX5_pull
  rw [ss_eq, gate, in_eq a1 0 18 0 18 rfl rfl, gate]
  by_cases c : 0 ≤ a1 ∧ a1 ≤ 18
  · simp only [if_pos c]
    have hv := v9 c
    obtain ⟨dm, dt, st', place', turn', way', i1, i2, i3, i4⟩ := hand_sim (by omega) (by omega) (by decide) g hv.1 hv.2
    obtain ⟨e1, e2, -⟩ := err_sim (by omega) (by omega) (by decide) i3
    have i1' := i1 m t
    rw [nI_0] at i1' e1
    rw [cl6_mk (i2 tr rv), cl3_mk i1', e1, e2]
    refine ⟨_, _, _, _, _, _, _, _, _, _, rfl, rfl, ⟨na, ns, nt, rfl, rfl, rfl, hnt, i3.up (by omega)⟩, fun j h1 h2 => i4 j (by omega)⟩
  · simp only [if_neg c]
    exact ⟨_, _, _, _, _, _, _, _, _, _, rfl, rfl, hN0.up, fun _ _ _ => rfl⟩
theorem op_steps (a1 tr rv m t : Int32) (hi : i < 512) (hN : RN i st arms strokes hand step kind slack place turn way stroke) : ∃ (qr hand' step' tr' rv' : Int32) (place' turn' way' : Nat → Int32) (m' t' : Int32) (st' : Nat → Int32), fX4_steps a1 arms strokes hand step tr rv kind slack place turn way stroke = some (qr, hand', step', tr', rv', place', turn', way') ∧ fX5_steps a1 m t st = some (qr, m', t', st') ∧ RN (i + 1) st' arms strokes hand' step' kind slack place' turn' way' stroke ∧ FrI st st' := by
  have hN0 := hN
  obtain ⟨na, ns, nt, rfl, rfl, rfl, hnt, g⟩ := hN
  have h39 : st 39 = nI nt := by have := g.2.2.2.2.1; rw [Nat.zero_add] at this; exact this
  unfold fX4_steps fX5_steps
  rw [w_eq, gate, in_eq a1 0 100 0 100 rfl rfl, gate, chk_pos (by decide), cl_39, h39]
  by_cases c : 0 ≤ a1 ∧ a1 ≤ 100
  · simp only [if_pos c]
    obtain ⟨k, hk, rfl⟩ := of_rng c.1 c.2 (n := 100) rfl
    rw [nI_add]
    by_cases hf : nt + k ≤ 9999
    · rw [if_pos (show nI (nt + k) < (10000 : Int32) from (nI_ltI (b := 10000) (by omega) (by omega)).mpr (by omega)), if_pos (show nI (nt + k) ≤ (9999 : Int32) from (nI_leI (b := 9999) (by omega) (by omega)).mpr hf)]
      obtain ⟨f1, p1, t1, w1, s1, -, s3⟩ := steps_sim (b := 0) (by decide) k (900 * (i : Int)) nt st hand place turn way (by omega) (by omega) (by omega) g
      have s1' := s1 0 k xF 0 0 (by omega) (by omega) (by show k < 1000; omega)
      have r1 := steps5_r k (900 * (i : Int)) nt st hand kind slack place turn way stroke (by omega) (by omega) (by omega) g 0 k xF 0 t (by omega) (by omega) (by show k < 1000; omega)
      rw [nI_0] at s1' r1
      unfold fX0_clearTallies fX0_takeSteps
      show ∃ (qr hand' step' tr' rv' : Int32) (place' turn' way' : Nat → Int32) (m' t' : Int32) (st' : Nat → Int32), cl7 (fX0_takeSteps_L2 (nI na) (nI ns) kind slack stroke xF (nI k) 0 hand (nI nt) 0 0 place turn way) _ = _ ∧ _
      rw [cl7_mk s1', r1]
      refine ⟨_, _, _, _, _, _, _, _, _, _, _, rfl, rfl, ⟨na, ns, nt + k, rfl, rfl, rfl, hf, s3.up (by omega)⟩, fun j h1 h2 => f1 j (by omega)⟩
    · rw [if_neg (show ¬ nI (nt + k) < (10000 : Int32) from fun q => by have := (nI_ltI (b := 10000) (by omega) (by omega)).mp q; omega), if_neg (show ¬ nI (nt + k) ≤ (9999 : Int32) from fun q => by have := (nI_leI (b := 9999) (by omega) (by omega)).mp q; omega)]
      exact ⟨_, _, _, _, _, _, _, _, _, _, _, rfl, rfl, hN0.up, fun _ _ _ => rfl⟩
  · simp only [if_neg c]
    exact ⟨_, _, _, _, _, _, _, _, _, _, _, rfl, rfl, hN0.up, fun _ _ _ => rfl⟩
end OPs
