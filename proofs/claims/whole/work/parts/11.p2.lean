-- arms, hand, step: the class and the reference side by side
theorem bey_rng {play off : Int32} (h0 : 0 ≤ play.toInt) (h1 : play.toInt ≤ 100) (h2 : -4000000 ≤ off.toInt) (h3 : off.toInt ≤ 4000000) : (0 ≤ off.toInt → 0 ≤ (beyv play off).toInt ∧ (beyv play off).toInt ≤ off.toInt) ∧ (off.toInt ≤ 0 → off.toInt ≤ (beyv play off).toInt ∧ (beyv play off).toInt ≤ 0) := by
  unfold beyv
  have e0 : (0 : Int32).toInt = 0 := rfl
  have hn : (-play).toInt = -play.toInt := i_neg (by omega)
  by_cases c1 : off ≤ play
  · have q1 := i_le.mp c1
    rw [if_pos c1]
    by_cases c2 : -play ≤ off
    · have q2 := i_le.mp c2
      rw [if_pos c2, e0]
      exact ⟨fun h => ⟨by omega, h⟩, fun h => ⟨h, by omega⟩⟩
    · have q2 := n_le c2
      rw [if_neg c2, i_add (by omega) (by omega)]
      exact ⟨fun h => ⟨by omega, by omega⟩, fun h => ⟨by omega, by omega⟩⟩
  · have q1 := n_le c1
    rw [if_neg c1, i_sub (by omega) (by omega)]
    exact ⟨fun h => ⟨by omega, by omega⟩, fun h => ⟨by omega, by omega⟩⟩
theorem ans_rng (K y : Int32) : (0 ≤ y.toInt → 0 ≤ (ansv K y).toInt ∧ (ansv K y).toInt ≤ y.toInt) ∧ (y.toInt ≤ 0 → y.toInt ≤ (ansv K y).toInt ∧ (ansv K y).toInt ≤ 0) := by
  unfold ansv
  have e0 : (0 : Int32).toInt = 0 := rfl
  have e1 : (1 : Int32).toInt = 1 := rfl
  have hr := i_rng y
  by_cases k1 : K = 1
  · rw [if_pos k1]
    by_cases c1 : y ≤ 0
    · have q1 := i_le.mp c1
      rw [if_pos c1]
      by_cases c2 : 0 ≤ y
      · have q2 := i_le.mp c2
        rw [if_pos c2, e0]
        exact ⟨fun h => ⟨by omega, by omega⟩, fun h => ⟨by omega, by omega⟩⟩
      · have q2 := n_le c2
        rw [if_neg c2, i_add (by omega) (by omega)]
        exact ⟨fun h => ⟨by omega, by omega⟩, fun h => ⟨by omega, by omega⟩⟩
    · have q1 := n_le c1
      rw [if_neg c1, i_sub (by omega) (by omega)]
      exact ⟨fun h => ⟨by omega, by omega⟩, fun h => ⟨by omega, by omega⟩⟩
  · rw [if_neg k1]
    split
    · exact ⟨fun h => ⟨h, by omega⟩, fun h => ⟨by omega, h⟩⟩
    · split
      · rw [e0]
        exact ⟨fun h => ⟨by omega, by omega⟩, fun h => ⟨by omega, by omega⟩⟩
      · exact ⟨fun h => ⟨h, by omega⟩, fun h => ⟨by omega, h⟩⟩
theorem play_rng {K S T : Int32} (h1 : 0 ≤ S.toInt) (h2 : S.toInt ≤ 9) (h3 : 0 ≤ T.toInt) (h4 : T.toInt ≤ 9) : 0 ≤ (playv K S T).toInt ∧ (playv K S T).toInt ≤ 100 := by
  unfold playv
  split
  · rw [i_add (by omega) (by omega)]
    omega
  · omega
def PgA (B : Int) (b : Nat) (st : Nat → Int32) (a : Nat) : Prop := (0 ≤ (st (b + a)).toInt ∧ (st (b + a)).toInt ≤ 3) ∧ (0 ≤ (st (b + 4 + a)).toInt ∧ (st (b + 4 + a)).toInt ≤ 9) ∧ (-B ≤ (st (b + 8 + a)).toInt ∧ (st (b + 8 + a)).toInt ≤ B) ∧ (0 ≤ (st (b + 12 + a)).toInt ∧ (st (b + 12 + a)).toInt ≤ 9)
def Ga (b na : Nat) (st kind slack place turn way : Nat → Int32) : Prop := ∀ a, a < na → kind a = st (b + a) ∧ slack a = st (b + 4 + a) ∧ place a = st (b + 8 + a) ∧ turn a = st (b + 12 + a) ∧ way a = st (b + 16 + a)
theorem lead_rng {B : Int} {b na a : Nat} {st : Nat → Int32} (hh : -B ≤ (st (b + 38)).toInt ∧ (st (b + 38)).toInt ≤ B) (hP : ∀ a, a < na → PgA B b st a) (ha : a ≤ na) : -B ≤ (leadv b st a).toInt ∧ (leadv b st a).toInt ≤ B := by
  unfold leadv
  split
  · exact hh
  · have h1 := (hP (a - 1) (by omega)).2.2.1
    rw [show b + 8 + (a - 1) = b + 8 + a - 1 by omega] at h1
    exact h1
theorem mv_bound {B : Int} (hB0 : 0 ≤ B) (hB : B ≤ 1000000) {b na a : Nat} {st : Nat → Int32} (hh : -B ≤ (st (b + 38)).toInt ∧ (st (b + 38)).toInt ≤ B) (hP : ∀ a, a < na → PgA B b st a) (ha : a < na) : -B ≤ (st (b + 8 + a) + mvv b st a).toInt ∧ (st (b + 8 + a) + mvv b st a).toInt ≤ B := by
  have hl := lead_rng hh hP (Nat.le_of_lt ha)
  obtain ⟨h1, h2, h3, h4⟩ := hP a ha
  unfold mvv
  have hp := play_rng (K := st (b + a)) h2.1 h2.2 h4.1 h4.2
  have ho : (leadv b st a - st (b + 8 + a)).toInt = (leadv b st a).toInt - (st (b + 8 + a)).toInt := i_sub (by omega) (by omega)
  have hy := bey_rng (off := leadv b st a - st (b + 8 + a)) hp.1 hp.2 (by omega) (by omega)
  generalize beyv (playv (st (b + a)) (st (b + 4 + a)) (st (b + 12 + a))) (leadv b st a - st (b + 8 + a)) = z at hy
  have hz := ans_rng (st (b + a)) z
  generalize ansv (st (b + a)) z = w at hz
  rw [ho] at hy
  rcases Int.le_total 0 ((leadv b st a).toInt - (st (b + 8 + a)).toInt) with q | q
  · have y1 := hy.1 q
    have y2 := hz.1 y1.1
    rw [i_add (by omega) (by omega)]
    omega
  · have y1 := hy.2 q
    have y2 := hz.2 y1.2
    rw [i_add (by omega) (by omega)]
    omega
theorem stv_at {b a : Nat} (st : Nat → Int32) (y : Int32) : stv b st a y (b + 8 + a) = st (b + 8 + a) + y := upd_s _ _ _
theorem stv_far {b a : Nat} (st : Nat → Int32) (y : Int32) {j : Nat} (h1 : j ≠ b + 8 + a) (h2 : j ≠ b + 12 + a) (h3 : j ≠ b + 16 + a) : stv b st a y j = st j := by
  unfold stv
  rw [upd_n _ _ h1, upd_n _ _ h3]
  split
  · rw [upd_n _ _ h2]
  · rfl
theorem stv_way {b a : Nat} (st : Nat → Int32) (y : Int32) : stv b st a y (b + 16 + a) = wayv y := by
  unfold stv
  rw [upd_n _ _ (by omega), upd_s]
theorem stv_turn {b a : Nat} (st : Nat → Int32) (y : Int32) : stv b st a y (b + 12 + a) = if st (b + 16 + a) = -(wayv y) then turnv (st (b + 12 + a)) else st (b + 12 + a) := by
  unfold stv
  rw [upd_n _ _ (by omega), upd_n _ _ (by omega)]
  split
  · rw [upd_s]
  · rfl
theorem arm_step {B : Int} (hB0 : 0 ≤ B) (hB : B ≤ 1000000) {b na a : Nat} {st kind slack place turn way : Nat → Int32} (hna : na ≤ 4) (hh : -B ≤ (st (b + 38)).toInt ∧ (st (b + 38)).toInt ≤ B) (hP : ∀ a, a < na → PgA B b st a) (hG : Ga b na st kind slack place turn way) (ha : a < na) :
    (∀ a', a' < na → PgA B b (stv b st a (mvv b st a)) a') ∧ Ga b na (stv b st a (mvv b st a)) kind slack (upd place a (st (b + 8 + a) + mvv b st a)) (if st (b + 16 + a) = -(wayv (mvv b st a)) then upd turn a (turnv (st (b + 12 + a))) else turn) (upd way a (wayv (mvv b st a))) := by
  have hb1 := mv_bound hB0 hB hh hP ha
  generalize mvv b st a = y at hb1 ⊢
  refine ⟨fun a' h' => ?_, fun a' h' => ?_⟩
  · obtain ⟨p1, p2, p3, p4⟩ := hP a' h'
    unfold PgA
    rw [stv_far st y (j := b + a') (by omega) (by omega) (by omega), stv_far st y (j := b + 4 + a') (by omega) (by omega) (by omega)]
    by_cases e : a' = a
    · subst e
      rw [stv_at, stv_turn]
      refine ⟨p1, p2, hb1, ?_⟩
      split
      · exact (turn_eq p4.1 p4.2).2
      · exact p4
    · rw [stv_far st y (j := b + 8 + a') (by omega) (by omega) (by omega), stv_far st y (j := b + 12 + a') (by omega) (by omega) (by omega)]
      exact ⟨p1, p2, p3, p4⟩
  · obtain ⟨g1, g2, g3, g4, g5⟩ := hG a' h'
    rw [stv_far st y (j := b + a') (by omega) (by omega) (by omega), stv_far st y (j := b + 4 + a') (by omega) (by omega) (by omega)]
    by_cases e : a' = a
    · subst e
      rw [stv_at, stv_turn, stv_way, upd_s, upd_s]
      refine ⟨g1, g2, rfl, ?_, rfl⟩
      split
      · rw [upd_s]
      · exact g4
    · rw [stv_far st y (j := b + 8 + a') (by omega) (by omega) (by omega), stv_far st y (j := b + 12 + a') (by omega) (by omega) (by omega), stv_far st y (j := b + 16 + a') (by omega) (by omega) (by omega), upd_n _ _ e, upd_n _ _ e]
      refine ⟨g1, g2, g3, ?_, g5⟩
      split
      · rw [upd_n _ _ e]; exact g4
      · exact g4
/-- the class's loop, a turn of it -/
theorem it_c {b na a n : Nat} {st kind slack place turn way : Nat → Int32} (hna : na ≤ 4) {B : Int} (hP : ∀ a, a < na → PgA B b st a) (hG : Ga b na st kind slack place turn way) (ha : a < na) {x2 : Int32} (hx : x2 = leadv b st a) (hand tr rv : Int32) :
    fX0_moveHand_L17 (nI na) kind slack (n + 1) x2 (nI a) hand tr rv place turn way = if mvv b st a = 0 then fX0_moveHand_L17 (nI na) kind slack n (st (b + 8 + a)) (nI (a + 1)) hand tr rv place turn way else fX0_moveHand_L17 (nI na) kind slack n (st (b + 8 + a) + mvv b st a) (nI (a + 1)) hand (tr + iabs (mvv b st a)) (rv + dtv b st a (mvv b st a)) (upd place a (st (b + 8 + a) + mvv b st a)) (if st (b + 16 + a) = -(wayv (mvv b st a)) then upd turn a (turnv (st (b + 12 + a))) else turn) (upd way a (wayv (mvv b st a))) := by
  obtain ⟨g1, g2, g3, g4, g5⟩ := hG a ha
  obtain ⟨p1, p2, p3, p4⟩ := hP a ha
  rw [fX0_moveHand_L17]
  rw [if_neg (fun q => by have := (nI_leI (by omega) (by omega)).mp q; omega), play_c (by omega), cl1_s, chk_pos (xin_nI (by omega) (by omega)), cN (by omega), bey_c, cl1_s, chk_pos (xin_nI (by omega) (by omega))]
  rw [ans_c (by rw [g1]; exact p1.1) (by rw [g1]; exact p1.2), cl1_s]
  have hy : ansv (kind a) (beyv (playv (kind a) (slack a) (turn a)) (x2 - place a)) = mvv b st a := by
    unfold mvv
    rw [g1, g2, g3, g4, hx]
  rw [hy]
  by_cases h : mvv b st a = 0
  · rw [if_pos h, h]
    unfold fX0_moveArm
    rw [if_pos rfl]
    show chk (xin (nI a) 4) _ = _
    rw [chk_pos (xin_nI (by omega) (by omega)), bnd_s, bnd_s, nI_1, g3]
  · rw [if_neg h, ma_c (by omega) h g3 g4 g5 p4.1 p4.2]
    show chk (xin (nI a) 4) _ = _
    rw [chk_pos (xin_nI (by omega) (by omega)), bnd_s, bnd_s, nI_1, upd_s]
theorem it_c0 {na n : Nat} {kind slack place turn way : Nat → Int32} (x2 hand tr rv : Int32) : fX0_moveHand_L17 (nI na) kind slack (n + 1) x2 (nI na) hand tr rv place turn way = some (hand, tr, rv, place, turn, way) := by
  rw [fX0_moveHand_L17]
  rw [if_pos (Int32.le_refl _)]
theorem arms_sim {B : Int} (hB0 : 0 ≤ B) (hB : B ≤ 1000000) {b na : Nat} (hb : b + 40 ≤ 240) (hna : na ≤ 4) {kind slack : Nat → Int32} : ∀ (k a : Nat) (st place turn way : Nat → Int32) (x2 : Int32), a + k = na → st (b + 20) = nI na → (-B ≤ (st (b + 38)).toInt ∧ (st (b + 38)).toInt ≤ B) → (∀ a, a < na → PgA B b st a) → Ga b na st kind slack place turn way → x2 = leadv b st a →
    ∃ (dm dt : Int32) (st' place' turn' way' : Nat → Int32), (∀ (n : Nat) (m t : Int32), k < n → fX5_armsOn_L2 n (nI b) (nI a) m t st = some (m + dm, t + dt, st')) ∧ (∀ (n : Nat) (hand tr rv : Int32), k < n → fX0_moveHand_L17 (nI na) kind slack n x2 (nI a) hand tr rv place turn way = some (hand, tr + dm, rv + dt, place', turn', way')) ∧ Ga b na st' kind slack place' turn' way' ∧ (∀ a, a < na → PgA B b st' a) ∧ (∀ j, (j < b + 8 ∨ b + 20 ≤ j) → st' j = st j) := by
  intro k
  induction k with
  | zero =>
    intro a st place turn way x2 hk h20 hh hP hG hx
    have e : a = na := by omega
    subst e
    refine ⟨0, 0, st, place, turn, way, fun n m t hn => ?_, fun n hand tr rv hn => ?_, hG, hP, fun _ _ => rfl⟩
    · obtain ⟨n, rfl⟩ : ∃ z, n = z + 1 := ⟨n - 1, by omega⟩
      rw [it_r0 hb hna h20, Int32.add_zero, Int32.add_zero]
    · obtain ⟨n, rfl⟩ : ∃ z, n = z + 1 := ⟨n - 1, by omega⟩
      rw [it_c0, Int32.add_zero, Int32.add_zero]
  | succ k ih =>
    intro a st place turn way x2 hk h20 hh hP hG hx
    have ha : a < na := by omega
    by_cases h : mvv b st a = 0
    · obtain ⟨dm, dt, st', place', turn', way', i1, i2, i3, i4, i5⟩ := ih (a + 1) st place turn way (st (b + 8 + a)) (by omega) h20 hh hP hG (by unfold leadv; rw [if_neg (by omega)]; rfl)
      refine ⟨dm, dt, st', place', turn', way', fun n m t hn => ?_, fun n hand tr rv hn => ?_, i3, i4, i5⟩
      · obtain ⟨n, rfl⟩ : ∃ z, n = z + 1 := ⟨n - 1, by omega⟩
        rw [it_r hb ha hna h20, if_pos h, i1 n m t (by omega)]
      · obtain ⟨n, rfl⟩ : ∃ z, n = z + 1 := ⟨n - 1, by omega⟩
        rw [it_c hna hP hG ha hx, if_pos h, i2 n hand tr rv (by omega)]
    · obtain ⟨s1, s2⟩ := arm_step hB0 hB hna hh hP hG ha
      obtain ⟨dm, dt, st', place', turn', way', i1, i2, i3, i4, i5⟩ := ih (a + 1) _ _ _ _ (st (b + 8 + a) + mvv b st a) (by omega) (by rw [stv_far _ _ (by omega) (by omega) (by omega)]; exact h20) (by rw [stv_far _ _ (by omega) (by omega) (by omega)]; exact hh) s1 s2 (by unfold leadv; rw [if_neg (by omega)]; exact (stv_at st _).symm)
      refine ⟨iabs (mvv b st a) + dm, dtv b st a (mvv b st a) + dt, st', place', turn', way', fun n m t hn => ?_, fun n hand tr rv hn => ?_, i3, i4, fun j hj => ?_⟩
      · obtain ⟨n, rfl⟩ : ∃ z, n = z + 1 := ⟨n - 1, by omega⟩
        rw [it_r hb ha hna h20, if_neg h, i1 n _ _ (by omega), Int32.add_assoc, Int32.add_assoc]
      · obtain ⟨n, rfl⟩ : ∃ z, n = z + 1 := ⟨n - 1, by omega⟩
        rw [it_c hna hP hG ha hx, if_neg h, i2 n hand _ _ (by omega), Int32.add_assoc, Int32.add_assoc]
      · rw [i5 j hj, stv_far _ _ (by omega) (by omega) (by omega)]
