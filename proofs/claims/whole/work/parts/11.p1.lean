-- a gear and a page of the reference: one arm's move
theorem ix0 (b a : Nat) : nI b + nI a = nI (b + a) := nI_add b a
theorem ix4 (b a : Nat) : nI b + (4 : Int32) + nI a = nI (b + 4 + a) := by rw [show (4 : Int32) = nI 4 from rfl, nI_add, nI_add]
theorem ix8 (b a : Nat) : nI b + (8 : Int32) + nI a = nI (b + 8 + a) := by rw [show (8 : Int32) = nI 8 from rfl, nI_add, nI_add]
theorem ix12 (b a : Nat) : nI b + (12 : Int32) + nI a = nI (b + 12 + a) := by rw [show (12 : Int32) = nI 12 from rfl, nI_add, nI_add]
theorem ix16 (b a : Nat) : nI b + (16 : Int32) + nI a = nI (b + 16 + a) := by rw [show (16 : Int32) = nI 16 from rfl, nI_add, nI_add]
theorem ix21 (b a : Nat) : nI b + (21 : Int32) + nI a = nI (b + 21 + a) := by rw [show (21 : Int32) = nI 21 from rfl, nI_add, nI_add]
theorem ixs20 (b : Nat) : nI b + (20 : Int32) = nI (b + 20) := by rw [show (20 : Int32) = nI 20 from rfl, nI_add]
theorem ixs37 (b : Nat) : nI b + (37 : Int32) = nI (b + 37) := by rw [show (37 : Int32) = nI 37 from rfl, nI_add]
theorem ixs38 (b : Nat) : nI b + (38 : Int32) = nI (b + 38) := by rw [show (38 : Int32) = nI 38 from rfl, nI_add]
theorem ixs39 (b : Nat) : nI b + (39 : Int32) = nI (b + 39) := by rw [show (39 : Int32) = nI 39 from rfl, nI_add]
theorem cN {n : Nat} (h : n < 1000000) : (nI n).toNatClampNeg = n := nI_clamp (by omega)
theorem upd_s (f : Nat → Int32) (k : Nat) (x : Int32) : upd f k x k = x := pk_us
theorem upd_n (f : Nat → Int32) {k j : Nat} (x : Int32) (h : j ≠ k) : upd f k x j = f j := pk_un h
def playv (K S T : Int32) : Int32 := if K = 3 then S + T else S
def beyv (play off : Int32) : Int32 := if off ≤ play then if -play ≤ off then 0 else off + play else off - play
def ansv (K y : Int32) : Int32 := if K = 1 then (if y ≤ 0 then if 0 ≤ y then 0 else y + 1 else y - 1) else if K ≤ 1 then y else if iabs y = 1 then 0 else y
def wayv (y : Int32) : Int32 := if y ≤ 0 then -1 else 1
def turnv (T : Int32) : Int32 := if 9 ≤ T then T + 0 else T + 1
theorem play_c {a : Nat} (ha : a < 4) (kind slack turn : Nat → Int32) : fX0_playOf (nI a) kind slack turn = some (playv (kind a) (slack a) (turn a)) := by
  unfold fX0_playOf playv
  rw [chk_pos (xin_nI ha (by omega)), chk_pos (xin_nI ha (by omega)), chk_pos (xin_nI ha (by omega)), chk_pos (xin_nI ha (by omega)), cN (by omega)]
  split <;> rfl
theorem bey_c (play off : Int32) : fX0_beyond play off = some (beyv play off) := by
  unfold fX0_beyond beyv
  split
  · split <;> rfl
  · rfl
theorem ans_c {K : Int32} (h1 : 0 ≤ K.toInt) (h2 : K.toInt ≤ 3) (y : Int32) : fX0_answerTo y K = some (ansv K y) := by
  unfold fX0_answerTo ansv fX0_answerTo_L22 fX0_answerTo_L27
  rw [sg_eq, cl1_s, bnd_s]
  have e1 : (1 : Int32).toInt = 1 := rfl
  have e2 : (2 : Int32).toInt = 2 := rfl
  have e3 : (3 : Int32).toInt = 3 := rfl
  by_cases k1 : K = 1
  · rw [if_pos k1, if_pos k1]
    congr 1
    by_cases p1 : 0 < y
    · have q1 := i_lt.mp p1
      rw [if_pos p1, if_neg (fun q => by have := i_le.mp q; omega)]
    · by_cases p2 : y = 0
      · subst p2; decide
      · have q1 := n_lt p1
        have q2 := n_eq p2
        rw [if_neg p1, if_neg p2, if_pos (i_le.mpr q1), if_neg (fun q => by have := i_le.mp q; omega)]
        rw [Int32.sub_eq_add_neg]
        rfl
  · rw [if_neg k1, if_neg k1]
    have k1' := n_eq k1
    by_cases k2 : K = 2
    · rw [if_pos k2, if_neg (show ¬ K ≤ 1 by rw [k2]; decide), if_neg (by decide)]
      split <;> rfl
    · rw [if_neg k2]
      have k2' := n_eq k2
      by_cases k3 : K = 3
      · rw [if_pos k3, if_neg (show ¬ K ≤ 1 by rw [k3]; decide), if_neg (by decide)]
        split <;> rfl
      · have k3' := n_eq k3
        rw [if_neg k3, if_pos rfl, if_pos (i_le.mpr (by omega))]
theorem play_r {b a : Nat} (hb : b + 40 ≤ 240) (ha : a < 4) (st : Nat → Int32) : fX5_playOn (nI b) (nI a) st = some (playv (st (b + a)) (st (b + 4 + a)) (st (b + 12 + a))) := by
  unfold fX5_playOn playv
  rw [ix4, ix12, ix0, chk_pos (xin_nI (by omega) (by omega)), chk_pos (xin_nI (by omega) (by omega)), chk_pos (xin_nI (by omega) (by omega)), cN (by omega), cN (by omega), cN (by omega)]
  split
  · rfl
  · rw [Int32.add_zero]
theorem ans_r {b a : Nat} (hb : b + 40 ≤ 240) (ha : a < 4) (st : Nat → Int32) (y : Int32) : fX5_movesOn_L55 st (nI b) (nI a) y = some (ansv (st (b + a)) y) := by
  unfold fX5_movesOn_L55 ansv
  rw [ix0, chk_pos (xin_nI (by omega) (by omega)), cN (by omega), bnd_s, amt_eq, cl1_s]
  split
  · split
    · split <;> rfl
    · rfl
  · split
    · rfl
    · split <;> rfl
def leadv (b : Nat) (st : Nat → Int32) (a : Nat) : Int32 := if a = 0 then st (b + 38) else st (b + 8 + a - 1)
theorem lead_r {b a : Nat} (hb : b + 40 ≤ 240) (ha : a ≤ 4) (st : Nat → Int32) : fX5_leaderOn (nI b) (nI a) st = some (leadv b st a) := by
  unfold fX5_leaderOn leadv
  by_cases h : a = 0
  · subst h
    rw [if_pos nI_0, if_pos rfl, ixs38, chk_pos (xin_nI (by omega) (by omega)), cN (by omega)]
  · rw [if_neg h, if_neg (fun q => h ((nI_eq (by omega) (by decide)).mp (q.trans nI_0.symm))), ix8, show (1 : Int32) = nI 1 from rfl, pk_sub (by omega), chk_pos (xin_nI (by omega) (by omega)), cN (by omega)]
def mvv (b : Nat) (st : Nat → Int32) (a : Nat) : Int32 := ansv (st (b + a)) (beyv (playv (st (b + a)) (st (b + 4 + a)) (st (b + 12 + a))) (leadv b st a - st (b + 8 + a)))
theorem mv_r {b a : Nat} (hb : b + 40 ≤ 240) (ha : a < 4) (st : Nat → Int32) : fX5_movesOn (nI b) (nI a) st = some (mvv b st a) := by
  unfold fX5_movesOn mvv
  rw [lead_r hb (by omega), cl1_s, ix8, chk_pos (xin_nI (by omega) (by omega)), cN (by omega), bnd_s, play_r hb ha, cl1_s, ans_r hb ha, ans_r hb ha, ans_r hb ha]
  unfold beyv
  split
  · split <;> rfl
  · rfl
theorem turn_eq {T : Int32} (h1 : 0 ≤ T.toInt) (h2 : T.toInt ≤ 9) : imin (T + 1) 9 = turnv T ∧ 0 ≤ (turnv T).toInt ∧ (turnv T).toInt ≤ 9 := by
  have e1 : (1 : Int32).toInt = 1 := rfl
  have e9 : (9 : Int32).toInt = 9 := rfl
  have e0 : (0 : Int32).toInt = 0 := rfl
  have a1 : (T + 1).toInt = T.toInt + 1 := by rw [i_add (by omega) (by omega)]; rfl
  have a0 : (T + 0).toInt = T.toInt := by rw [Int32.add_zero]
  unfold turnv
  by_cases h : 9 ≤ T
  · have h3 := i_le.mp h
    rw [if_pos h, a0]
    refine ⟨?_, h1, h2⟩
    have : 9 < T + 1 := i_lt.mpr (by omega)
    show (if 9 < T + 1 then (9 : Int32) else T + 1) = _
    rw [if_pos this]
    exact i_eq.mpr (by rw [a0]; omega)
  · have h3 := n_le h
    rw [if_neg h, a1]
    refine ⟨?_, by omega, by omega⟩
    have : ¬ 9 < T + 1 := fun q => by have := i_lt.mp q; omega
    show (if 9 < T + 1 then (9 : Int32) else T + 1) = _
    rw [if_neg this]
def stv (b : Nat) (st : Nat → Int32) (a : Nat) (y : Int32) : Nat → Int32 :=
  upd (upd (if st (b + 16 + a) = -(wayv y) then upd st (b + 12 + a) (turnv (st (b + 12 + a))) else st) (b + 16 + a) (wayv y)) (b + 8 + a) (st (b + 8 + a) + y)
def dtv (b : Nat) (st : Nat → Int32) (a : Nat) (y : Int32) : Int32 := if st (b + 16 + a) = -(wayv y) then 1 else 0
theorem L99_r {k2 : Int32 → Int32 → Int32 → Int32 → (Nat → Int32) → Option (Int32 × Int32 × (Nat → Int32))} {b a : Nat} (hb : b + 40 ≤ 240) (ha : a < 4) (st : Nat → Int32) (y w m t : Int32) : fX5_armsOn_L99 k2 (nI b) (nI a) y w m t st = k2 (nI b) (nI (a + 1)) (m + iabs y) t (upd (upd st (b + 16 + a) w) (b + 8 + a) (st (b + 8 + a) + y)) := by
  unfold fX5_armsOn_L99 fX5_armsOn_L140
  rw [ix16, ix8, chk_pos (xin_nI (by omega) (by omega)), bnd_s, chk_pos (xin_nI (by omega) (by omega)), bnd_s, chk_pos (xin_nI (by omega) (by omega)), bnd_s, amt_eq, cl1_s, bnd_s, bnd_s, cN (by omega), cN (by omega), upd_n _ _ (by omega), nI_1]
theorem L35_r {k2 : Int32 → Int32 → Int32 → Int32 → (Nat → Int32) → Option (Int32 × Int32 × (Nat → Int32))} {b a : Nat} (hb : b + 40 ≤ 240) (ha : a < 4) (st : Nat → Int32) (y m t : Int32) : fX5_armsOn_L35 k2 (nI b) (nI a) y (wayv y) m t st = k2 (nI b) (nI (a + 1)) (m + iabs y) (t + dtv b st a y) (stv b st a y) := by
  unfold fX5_armsOn_L35 dtv stv
  simp only [bnd_s]
  rw [ix16, ix12, chk_pos (xin_nI (by omega) (by omega)), chk_pos (xin_nI (by omega) (by omega)), chk_pos (xin_nI (by omega) (by omega)), cN (by omega), cN (by omega)]
  by_cases h : st (b + 16 + a) = -wayv y
  · rw [if_pos h, if_pos h, if_pos h]
    unfold turnv fX5_armsOn_L97
    simp only [bnd_s]
    rw [chk_pos (xin_nI (by omega) (by omega)), chk_pos (xin_nI (by omega) (by omega)), cN (by omega), L99_r hb ha, L99_r hb ha, upd_n _ _ (by omega), upd_n _ _ (by omega)]
    split <;> rfl
  · rw [if_neg h, if_neg h, if_neg h, L99_r hb ha, Int32.add_zero]
/-- one turn of the reference's loop over the arms -/
theorem it_r {b a na : Nat} (hb : b + 40 ≤ 240) (ha : a < na) (hna : na ≤ 4) {st : Nat → Int32} (h20 : st (b + 20) = nI na) (n : Nat) (m t : Int32) : fX5_armsOn_L2 (n + 1) (nI b) (nI a) m t st = if mvv b st a = 0 then fX5_armsOn_L2 n (nI b) (nI (a + 1)) m t st else fX5_armsOn_L2 n (nI b) (nI (a + 1)) (m + iabs (mvv b st a)) (t + dtv b st a (mvv b st a)) (stv b st a (mvv b st a)) := by
  rw [fX5_armsOn_L2]
  rw [ixs20, chk_pos (xin_nI (by omega) (by omega)), cN (by omega), h20, if_neg (fun q => by have := (nI_leI (by omega) (by omega)).mp q; omega), mv_r hb (by omega), cl1_s]
  generalize mvv b st a = y
  by_cases hy : y = 0
  · rw [if_pos hy, if_pos hy]
    unfold fX5_armsOn_L140
    rw [bnd_s, nI_1]
  · rw [if_neg hy, if_neg hy]
    by_cases hy2 : y ≤ 0
    · have hw : wayv y = -1 := if_pos hy2
      rw [if_pos hy2, ← hw, L35_r hb (by omega)]
    · have hw : wayv y = 1 := if_neg hy2
      rw [if_neg hy2, ← hw, L35_r hb (by omega)]
theorem it_r0 {b na : Nat} (hb : b + 40 ≤ 240) (hna : na ≤ 4) {st : Nat → Int32} (h20 : st (b + 20) = nI na) (n : Nat) (m t : Int32) : fX5_armsOn_L2 (n + 1) (nI b) (nI na) m t st = some (m, t, st) := by
  rw [fX5_armsOn_L2]
  rw [ixs20, chk_pos (xin_nI (by omega) (by omega)), cN (by omega), h20, if_pos (Int32.le_refl _)]
/-- the class's arm -/
theorem ma_c {b a : Nat} (ha : a < 4) {st : Nat → Int32} {y : Int32} (hy : ¬ y = 0) {place turn way : Nat → Int32} (h1 : place a = st (b + 8 + a)) (h2 : turn a = st (b + 12 + a)) (h3 : way a = st (b + 16 + a)) (hT1 : 0 ≤ (st (b + 12 + a)).toInt) (hT2 : (st (b + 12 + a)).toInt ≤ 9) (tr rv : Int32) : fX0_moveArm (nI a) y tr rv place turn way = some (tr + iabs y, rv + dtv b st a y, upd place a (st (b + 8 + a) + y), (if st (b + 16 + a) = -(wayv y) then upd turn a (turnv (st (b + 12 + a))) else turn), upd way a (wayv y)) := by
  have hs : (if 0 < y then (1 : Int32) else if y = 0 then 0 else -1) = wayv y := by
    unfold wayv
    by_cases h : 0 < y
    · rw [if_pos h, if_neg (Int32.not_le.mpr h)]
    · rw [if_neg h, if_neg hy, if_pos (Int32.not_lt.mp h)]
  unfold fX0_moveArm fX0_moveArm_L50 dtv
  rw [if_neg hy, sg_eq, cl1_s, hs]
  simp only [bnd_s, cN (show a < 1000000 by omega), chk_pos (xin_nI ha (show a < 2 ^ 31 by omega))]
  rw [h1, h2, h3, (turn_eq hT1 hT2).1]
  by_cases h : st (b + 16 + a) = -wayv y
  · rw [if_pos h, if_pos h, if_pos h]
  · rw [if_neg h, if_neg h, if_neg h, Int32.add_zero]
