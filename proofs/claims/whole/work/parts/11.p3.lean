-- the hand, a step, the error, copies
def GR (B : Int) (b na ns nt : Nat) (st : Nat → Int32) (hand : Int32) (kind slack place turn way stroke : Nat → Int32) : Prop :=
  na ≤ 4 ∧ ns ≤ 16 ∧ st (b + 20) = nI na ∧ st (b + 37) = nI ns ∧ st (b + 39) = nI nt ∧ hand = st (b + 38) ∧ (-B ≤ (st (b + 38)).toInt ∧ (st (b + 38)).toInt ≤ B) ∧ (∀ a, a < na → PgA B b st a) ∧ Ga b na st kind slack place turn way ∧ (∀ i, i < ns → stroke i = st (b + 21 + i) ∧ -9 ≤ (st (b + 21 + i)).toInt ∧ (st (b + 21 + i)).toInt ≤ 9)
def Fr (b : Nat) (st st' : Nat → Int32) : Prop := ∀ j, (j < b ∨ b + 40 ≤ j) → st' j = st j
theorem Fr.rf {b : Nat} {st : Nat → Int32} : Fr b st st := fun _ _ => rfl
theorem Fr.tr {b : Nat} {s1 s2 s3 : Nat → Int32} (h1 : Fr b s1 s2) (h2 : Fr b s2 s3) : Fr b s1 s3 := fun j hj => (h2 j hj).trans (h1 j hj)
theorem PgA.up {B B' : Int} (h : B ≤ B') {b a : Nat} {st : Nat → Int32} (hp : PgA B b st a) : PgA B' b st a := ⟨hp.1, hp.2.1, ⟨by have := hp.2.2.1.1; omega, by have := hp.2.2.1.2; omega⟩, hp.2.2.2⟩
theorem GR.up {B B' : Int} (h : B ≤ B') {b na ns nt : Nat} {st : Nat → Int32} {hand : Int32} {kind slack place turn way stroke : Nat → Int32} (g : GR B b na ns nt st hand kind slack place turn way stroke) : GR B' b na ns nt st hand kind slack place turn way stroke := by
  obtain ⟨g1, g2, g3, g4, g5, g6, g7, g8, g9, g10⟩ := g
  exact ⟨g1, g2, g3, g4, g5, g6, ⟨by omega, by omega⟩, fun a ha => (g8 a ha).up h, g9, g10⟩
theorem PgA.cong {B : Int} {b a : Nat} {st st' : Nat → Int32} (e1 : st' (b + a) = st (b + a)) (e2 : st' (b + 4 + a) = st (b + 4 + a)) (e3 : st' (b + 8 + a) = st (b + 8 + a)) (e4 : st' (b + 12 + a) = st (b + 12 + a)) (hp : PgA B b st a) : PgA B b st' a := by
  unfold PgA
  rw [e1, e2, e3, e4]
  exact hp
theorem hand_sim {B : Int} (hB0 : 0 ≤ B) (hB : B + 9 ≤ 1000000) {b na ns nt : Nat} (hb : b + 40 ≤ 240) {st : Nat → Int32} {hand : Int32} {kind slack place turn way stroke : Nat → Int32} (g : GR B b na ns nt st hand kind slack place turn way stroke) {y : Int32} (hy1 : -9 ≤ y.toInt) (hy2 : y.toInt ≤ 9) :
    ∃ (dm dt : Int32) (st' place' turn' way' : Nat → Int32), (∀ m t : Int32, fX5_handOn (nI b) y m t st = some (m + dm, t + dt, st')) ∧ (∀ tr rv : Int32, fX0_moveHand y (nI na) hand tr rv kind slack place turn way = some (st' (b + 38), tr + dm, rv + dt, place', turn', way')) ∧ GR (B + 9) b na ns nt st' (st' (b + 38)) kind slack place' turn' way' stroke ∧ Fr b st st' := by
  obtain ⟨g1, g2, g3, g4, g5, g6, g7, g8, g9, g10⟩ := g
  have hs : (st (b + 38) + y).toInt = (st (b + 38)).toInt + y.toInt := i_add (by omega) (by omega)
  obtain ⟨dm, dt, st', place', turn', way', i1, i2, i3, i4, i5⟩ := arms_sim (B := B + 9) (by omega) hB hb g1 (kind := kind) (slack := slack) na 0 (upd st (b + 38) (st (b + 38) + y)) place turn way (st (b + 38) + y) (by omega) (by rw [upd_n _ _ (by omega)]; exact g3) (by rw [upd_s, hs]; omega)
    (fun a ha => ((g8 a ha).up (by omega)).cong (upd_n _ _ (by omega)) (upd_n _ _ (by omega)) (upd_n _ _ (by omega)) (upd_n _ _ (by omega)))
    (fun a ha => by rw [upd_n _ _ (by omega), upd_n _ _ (by omega), upd_n _ _ (by omega), upd_n _ _ (by omega), upd_n _ _ (by omega)]; exact g9 a ha)
    (by unfold leadv; rw [if_pos rfl, upd_s])
  have e38 : st' (b + 38) = st (b + 38) + y := by rw [i5 _ (by omega), upd_s]
  refine ⟨dm, dt, st', place', turn', way', fun m t => ?_, fun tr rv => ?_, ⟨g1, g2, ?_, ?_, ?_, rfl, ?_, i4, i3, fun i hi => ?_⟩, fun j hj => ?_⟩
  · unfold fX5_handOn fX5_armsOn
    rw [ixs38, chk_pos (xin_nI (by omega) (by omega)), bnd_s, chk_pos (xin_nI (by omega) (by omega)), bnd_s, cN (by omega), ← nI_0, i1 xF m t (by show na < 1000; omega)]
    rfl
  · unfold fX0_moveHand
    rw [bnd_s, ← nI_0, g6, i2 xF _ tr rv (by show na < 1000; omega), e38]
  · rw [i5 _ (by omega), upd_n _ _ (by omega)]; exact g3
  · rw [i5 _ (by omega), upd_n _ _ (by omega)]; exact g4
  · rw [i5 _ (by omega), upd_n _ _ (by omega)]; exact g5
  · rw [e38, hs]; omega
  · rw [i5 _ (by omega), upd_n _ _ (by omega)]; exact g10 i hi
  · rw [i5 _ (by omega), upd_n _ _ (by omega)]
theorem L44_r {b nt : Nat} (hb : b + 40 ≤ 240) {st : Nat → Int32} (h : st (b + 39) = nI nt) (m t : Int32) : fX5_stepOn_L44 (nI b) m t st = some (m, t, upd st (b + 39) (nI (nt + 1))) := by
  unfold fX5_stepOn_L44
  rw [ixs39, chk_pos (xin_nI (by omega) (by omega)), bnd_s, chk_pos (xin_nI (by omega) (by omega)), bnd_s, cN (by omega), h, nI_1]
theorem GR.step1 {B : Int} {b na ns nt : Nat} {st : Nat → Int32} {hand : Int32} {kind slack place turn way stroke : Nat → Int32} (g : GR B b na ns nt st hand kind slack place turn way stroke) (n' : Nat) : GR B b na ns n' (upd st (b + 39) (nI n')) hand kind slack place turn way stroke := by
  obtain ⟨g1, g2, g3, g4, g5, g6, g7, g8, g9, g10⟩ := g
  refine ⟨g1, g2, by rw [upd_n _ _ (by omega)]; exact g3, by rw [upd_n _ _ (by omega)]; exact g4, upd_s _ _ _, by rw [upd_n _ _ (by omega)]; exact g6, by rw [upd_n _ _ (by omega)]; exact g7, fun a ha => (g8 a ha).cong (upd_n _ _ (by omega)) (upd_n _ _ (by omega)) (upd_n _ _ (by omega)) (upd_n _ _ (by omega)), fun a ha => ?_, fun i hi => ?_⟩
  · rw [upd_n _ _ (by omega), upd_n _ _ (by omega), upd_n _ _ (by omega), upd_n _ _ (by omega), upd_n _ _ (by omega)]; exact g9 a ha
  · rw [upd_n _ _ (by omega)]; exact g10 i hi
theorem Fr.u39 {b : Nat} {st : Nat → Int32} {x : Int32} : Fr b st (upd st (b + 39) x) := fun j hj => upd_n _ _ (by omega)
/-- a step that is missed -/
theorem miss_r {B : Int} {b na ns nt : Nat} (hb : b + 40 ≤ 240) {st : Nat → Int32} {hand : Int32} {kind slack place turn way stroke : Nat → Int32} (g : GR B b na ns nt st hand kind slack place turn way stroke) (m t : Int32) : fX5_stepOn (nI b) 1 m t st = some (m, t, upd st (b + 39) (nI (nt + 1))) := by
  obtain ⟨g1, g2, g3, g4, g5, g6, g7, g8, g9, g10⟩ := g
  unfold fX5_stepOn
  rw [ixs37, chk_pos (xin_nI (by omega) (by omega)), bnd_s, if_neg (show ¬ (1 : Int32) = 0 by decide), L44_r hb g5]
  split <;> rfl
theorem step_sim0 {B : Int} (hB0 : 0 ≤ B) (hB : B + 9 ≤ 1000000) {b na ns nt : Nat} (hb : b + 40 ≤ 240) (hnt : nt < 1000000) {st : Nat → Int32} {hand : Int32} {kind slack place turn way stroke : Nat → Int32} (g : GR B b na ns nt st hand kind slack place turn way stroke) :
    ∃ (dm dt : Int32) (st' place' turn' way' : Nat → Int32), (∀ m t : Int32, fX5_stepOn (nI b) 0 m t st = some (m + dm, t + dt, st')) ∧ (∀ tr rv : Int32, fX0_takeStep (nI na) (nI ns) hand (nI nt) tr rv kind slack place turn way stroke = some (st' (b + 38), nI (nt + 1), tr + dm, rv + dt, place', turn', way')) ∧ GR (B + 9) b na ns (nt + 1) st' (st' (b + 38)) kind slack place' turn' way' stroke ∧ Fr b st st' := by
  have g0 := g
  obtain ⟨g1, g2, g3, g4, g5, g6, g7, g8, g9, g10⟩ := g0
  by_cases hs : ns = 0
  · subst hs
    refine ⟨0, 0, upd st (b + 39) (nI (nt + 1)), place, turn, way, fun m t => ?_, fun tr rv => ?_, ?_, Fr.u39⟩
    · unfold fX5_stepOn
      rw [ixs37, chk_pos (xin_nI (by omega) (by omega)), bnd_s, cN (by omega), g4, if_pos (by rw [nI_0]; exact Int32.le_refl _), L44_r hb g5, Int32.add_zero, Int32.add_zero]
    · unfold fX0_takeStep fX0_takeStep_L20
      rw [if_pos nI_0, bnd_s, nI_1, Int32.add_zero, Int32.add_zero, upd_n _ _ (by omega), ← g6]
    · have := (g.step1 (nt + 1)).up (show B ≤ B + 9 by omega)
      rw [upd_n _ _ (by omega), ← g6]
      exact this
  · have hs0 : 0 < ns := by omega
    have hne : ¬ nI ns = 0 := fun q => hs ((nI_eq (by omega) (by decide)).mp (q.trans nI_0.symm))
    have hm : nt % ns < ns := Nat.mod_lt _ hs0
    obtain ⟨s1, s2, s3⟩ := g10 (nt % ns) hm
    obtain ⟨dm, dt, st', place', turn', way', i1, i2, i3, i4⟩ := hand_sim hB0 hB hb g s2 s3
    have h39 : st' (b + 39) = nI nt := i3.2.2.2.2.1
    refine ⟨dm, dt, upd st' (b + 39) (nI (nt + 1)), place', turn', way', fun m t => ?_, fun tr rv => ?_, ?_, i4.tr Fr.u39⟩
    · unfold fX5_stepOn
      rw [ixs37, chk_pos (xin_nI (by omega) (by omega)), bnd_s, cN (by omega), g4, if_neg (fun q => by have := (nI_leI (by omega) (by decide)).mp (show nI ns ≤ nI 0 by rw [nI_0]; exact q); omega), if_pos rfl, ixs39, chk_pos (xin_nI (by omega) (by omega)), chk_pos hne, cN (by omega), g5, pk_rem (by omega) hs0 (by omega), ix21, chk_pos (xin_nI (by omega) (by omega)), cN (by omega), cl3_mk (i1 m t), L44_r hb h39]
    · unfold fX0_takeStep fX0_strokeInTurn
      rw [if_neg hne, if_neg hne, chk_pos hne, cl1_s, pk_rem (by omega) hs0 (by omega), chk_pos (xin_nI (by omega) (by omega)), cN (by omega), s1, cl6_mk (i2 tr rv)]
      unfold fX0_takeStep_L20
      rw [bnd_s, nI_1, upd_n _ _ (by omega)]
    · rw [upd_n _ _ (by omega)]
      exact i3.step1 (nt + 1)
/-- what a step of a page gives -/
def nx (b : Nat) (st : Nat → Int32) : Nat → Int32 := match fX5_stepOn (nI b) 0 0 0 st with
  | some (_, _, s) => s
  | none => st
def dmS (b : Nat) (st : Nat → Int32) : Int32 := match fX5_stepOn (nI b) 0 0 0 st with
  | some (x, _, _) => x
  | none => 0
def dtS (b : Nat) (st : Nat → Int32) : Int32 := match fX5_stepOn (nI b) 0 0 0 st with
  | some (_, x, _) => x
  | none => 0
theorem step_sim {B : Int} (hB0 : 0 ≤ B) (hB : B + 9 ≤ 1000000) {b na ns nt : Nat} (hb : b + 40 ≤ 240) (hnt : nt < 1000000) {st : Nat → Int32} {hand : Int32} {kind slack place turn way stroke : Nat → Int32} (g : GR B b na ns nt st hand kind slack place turn way stroke) :
    (∀ m t : Int32, fX5_stepOn (nI b) 0 m t st = some (m + dmS b st, t + dtS b st, nx b st)) ∧ Fr b st (nx b st) ∧ ∃ (place' turn' way' : Nat → Int32), (∀ tr rv : Int32, fX0_takeStep (nI na) (nI ns) hand (nI nt) tr rv kind slack place turn way stroke = some (nx b st (b + 38), nI (nt + 1), tr + dmS b st, rv + dtS b st, place', turn', way')) ∧ GR (B + 9) b na ns (nt + 1) (nx b st) (nx b st (b + 38)) kind slack place' turn' way' stroke := by
  obtain ⟨dm, dt, st', place', turn', way', i1, i2, i3, i4⟩ := step_sim0 hB0 hB hb hnt g
  have h0 := i1 0 0
  have e1 : nx b st = st' := by unfold nx; rw [h0]
  have e2 : dmS b st = dm := by unfold dmS; rw [h0]; exact Int32.zero_add _
  have e3 : dtS b st = dt := by unfold dtS; rw [h0]; exact Int32.zero_add _
  rw [e1, e2, e3]
  exact ⟨i1, i4, place', turn', way', i2, i3⟩
def errv (b na : Nat) (st : Nat → Int32) : Int32 := if na = 0 then 0 else iabs (st (b + 8 + na - 1) - st (b + 38))
theorem iabs_rng {x : Int32} {M : Int} (h1 : -M ≤ x.toInt) (h2 : x.toInt ≤ M) (hM : M ≤ 2000000000) : 0 ≤ (iabs x).toInt ∧ (iabs x).toInt ≤ M := by
  have e0 : (0 : Int32).toInt = 0 := rfl
  show 0 ≤ (if 0 ≤ x then x else 0 - x).toInt ∧ (if 0 ≤ x then x else 0 - x).toInt ≤ M
  by_cases h : 0 ≤ x
  · have := i_le.mp h
    rw [if_pos h]; omega
  · have := n_le h
    rw [if_neg h, i_sub (by omega) (by omega)]; omega
theorem iabs_sub {x y : Int32} (h1 : -2000000000 ≤ x.toInt - y.toInt) (h2 : x.toInt - y.toInt ≤ 2000000000) : iabs (x - y) = iabs (y - x) := by
  have e0 : (0 : Int32).toInt = 0 := rfl
  have a1 : (x - y).toInt = x.toInt - y.toInt := i_sub (by omega) (by omega)
  have a2 : (y - x).toInt = y.toInt - x.toInt := i_sub (by omega) (by omega)
  have a3 : (0 - (y - x)).toInt = 0 - (y - x).toInt := i_sub (a := 0) (by omega) (by omega)
  have a4 : (0 - (x - y)).toInt = 0 - (x - y).toInt := i_sub (a := 0) (by omega) (by omega)
  show (if 0 ≤ x - y then x - y else 0 - (x - y)) = (if 0 ≤ y - x then y - x else 0 - (y - x))
  by_cases h : 0 ≤ x - y
  · have p1 := i_le.mp h
    rw [if_pos h]
    by_cases k : 0 ≤ y - x
    · have p2 := i_le.mp k
      rw [if_pos k]
      exact i_eq.mpr (by omega)
    · rw [if_neg k]
      exact i_eq.mpr (by omega)
  · have p1 := n_le h
    rw [if_neg h]
    by_cases k : 0 ≤ y - x
    · rw [if_pos k]
      exact i_eq.mpr (by omega)
    · have p2 := n_le k
      omega
theorem err_sim {B : Int} (hB0 : 0 ≤ B) (hB : B ≤ 1000000) {b na ns nt : Nat} (hb : b + 40 ≤ 240) {st : Nat → Int32} {hand : Int32} {kind slack place turn way stroke : Nat → Int32} (g : GR B b na ns nt st hand kind slack place turn way stroke) : fX5_errorOn (nI b) st = some (errv b na st) ∧ fX0_error (nI na) hand place = some (errv b na st) ∧ 0 ≤ (errv b na st).toInt ∧ (errv b na st).toInt ≤ 2 * B := by
  obtain ⟨g1, g2, g3, g4, g5, g6, g7, g8, g9, g10⟩ := g
  unfold errv
  by_cases h : na = 0
  · subst h
    rw [if_pos rfl]
    refine ⟨?_, ?_, ?_, ?_⟩
    · unfold fX5_errorOn
      rw [ixs20, chk_pos (xin_nI (by omega) (by omega)), bnd_s, cN (by omega), g3, if_pos nI_0]
    · unfold fX0_error fX0_lastPlace
      rw [if_pos nI_0, cl1_s, bnd_s, Int32.sub_self]
      rfl
    · exact Int.le_refl 0
    · show (0 : Int) ≤ _
      omega
  · rw [if_neg h]
    have hne : ¬ nI na = 0 := fun q => h ((nI_eq (by omega) (by decide)).mp (q.trans nI_0.symm))
    have hp := (g8 (na - 1) (by omega)).2.2.1
    have hg := (g9 (na - 1) (by omega)).2.2.1
    rw [show b + 8 + (na - 1) = b + 8 + na - 1 by omega] at hp hg
    have hd : (st (b + 8 + na - 1) - st (b + 38)).toInt = (st (b + 8 + na - 1)).toInt - (st (b + 38)).toInt := i_sub (by omega) (by omega)
    refine ⟨?_, ?_, ?_⟩
    · unfold fX5_errorOn
      rw [ixs20, chk_pos (xin_nI (by omega) (by omega)), bnd_s, cN (by omega), g3, if_neg hne, ix8, show (1 : Int32) = nI 1 from rfl, pk_sub (by omega), ixs38, chk_pos (xin_nI (by omega) (by omega)), chk_pos (xin_nI (by omega) (by omega)), cN (by omega), cN (by omega), amt_eq, cl1_s]
    · unfold fX0_error fX0_lastPlace
      rw [if_neg hne, show (1 : Int32) = nI 1 from rfl, pk_sub (by omega), chk_pos (xin_nI (by omega) (by omega)), cN (by omega), cl1_s, bnd_s, hg, g6, iabs_sub (by omega) (by omega)]
    · exact iabs_rng (by omega) (by omega) (by omega)
/-- a page over another -/
def cpv (f t i : Nat) (st : Nat → Int32) : Nat → Int32 := fun k => if t ≤ k ∧ k < t + i then st (f + (k - t)) else st k
theorem cpv_in {f t i : Nat} {st : Nat → Int32} {k : Nat} (h1 : t ≤ k) (h2 : k < t + i) : cpv f t i st k = st (f + (k - t)) := if_pos ⟨h1, h2⟩
theorem cpv_out {f t i : Nat} {st : Nat → Int32} {k : Nat} (h : k < t ∨ t + i ≤ k) : cpv f t i st k = st k := if_neg (fun q => by omega)
theorem cop_r {f t : Nat} (hf : f + 40 ≤ 240) (ht : t + 40 ≤ 240) (hd : f + 40 ≤ t ∨ t + 40 ≤ f) (st : Nat → Int32) : ∀ (k i n : Nat), i + k = 40 → k < n → fX5_copies_L2 n (nI f) (nI t) (nI i) (cpv f t i st) = some (cpv f t 40 st) := by
  intro k
  induction k with
  | zero =>
    intro i n hi hn
    obtain ⟨n, rfl⟩ : ∃ z, n = z + 1 := ⟨n - 1, by omega⟩
    have e : i = 40 := by omega
    subst e
    rw [fX5_copies_L2]
    rw [if_pos (show (40 : Int32) ≤ nI 40 from Int32.le_refl _)]
  | succ k ih =>
    intro i n hi hn
    obtain ⟨n, rfl⟩ : ∃ z, n = z + 1 := ⟨n - 1, by omega⟩
    rw [fX5_copies_L2]
    rw [if_neg (fun q => by have := (nI_leI (a := 40) (by omega) (by omega)).mp q; omega), ix0, ix0, chk_pos (xin_nI (by omega) (by omega)), bnd_s, chk_pos (xin_nI (by omega) (by omega)), bnd_s, bnd_s, nI_1, cN (by omega), cN (by omega)]
    have e : upd (cpv f t i st) (t + i) (cpv f t i st (f + i)) = cpv f t (i + 1) st := by
      funext j
      by_cases hj : j = t + i
      · subst hj
        rw [upd_s, cpv_out (k := f + i) (by omega), cpv_in (i := i + 1) (by omega) (by omega)]
        congr 1
        omega
      · rw [upd_n _ _ hj]
        by_cases h2 : t ≤ j ∧ j < t + i
        · rw [cpv_in (i := i) h2.1 h2.2, cpv_in (i := i + 1) h2.1 (by omega)]
        · rw [cpv_out (i := i) (by omega), cpv_out (i := i + 1) (by omega)]
    rw [e]
    exact ih (i + 1) n (by omega) (by omega)
theorem copies_r {f t : Nat} (hf : f + 40 ≤ 240) (ht : t + 40 ≤ 240) (hd : f + 40 ≤ t ∨ t + 40 ≤ f) (st : Nat → Int32) : fX5_copies (nI f) (nI t) st = some (cpv f t 40 st) := by
  unfold fX5_copies
  have e : st = cpv f t 0 st := by
    funext k
    rw [cpv_out (by omega)]
  have := cop_r hf ht hd st 40 0 xF rfl (by decide)
  rw [← e] at this
  exact this
theorem GR.page {B : Int} {b na ns nt : Nat} {st : Nat → Int32} {hand : Int32} {kind slack place turn way stroke : Nat → Int32} (g : GR B b na ns nt st hand kind slack place turn way stroke) {b' : Nat} {st' : Nat → Int32} (h : ∀ j, j < 40 → st' (b' + j) = st (b + j)) : GR B b' na ns nt st' hand kind slack place turn way stroke := by
  obtain ⟨g1, g2, g3, g4, g5, g6, g7, g8, g9, g10⟩ := g
  have h4 : ∀ a, a < 4 → st' (b' + 4 + a) = st (b + 4 + a) := fun a ha => by rw [Nat.add_assoc, Nat.add_assoc]; exact h _ (by omega)
  have h8 : ∀ a, a < 4 → st' (b' + 8 + a) = st (b + 8 + a) := fun a ha => by rw [Nat.add_assoc, Nat.add_assoc]; exact h _ (by omega)
  have h12 : ∀ a, a < 4 → st' (b' + 12 + a) = st (b + 12 + a) := fun a ha => by rw [Nat.add_assoc, Nat.add_assoc]; exact h _ (by omega)
  have h16 : ∀ a, a < 4 → st' (b' + 16 + a) = st (b + 16 + a) := fun a ha => by rw [Nat.add_assoc, Nat.add_assoc]; exact h _ (by omega)
  have h21 : ∀ a, a < 16 → st' (b' + 21 + a) = st (b + 21 + a) := fun a ha => by rw [Nat.add_assoc, Nat.add_assoc]; exact h _ (by omega)
  refine ⟨g1, g2, by rw [h 20 (by omega)]; exact g3, by rw [h 37 (by omega)]; exact g4, by rw [h 39 (by omega)]; exact g5, by rw [h 38 (by omega)]; exact g6, by rw [h 38 (by omega)]; exact g7, fun a ha => ?_, fun a ha => ?_, fun i hi => ?_⟩
  · unfold PgA
    rw [h a (by omega), h4 a (by omega), h8 a (by omega), h12 a (by omega)]
    exact g8 a ha
  · rw [h a (by omega), h4 a (by omega), h8 a (by omega), h12 a (by omega), h16 a (by omega)]
    exact g9 a ha
  · rw [h21 i (by omega)]
    exact g10 i hi
theorem GR.fr {B : Int} {b na ns nt : Nat} {st : Nat → Int32} {hand : Int32} {kind slack place turn way stroke : Nat → Int32} (g : GR B b na ns nt st hand kind slack place turn way stroke) {b' : Nat} {st' : Nat → Int32} (h : Fr b' st st') (hd : b + 40 ≤ b' ∨ b' + 40 ≤ b) : GR B b na ns nt st' hand kind slack place turn way stroke := g.page (fun j hj => h (b + j) (by omega))
theorem GR.cp {B : Int} {b na ns nt : Nat} {st : Nat → Int32} {hand : Int32} {kind slack place turn way stroke : Nat → Int32} (g : GR B b na ns nt st hand kind slack place turn way stroke) (t : Nat) : GR B t na ns nt (cpv b t 40 st) hand kind slack place turn way stroke := g.page (fun j hj => by rw [cpv_in (by omega) (by omega)]; congr 1; omega)
theorem Fr.cp {f t : Nat} {st : Nat → Int32} : Fr t st (cpv f t 40 st) := fun j hj => cpv_out (by omega)
