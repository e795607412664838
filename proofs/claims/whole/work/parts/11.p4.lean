-- copies of a gear; many steps
theorem GR.rows {B : Int} {b na ns nt : Nat} {st : Nat → Int32} {hand : Int32} {kind slack place turn way stroke kind' slack' place' turn' way' stroke' : Nat → Int32} (g : GR B b na ns nt st hand kind slack place turn way stroke) (h : ∀ a, a < na → kind' a = kind a ∧ slack' a = slack a ∧ place' a = place a ∧ turn' a = turn a ∧ way' a = way a) (h2 : ∀ i, i < ns → stroke' i = stroke i) : GR B b na ns nt st hand kind' slack' place' turn' way' stroke' := by
  obtain ⟨g1, g2, g3, g4, g5, g6, g7, g8, g9, g10⟩ := g
  refine ⟨g1, g2, g3, g4, g5, g6, g7, g8, fun a ha => ?_, fun i hi => ?_⟩
  · obtain ⟨e1, e2, e3, e4, e5⟩ := h a ha
    rw [e1, e2, e3, e4, e5]
    exact g9 a ha
  · rw [h2 i hi]
    exact g10 i hi
theorem cf110 {ns : Nat} (hns : ns ≤ 16) (oa os oh op : Int32) (oK oS oP oT oW oSt : Nat → Int32) (ar hd sp tv rv : Int32) (K S P T W : Nat → Int32) : ∀ (k i n : Nat) (St : Nat → Int32), i + k = ns → k < n → (∀ j, j < i → St j = oSt j) → ∃ St' : Nat → Int32, fX0_copyFrom_L110 oa os oh op oK oS oP oT oW oSt n (nI i) ar (nI ns) hd sp tv rv K S P T W St = some (ar, nI ns, hd, sp, 0, 0, K, S, P, T, W, St') ∧ ∀ j, j < ns → St' j = oSt j := by
  intro k
  induction k with
  | zero =>
    intro i n St hi hn hj
    obtain ⟨n, rfl⟩ : ∃ z, n = z + 1 := ⟨n - 1, by omega⟩
    have e : i = ns := by omega
    subst e
    refine ⟨St, ?_, hj⟩
    rw [fX0_copyFrom_L110]
    rw [if_pos (Int32.le_refl _)]
    rfl
  | succ k ih =>
    intro i n St hi hn hj
    obtain ⟨n, rfl⟩ : ∃ z, n = z + 1 := ⟨n - 1, by omega⟩
    obtain ⟨St', h1, h2⟩ := ih (i + 1) n (upd St i (oSt i)) (by omega) (by omega) (fun j h => by
      by_cases e : j = i
      · subst e; rw [upd_s]
      · rw [upd_n _ _ e]; exact hj j (by omega))
    refine ⟨St', ?_, h2⟩
    rw [fX0_copyFrom_L110]
    rw [if_neg (fun q => by have := (nI_leI (by omega) (by omega)).mp q; omega), chk_pos (xin_nI (by omega) (by omega)), bnd_s, chk_pos (xin_nI (by omega) (by omega)), bnd_s, bnd_s, nI_1, cN (by omega)]
    exact h1
theorem cf34 {na ns : Nat} (hna : na ≤ 4) (hns : ns ≤ 16) (oa os oh op : Int32) (oK oS oP oT oW oSt : Nat → Int32) (hd sp tv rv : Int32) (St : Nat → Int32) : ∀ (k i n : Nat) (K S P T W : Nat → Int32), i + k = na → k < n → (∀ j, j < i → K j = oK j ∧ S j = oS j ∧ P j = oP j ∧ T j = oT j ∧ W j = oW j) → ∃ K' S' P' T' W' St' : Nat → Int32, fX0_copyFrom_L34 oa os oh op oK oS oP oT oW oSt n (nI i) (nI na) (nI ns) hd sp tv rv K S P T W St = some (nI na, nI ns, hd, sp, 0, 0, K', S', P', T', W', St') ∧ (∀ j, j < na → K' j = oK j ∧ S' j = oS j ∧ P' j = oP j ∧ T' j = oT j ∧ W' j = oW j) ∧ ∀ j, j < ns → St' j = oSt j := by
  intro k
  induction k with
  | zero =>
    intro i n K S P T W hi hn hj
    obtain ⟨n, rfl⟩ : ∃ z, n = z + 1 := ⟨n - 1, by omega⟩
    have e : i = na := by omega
    subst e
    obtain ⟨St', h1, h2⟩ := cf110 hns oa os oh op oK oS oP oT oW oSt (nI i) hd sp tv rv K S P T W ns 0 xF St (by omega) (by show ns < 1000; omega) (fun j h => absurd h (by omega))
    refine ⟨K, S, P, T, W, St', ?_, hj, h2⟩
    rw [fX0_copyFrom_L34]
    rw [if_pos (Int32.le_refl _), ← nI_0]
    rw [← nI_0] at h1
    exact h1
  | succ k ih =>
    intro i n K S P T W hi hn hj
    obtain ⟨n, rfl⟩ : ∃ z, n = z + 1 := ⟨n - 1, by omega⟩
    obtain ⟨K', S', P', T', W', St', h1, h2, h3⟩ := ih (i + 1) n (upd K i (oK i)) (upd S i (oS i)) (upd P i (oP i)) (upd T i (oT i)) (upd W i (oW i)) (by omega) (by omega) (fun j h => by
      by_cases e : j = i
      · subst e; simp only [upd_s, and_self]
      · simp only [upd_n _ _ e]; exact hj j (by omega))
    refine ⟨K', S', P', T', W', St', ?_, h2, h3⟩
    rw [fX0_copyFrom_L34]
    rw [if_neg (fun q => by have := (nI_leI (by omega) (by omega)).mp q; omega)]
    simp only [chk_pos (xin_nI (show i < 4 by omega) (show i < 2 ^ 31 by omega)), bnd_s, nI_1, cN (show i < 1000000 by omega)]
    exact h1
/-- the class's copy: what is alive is as it was, the tallies are 0 -/
theorem copyFrom_c {na ns : Nat} (hna : na ≤ 4) (hns : ns ≤ 16) (ar sk hd sp tv rv : Int32) (K S P T W St : Nat → Int32) (oh op : Int32) (oK oS oP oT oW oSt : Nat → Int32) : ∃ K' S' P' T' W' St' : Nat → Int32, fX0_copyFrom ar sk hd sp tv rv K S P T W St (nI na) (nI ns) oh op oK oS oP oT oW oSt = some (nI na, nI ns, oh, op, 0, 0, K', S', P', T', W', St') ∧ (∀ j, j < na → K' j = oK j ∧ S' j = oS j ∧ P' j = oP j ∧ T' j = oT j ∧ W' j = oW j) ∧ ∀ j, j < ns → St' j = oSt j := by
  obtain ⟨K', S', P', T', W', St', h1, h2, h3⟩ := cf34 hna hns (nI na) (nI ns) oh op oK oS oP oT oW oSt oh op tv rv St na 0 xF K S P T W (by omega) (by show na < 1000; omega) (fun j h => absurd h (by omega))
  refine ⟨K', S', P', T', W', St', ?_, h2, h3⟩
  unfold fX0_copyFrom
  rw [← nI_0]
  rw [← nI_0] at h1
  exact h1
/-- the trial is the gear again -/
theorem copy_GR {B : Int} {b na ns nt : Nat} {st : Nat → Int32} {hand : Int32} {kind slack place turn way stroke : Nat → Int32} (g : GR B b na ns nt st hand kind slack place turn way stroke) (ar sk hd sp tv rv : Int32) (K S P T W St : Nat → Int32) : ∃ K' S' P' T' W' St' : Nat → Int32, fX0_copyFrom ar sk hd sp tv rv K S P T W St (nI na) (nI ns) hand (nI nt) kind slack place turn way stroke = some (nI na, nI ns, hand, nI nt, 0, 0, K', S', P', T', W', St') ∧ GR B b na ns nt st hand K' S' P' T' W' St' := by
  obtain ⟨K', S', P', T', W', St', h1, h2, h3⟩ := copyFrom_c g.1 g.2.1 ar sk hd sp tv rv K S P T W St hand (nI nt) kind slack place turn way stroke
  exact ⟨K', S', P', T', W', St', h1, g.rows h2 h3⟩
def itS (b : Nat) : Nat → (Nat → Int32) → (Nat → Int32)
  | 0, s => s
  | n + 1, s => itS b n (nx b s)
def dmI (b : Nat) : Nat → (Nat → Int32) → Int32
  | 0, _ => 0
  | n + 1, s => dmS b s + dmI b n (nx b s)
def dtI (b : Nat) : Nat → (Nat → Int32) → Int32
  | 0, _ => 0
  | n + 1, s => dtS b s + dtI b n (nx b s)
def mxv (w r : Int32) : Int32 := if r ≤ w then w else r
theorem imax_mxv (w r : Int32) : imax w r = mxv w r := by
  show (if w < r then r else w) = if r ≤ w then w else r
  by_cases h : w < r
  · rw [if_pos h, if_neg (Int32.not_le.mpr h)]
  · rw [if_neg h, if_pos (Int32.not_lt.mp h)]
def wI (b na : Nat) : Nat → (Nat → Int32) → Int32 → Int32
  | 0, _, w => w
  | n + 1, s, w => wI b na n (nx b s) (mxv w (errv b na (nx b s)))
theorem itS_succ (b : Nat) : ∀ (n : Nat) (s : Nat → Int32), itS b (n + 1) s = nx b (itS b n s)
  | 0, _ => rfl
  | n + 1, s => by
    show itS b (n + 1) (nx b s) = nx b (itS b n (nx b s))
    exact itS_succ b n (nx b s)
theorem steps_sim {b na ns : Nat} (hb : b + 40 ≤ 240) {kind slack stroke : Nat → Int32} : ∀ (k : Nat) (B : Int) (nt : Nat) (st : Nat → Int32) (hand : Int32) (place turn way : Nat → Int32), 0 ≤ B → B + 9 * k ≤ 1000000 → nt + k < 1000000 → GR B b na ns nt st hand kind slack place turn way stroke →
    Fr b st (itS b k st) ∧ ∃ place' turn' way' : Nat → Int32, (∀ (i N n : Nat) (tr rv : Int32), i + k = N → N < 1000000 → k < n → fX0_takeSteps_L2 (nI na) (nI ns) kind slack stroke n (nI N) (nI i) hand (nI nt) tr rv place turn way = some (itS b k st (b + 38), nI (nt + k), tr + dmI b k st, rv + dtI b k st, place', turn', way')) ∧
      (∀ (i N n : Nat) (w tr rv : Int32), i + k = N → N < 1000000 → k < n → fX0_greatestError_L4 (nI na) (nI ns) kind slack stroke n (nI N) w (nI i) hand (nI nt) tr rv place turn way = some (wI b na k st w, itS b k st (b + 38), nI (nt + k), tr + dmI b k st, rv + dtI b k st, place', turn', way')) ∧
      GR (B + 9 * k) b na ns (nt + k) (itS b k st) (itS b k st (b + 38)) kind slack place' turn' way' stroke := by
  intro k
  induction k with
  | zero =>
    intro B nt st hand place turn way hB0 hB hnt g
    refine ⟨Fr.rf, place, turn, way, fun i N n tr rv hi hN hn => ?_, fun i N n w tr rv hi hN hn => ?_, ?_⟩
    · obtain ⟨n, rfl⟩ : ∃ z, n = z + 1 := ⟨n - 1, by omega⟩
      have e : i = N := by omega
      subst e
      rw [fX0_takeSteps_L2]
      rw [if_pos (Int32.le_refl _)]
      show _ = some (st (b + 38), nI nt, tr + 0, rv + 0, place, turn, way)
      rw [Int32.add_zero, Int32.add_zero, ← g.2.2.2.2.2.1]
    · obtain ⟨n, rfl⟩ : ∃ z, n = z + 1 := ⟨n - 1, by omega⟩
      have e : i = N := by omega
      subst e
      rw [fX0_greatestError_L4]
      rw [if_pos (Int32.le_refl _)]
      show _ = some (w, st (b + 38), nI nt, tr + 0, rv + 0, place, turn, way)
      rw [Int32.add_zero, Int32.add_zero, ← g.2.2.2.2.2.1]
    · show GR (B + 9 * (0 : Nat)) b na ns nt st (st (b + 38)) kind slack place turn way stroke
      have g' := g.up (show B ≤ B + 9 * (0 : Nat) by omega)
      rw [← g.2.2.2.2.2.1]
      exact g'
  | succ k ih =>
    intro B nt st hand place turn way hB0 hB hnt g
    obtain ⟨h1, h2, p1, t1, w1, h3, h4⟩ := step_sim hB0 (by omega) hb (by omega) g
    obtain ⟨f1, p2, t2, w2, i1, i2, i3⟩ := ih (B + 9) (nt + 1) (nx b st) (nx b st (b + 38)) p1 t1 w1 (by omega) (by omega) (by omega) h4
    refine ⟨h2.tr f1, p2, t2, w2, fun i N n tr rv hi hN hn => ?_, fun i N n w tr rv hi hN hn => ?_, ?_⟩
    · obtain ⟨n, rfl⟩ : ∃ z, n = z + 1 := ⟨n - 1, by omega⟩
      rw [fX0_takeSteps_L2]
      rw [if_neg (fun q => by have := (nI_leI (by omega) (by omega)).mp q; omega), cl7_mk (h3 tr rv), bnd_s, nI_1, i1 (i + 1) N n _ _ (by omega) hN (by omega), Int32.add_assoc, Int32.add_assoc, show nt + 1 + k = nt + (k + 1) by omega]
      rfl
    · obtain ⟨n, rfl⟩ : ∃ z, n = z + 1 := ⟨n - 1, by omega⟩
      have he := (err_sim (by omega) (by omega) hb h4).2.1
      rw [fX0_greatestError_L4]
      rw [if_neg (fun q => by have := (nI_leI (by omega) (by omega)).mp q; omega), cl7_mk (h3 tr rv), he, cl1_s, bnd_s, bnd_s, nI_1, imax_mxv, i2 (i + 1) N n _ _ _ (by omega) hN (by omega), Int32.add_assoc, Int32.add_assoc, show nt + 1 + k = nt + (k + 1) by omega]
      rfl
    · rw [show nt + (k + 1) = nt + 1 + k by omega]
      have e : B + 9 * ((k + 1 : Nat) : Int) = B + 9 + 9 * (k : Int) := by omega
      rw [e]
      exact i3
/-- the reference's own row of steps on its page 160 -/
theorem go_r {na ns : Nat} : ∀ (k : Nat) (B : Int) (nt : Nat) (st : Nat → Int32) (hand : Int32) (kind slack place turn way stroke : Nat → Int32), 0 ≤ B → B + 9 * k ≤ 1000000 → nt + k < 1000000 → GR B 160 na ns nt st hand kind slack place turn way stroke → ∀ (i N n : Nat) (m t w : Int32), i + k = N → N < 1000000 → k < n → fX5_stepsGo_L25 n (nI N) (nI i) m t w st = some (errv 160 na (itS 160 k st), m + dmI 160 k st, t + dtI 160 k st, wI 160 na k st w, itS 160 k st) := by
  intro k
  induction k with
  | zero =>
    intro B nt st hand kind slack place turn way stroke hB0 hB hnt g i N n m t w hi hN hn
    obtain ⟨n, rfl⟩ : ∃ z, n = z + 1 := ⟨n - 1, by omega⟩
    have e : i = N := by omega
    subst e
    rw [fX5_stepsGo_L25]
    rw [if_pos (Int32.le_refl _)]
    have he : fX5_errorOn (nI 160) st = _ := (err_sim hB0 (by omega) (by decide) g).1
    rw [show (160 : Int32) = nI 160 from rfl, he, cl1_s]
    show _ = some (errv 160 na st, m + 0, t + 0, w, st)
    rw [Int32.add_zero, Int32.add_zero]
  | succ k ih =>
    intro B nt st hand kind slack place turn way stroke hB0 hB hnt g i N n m t w hi hN hn
    obtain ⟨n, rfl⟩ : ∃ z, n = z + 1 := ⟨n - 1, by omega⟩
    obtain ⟨h1, h2, p1, t1, w1, h3, h4⟩ := step_sim hB0 (by omega) (by decide) (by omega) g
    have he := (err_sim (by omega) (by omega) (by decide) h4).1
    rw [fX5_stepsGo_L25]
    rw [if_neg (fun q => by have := (nI_leI (by omega) (by omega)).mp q; omega), show (160 : Int32) = nI 160 from rfl, cl3_mk (h1 m t), he, cl1_s]
    unfold fX5_stepsGo_L66
    rw [bnd_s, bnd_s, nI_1]
    have key : ∀ z : Int32, z = mxv w (errv 160 na (nx 160 st)) → fX5_stepsGo_L25 n (nI N) (nI (i + 1)) (m + dmS 160 st) (t + dtS 160 st) z (nx 160 st) = some (errv 160 na (itS 160 (k + 1) st), m + dmI 160 (k + 1) st, t + dtI 160 (k + 1) st, wI 160 na (k + 1) st w, itS 160 (k + 1) st) := by
      intro z hz
      rw [ih (B + 9) (nt + 1) (nx 160 st) _ kind slack p1 t1 w1 stroke (by omega) (by omega) (by omega) h4 (i + 1) N n _ _ _ (by omega) hN (by omega), hz, Int32.add_assoc, Int32.add_assoc]
      rfl
    split
    · exact key _ (by unfold mxv; rw [if_pos (by assumption)])
    · exact key _ (by unfold mxv; rw [if_neg (by assumption)])
theorem stepsGo_r {B : Int} (hB0 : 0 ≤ B) {b na ns nt N : Nat} (hb : b + 40 ≤ 160 ∨ (200 ≤ b ∧ b + 40 ≤ 240)) (hB : B + 9 * N ≤ 1000000) (hnt : nt + N < 1000000) (hN : N ≤ 900) {st : Nat → Int32} {hand : Int32} {kind slack place turn way stroke : Nat → Int32} (g : GR B b na ns nt st hand kind slack place turn way stroke) (m t w : Int32) : fX5_stepsGo (nI b) (nI N) m t w st = some (errv 160 na (itS 160 N (cpv b 160 40 st)), dmI 160 N (cpv b 160 40 st), dtI 160 N (cpv b 160 40 st), wI 160 na N (cpv b 160 40 st) 0, itS 160 N (cpv b 160 40 st)) := by
  unfold fX5_stepsGo
  rw [show (160 : Int32) = nI 160 from rfl, copies_r (by omega) (by decide) (by omega), cl1_s]
  have := go_r N B nt (cpv b 160 40 st) hand kind slack place turn way stroke hB0 hB hnt (g.cp 160) 0 N xF 0 0 0 (by omega) (by omega) (by show N < 1000; omega)
  rw [nI_0] at this
  rw [this, Int32.zero_add, Int32.zero_add]
/-- what a page's steps give depends on the page alone: the same from another place -/
theorem steps5_r {na ns : Nat} : ∀ (k : Nat) (B : Int) (nt : Nat) (st : Nat → Int32) (hand : Int32) (kind slack place turn way stroke : Nat → Int32), 0 ≤ B → B + 9 * k ≤ 1000000 → nt + k < 1000000 → GR B 0 na ns nt st hand kind slack place turn way stroke → ∀ (i N n : Nat) (m t : Int32), i + k = N → N < 1000000 → k < n → fX5_steps_L39 n (nI N) (nI i) m t st = some (m + dmI 0 k st, m + dmI 0 k st, t + dtI 0 k st, itS 0 k st) := by
  intro k
  induction k with
  | zero =>
    intro B nt st hand kind slack place turn way stroke hB0 hB hnt g i N n m t hi hN hn
    obtain ⟨n, rfl⟩ : ∃ z, n = z + 1 := ⟨n - 1, by omega⟩
    have e : i = N := by omega
    subst e
    rw [fX5_steps_L39]
    rw [if_pos (Int32.le_refl _)]
    show _ = some (m + 0, m + 0, t + 0, st)
    rw [Int32.add_zero, Int32.add_zero]
  | succ k ih =>
    intro B nt st hand kind slack place turn way stroke hB0 hB hnt g i N n m t hi hN hn
    obtain ⟨n, rfl⟩ : ∃ z, n = z + 1 := ⟨n - 1, by omega⟩
    obtain ⟨h1, h2, p1, t1, w1, h3, h4⟩ := step_sim hB0 (by omega) (by decide) (by omega) g
    rw [fX5_steps_L39]
    rw [if_neg (fun q => by have := (nI_leI (by omega) (by omega)).mp q; omega)]
    have h1' := h1 m t
    rw [nI_0] at h1'
    rw [cl3_mk h1', bnd_s, nI_1, ih (B + 9) (nt + 1) (nx 0 st) _ kind slack p1 t1 w1 stroke (by omega) (by omega) (by omega) h4 (i + 1) N n _ _ (by omega) hN (by omega), Int32.add_assoc, Int32.add_assoc]
    rfl
