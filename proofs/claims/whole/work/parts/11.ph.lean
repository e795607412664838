-- questions: ask
def bitv (x : Int32) (v : Nat) : Int32 := (x >>> (nI v &&& 31)) &&& 1
theorem bit01 (x : Int32) (v : Nat) : bitv x v = 0 ∨ bitv x v = 1 := by
  obtain ⟨j, hj, e⟩ := pk_andE (x >>> (nI v &&& 31)) (m := 1) 1 (by decide)
  unfold bitv
  rw [e]
  rcases (by omega : j = 0 ∨ j = 1) with rfl | rfl
  · exact Or.inl rfl
  · exact Or.inr rfl
def sbv (x : Int32) : Nat → Nat → Int32 → Int32
  | _, 0, acc => acc
  | v, q + 1, acc => sbv x (v + 1) q (acc + bitv x v)
theorem bc_all : ∀ z, z < 1024 → fJ6_bitCount_0f7a4 (nI z) = some (sbv (nI z) 0 10 0) := by decide +kernel
theorem imax_n {a b : Nat} (ha : a < 1000) (hb : b < 1000) : imax (nI a) (nI b) = nI (max a b) := by
  rw [imax_mxv]
  unfold mxv
  by_cases u : nI b ≤ nI a
  · have := (nI_leI (by omega) (by omega)).mp u
    rw [if_pos u, Nat.max_eq_left this]
  · have h1 : ¬ b ≤ a := fun q => u ((nI_leI (by omega) (by omega)).mpr q)
    rw [if_neg u, Nat.max_eq_right (by omega)]
theorem ix41 (v k : Nat) : (41 : Int32) * nI v + nI k = nI (41 * v + k) := by rw [show (41 : Int32) * nI v = nI (41 * v) from pk_mul 41 v, nI_add]
theorem ix41' (v k : Nat) : nI v * (41 : Int32) + nI k = nI (41 * v + k) := by rw [show nI v * (41 : Int32) = nI (v * 41) from pk_mul v 41, nI_add, Nat.mul_comm]
section ALIKE
variable {looks lb : Nat → Int32} {x : Int32} {k : Nat}
theorem alike_in (hk : k ≤ 40) (hE : ∀ v, v ≤ 9 → bitv x v = 1 → looks (41 * v + k) = lb (41 * v + k)) {v : Nat} (hv : v ≤ 9) (hb : bitv x v = 1) (x3 : Int32) (n1' n2' : Nat) : ∀ (q w n1 n2 c : Nat), w + q = 10 → q < n1 → q < n2 → c ≤ w → ∃ c', c' ≤ 10 ∧ fX4_mostAlikeBehind_L30 looks (fX4_mostAlikeBehind_L5 looks n1') n1 (nI k) x x3 (nI v) (nI c) (nI w) = fX4_mostAlikeBehind_L5 looks n1' (nI k) x (imax x3 (nI c')) (nI (v + 1)) ∧ fX5_worstAt_L18 lb (fX5_worstAt_L5 lb n2') n2 x (nI k) x3 (nI v) (nI c) (nI w) = fX5_worstAt_L5 lb n2' x (nI k) (mxv x3 (nI c')) (nI (v + 1)) := by
  intro q
  induction q with
  | zero =>
    intro w n1 n2 c hw hn1 hn2 hc
    obtain ⟨n1, rfl⟩ : ∃ z, n1 = z + 1 := ⟨n1 - 1, by omega⟩
    obtain ⟨n2, rfl⟩ : ∃ z, n2 = z + 1 := ⟨n2 - 1, by omega⟩
    have e : w = 10 := by omega
    subst e
    refine ⟨c, hc, ?_, ?_⟩
    · rw [fX4_mostAlikeBehind_L30]
      unfold fX4_mostAlikeBehind_L87
      rw [if_pos (show (9 : Int32) < nI 10 by decide), bnd_s, bnd_s, nI_1]
    · rw [fX5_worstAt_L18]
      unfold fX5_worstAt_L88 fX5_worstAt_L100 mxv
      rw [if_pos (show (9 : Int32) < nI 10 by decide), bnd_s, bnd_s, nI_1]
      split <;> rfl
  | succ q ih =>
    intro w n1 n2 c hw hn1 hn2 hc
    obtain ⟨n1, rfl⟩ : ∃ z, n1 = z + 1 := ⟨n1 - 1, by omega⟩
    obtain ⟨n2, rfl⟩ : ∃ z, n2 = z + 1 := ⟨n2 - 1, by omega⟩
    have h9 : ¬ (9 : Int32) < nI w := fun q => by have := (nI_ltI (a := 9) (by omega) (by omega)).mp q; omega
    obtain ⟨c1, i1, i2, i3⟩ := ih (w + 1) n1 n2 c (by omega) (by omega) (by omega) (by omega)
    obtain ⟨c2, j1, j2, j3⟩ := ih (w + 1) n1 n2 (c + 1) (by omega) (by omega) (by omega) (by omega)
    have bv : (x >>> (nI v &&& 31)) &&& 1 = 1 := hb
    rw [fX4_mostAlikeBehind_L30, fX5_worstAt_L18]
    unfold fX4_mostAlikeBehind_L74 fX5_worstAt_L78 fX5_worstAt_L79 fX4_lookIndex
    rw [if_neg h9, if_neg h9, if_pos bv]
    simp only [cl1_s, bnd_s, ix41, ix41', nI_1, Int32.add_zero, chk_pos (xin_nI (show 41 * v + k < 410 by omega) (show 41 * v + k < 2 ^ 31 by omega)), chk_pos (xin_nI (show 41 * w + k < 410 by omega) (show 41 * w + k < 2 ^ 31 by omega)), cN (show 41 * v + k < 1000000 by omega), cN (show 41 * w + k < 1000000 by omega)]
    rcases bit01 x w with b0 | b1
    · have bw : (x >>> (nI w &&& 31)) &&& 1 = 0 := b0
      rw [if_pos bw, if_neg (show ¬ (x >>> (nI w &&& 31)) &&& 1 = 1 by rw [bw]; decide)]
      exact ⟨c1, i1, i2, i3⟩
    · have bw : (x >>> (nI w &&& 31)) &&& 1 = 1 := b1
      rw [if_neg (show ¬ (x >>> (nI w &&& 31)) &&& 1 = 0 by rw [bw]; decide), if_pos bw, hE v hv hb, hE w (by omega) b1]
      by_cases u : lb (41 * w + k) = lb (41 * v + k)
      · rw [if_pos u, if_pos u.symm]
        exact ⟨c2, j1, j2, j3⟩
      · rw [if_neg u, if_neg (fun h => u h.symm)]
        exact ⟨c1, i1, i2, i3⟩
theorem alike_out (hk : k ≤ 40) (hE : ∀ v, v ≤ 9 → bitv x v = 1 → looks (41 * v + k) = lb (41 * v + k)) : ∀ (q v n1 n2 c : Nat), v + q = 10 → q < n1 → q < n2 → c ≤ 10 → ∃ r : Int32, fX4_mostAlikeBehind_L5 looks n1 (nI k) x (nI c) (nI v) = some r ∧ fX5_worstAt_L5 lb n2 x (nI k) (nI c) (nI v) = some r := by
  intro q
  induction q with
  | zero =>
    intro v n1 n2 c hv hn1 hn2 hc
    obtain ⟨n1, rfl⟩ : ∃ z, n1 = z + 1 := ⟨n1 - 1, by omega⟩
    obtain ⟨n2, rfl⟩ : ∃ z, n2 = z + 1 := ⟨n2 - 1, by omega⟩
    have e : v = 10 := by omega
    subst e
    rw [fX4_mostAlikeBehind_L5, fX5_worstAt_L5]
    rw [if_pos (show (9 : Int32) < nI 10 by decide), if_pos (show (9 : Int32) < nI 10 by decide)]
    exact ⟨_, rfl, rfl⟩
  | succ q ih =>
    intro v n1 n2 c hv hn1 hn2 hc
    obtain ⟨n1, rfl⟩ : ∃ z, n1 = z + 1 := ⟨n1 - 1, by omega⟩
    obtain ⟨n2, rfl⟩ : ∃ z, n2 = z + 1 := ⟨n2 - 1, by omega⟩
    have h9 : ¬ (9 : Int32) < nI v := fun q => by have := (nI_ltI (a := 9) (by omega) (by omega)).mp q; omega
    rw [fX4_mostAlikeBehind_L5, fX5_worstAt_L5]
    rw [if_neg h9, if_neg h9]
    rcases bit01 x v with b0 | b1
    · have bw : (x >>> (nI v &&& 31)) &&& 1 = 0 := b0
      rw [if_pos bw]
      show ∃ r : Int32, _ ∧ fX5_worstAt_L18 lb (fX5_worstAt_L5 lb n2) (999 + 1) x (nI k) (nI c) (nI v) 0 0 = some r
      rw [fX5_worstAt_L18]
      rw [if_neg (show ¬ (9 : Int32) < 0 by decide), if_neg (show ¬ (x >>> (nI v &&& 31)) &&& 1 = 1 by rw [bw]; decide)]
      unfold fX4_mostAlikeBehind_L87 fX5_worstAt_L88 fX5_worstAt_L100
      rw [if_pos (nI_pos' (by omega)), bnd_s, bnd_s, nI_1]
      exact ih (v + 1) n1 n2 c (by omega) (by omega) (by omega) hc
    · have bw : (x >>> (nI v &&& 31)) &&& 1 = 1 := b1
      rw [if_neg (show ¬ (x >>> (nI v &&& 31)) &&& 1 = 0 by rw [bw]; decide)]
      obtain ⟨c', i1, i2, i3⟩ := alike_in hk hE (show v ≤ 9 by omega) b1 (nI c) n1 n2 10 0 xF xF 0 (by omega) (by decide) (by decide) (by omega)
      rw [nI_0] at i2 i3
      rw [i2, i3, ← imax_mxv, imax_n (by omega) (by omega)]
      exact ih (v + 1) n1 n2 (max c c') (by omega) (by omega) (by omega) (Nat.max_le.mpr ⟨hc, i1⟩)
end ALIKE
section ASK
variable {i : Nat} {st : Nat → Int32} {arms strokes hand step : Int32} {kind slack place turn way stroke : Nat → Int32} {n : Nat} {sR aR pR seen : Nat → Int32}
theorem look_k {na ns a v : Nat} (hv : v ≤ 9) (x : Int32) {n1' : Nat} {K S R : Nat → Int32} (oa os oh op : Int32) (oK oS oP oT oW oR : Nat → Int32) : ∀ (q k nf : Nat) (B : Int) (nt : Nat) (s lk : Nat → Int32) (hd tv rv : Int32) (P T W : Nat → Int32), k + q = 41 → q < nf → 0 ≤ B → B + 9 * q ≤ 1000000 → nt + q < 1000000 → GR B 160 na ns nt s hd K S P T W R →
    ∃ (lk' : Nat → Int32) (ta ts th tp tv' rv' : Int32) (tK tS tP tT tW tR : Nat → Int32), fX4_lookAhead_L43 oa os oh op oK oS oP oT oW oR (fX4_lookAhead_L2 oa os oh op oK oS oP oT oW oR n1') nf (nI a) x (nI v) (nI k) lk (nI na) (nI ns) hd (nI nt) tv rv K S P T W R = fX4_lookAhead_L2 oa os oh op oK oS oP oT oW oR n1' (nI a) x (nI (v + 1)) lk' ta ts th tp tv' rv' tK tS tP tT tW tR ∧ (∀ j, j < q → lk' (41 * v + k + j) = leadv 160 (itS 160 j s) na) ∧ (∀ j, (j < 41 * v + k ∨ 41 * v + 41 ≤ j) → lk' j = lk j) := by
  intro q
  induction q with
  | zero =>
    intro k nf B nt s lk hd tv rv P T W hk hf hB0 hB hnt g
    obtain ⟨nf, rfl⟩ : ∃ z, nf = z + 1 := ⟨nf - 1, by omega⟩
    have e : k = 41 := by omega
    subst e
    rw [fX4_lookAhead_L43]
    unfold fX4_lookAhead_L81
    rw [if_pos (show (40 : Int32) < nI 41 by decide), bnd_s, nI_1]
    exact ⟨_, _, _, _, _, _, _, _, _, _, _, _, _, rfl, fun j hj => absurd hj (by omega), fun _ _ => rfl⟩
  | succ q ih =>
    intro k nf B nt s lk hd tv rv P T W hk hf hB0 hB hnt g
    obtain ⟨nf, rfl⟩ : ∃ z, nf = z + 1 := ⟨nf - 1, by omega⟩
    obtain ⟨h1, h2, p1, t1, w1, h3, h4⟩ := step_sim hB0 (by omega) (by decide) (by omega) g
    obtain ⟨lk', ta, ts, th, tp, tv', rv', tK, tS, tP, tT, tW, tR, i1, i2, i3⟩ := ih (k + 1) nf (B + 9) (nt + 1) (nx 160 s) (upd lk (41 * v + k) (leadv 160 s na)) (nx 160 s (160 + 38)) (tv + dmS 160 s) (rv + dtS 160 s) p1 t1 w1 (by omega) (by omega) (by omega) (by omega) (by omega) h4
    rw [fX4_lookAhead_L43]
    unfold fX4_lookIndex
    rw [if_neg (show ¬ (40 : Int32) < nI k from fun q => by have := (nI_ltI (a := 40) (by omega) (by omega)).mp q; omega), cl1_s, last_c g, cl1_s, ix41', chk_pos (xin_nI (by omega) (by omega)), cN (by omega), bnd_s, cl7_mk (h3 tv rv), bnd_s, nI_1, i1]
    refine ⟨_, _, _, _, _, _, _, _, _, _, _, _, _, rfl, fun j hj => ?_, fun j hj => by rw [i3 j (by omega), upd_n _ _ (by omega)]⟩
    match j, hj with
    | 0, _ =>
      rw [i3 _ (by omega), Nat.add_zero, upd_s]
      rfl
    | j + 1, hj =>
      have := i2 j (by omega)
      rw [show 41 * v + (k + 1) + j = 41 * v + k + (j + 1) by omega] at this
      exact this
theorem look_v {B : Int} (hB0 : 0 ≤ B) {na ns nt a : Nat} (hB : B + 900 ≤ 1000000) (hnt : nt ≤ 9999) (ha : a < na) (x : Int32) (g : GR B 0 na ns nt st hand kind slack place turn way stroke) : ∀ (q v n1 : Nat) (lk : Nat → Int32) (ta ts th tp tv rv : Int32) (tK tS tP tT tW tR : Nat → Int32), v + q = 10 → q < n1 →
    ∃ lk' X, fX4_lookAhead_L2 (nI na) (nI ns) hand (nI nt) kind slack place turn way stroke n1 (nI a) x (nI v) lk ta ts th tp tv rv tK tS tP tT tW tR = some (lk', X) ∧ (∀ v' k, v ≤ v' → v' ≤ 9 → k ≤ 40 → bitv x v' = 1 → lk' (41 * v' + k) = Lk st (4 + a) na v' k) ∧ (∀ j, j < 41 * v → lk' j = lk j) := by
  intro q
  induction q with
  | zero =>
    intro v n1 lk ta ts th tp tv rv tK tS tP tT tW tR hv hn1
    obtain ⟨n1, rfl⟩ : ∃ z, n1 = z + 1 := ⟨n1 - 1, by omega⟩
    have e : v = 10 := by omega
    subst e
    rw [fX4_lookAhead_L2]
    rw [if_pos (show (9 : Int32) < nI 10 by decide)]
    exact ⟨_, _, rfl, fun v' k h1 h2 => absurd h1 (by omega), fun _ _ => rfl⟩
  | succ q ih =>
    intro v n1 lk ta ts th tp tv rv tK tS tP tT tW tR hv hn1
    obtain ⟨n1, rfl⟩ : ∃ z, n1 = z + 1 := ⟨n1 - 1, by omega⟩
    have h9 : ¬ (9 : Int32) < nI v := fun q => by have := (nI_ltI (a := 9) (by omega) (by omega)).mp q; omega
    rw [fX4_lookAhead_L2]
    rw [if_neg h9]
    rcases bit01 x v with b0 | b1
    · have bw : (x >>> (nI v &&& 31)) &&& 1 = 0 := b0
      rw [if_pos bw]
      unfold fX4_lookAhead_L81
      rw [bnd_s, nI_1]
      obtain ⟨lk', X, i1, i2, i3⟩ := ih (v + 1) n1 lk ta ts th tp tv rv tK tS tP tT tW tR (by omega) (by omega)
      refine ⟨lk', X, i1, fun v' k h1 h2 h3 h4 => ?_, fun j hj => i3 j (by omega)⟩
      by_cases u : v' = v
      · subst u
        rw [b0] at h4
        exact absurd h4 d01
      · exact i2 v' k (by omega) h2 h3 h4
    · have bw : (x >>> (nI v &&& 31)) &&& 1 = 1 := b1
      rw [if_neg (show ¬ (x >>> (nI v &&& 31)) &&& 1 = 0 by rw [bw]; decide)]
      obtain ⟨K', S', P', T', W', R', e1, g1⟩ := copy_GR g ta ts th tp tv rv tK tS tP tT tW tR
      obtain ⟨K2, S2, e2, g2⟩ := hchS ha v K' S' P' T' W' R' (by omega) g1
      have g5 : GR B 160 na ns nt (pgv st (4 + a) v) hand K2 S2 P' T' W' R' := g2.cp 160
      obtain ⟨lk1, ua, us, uh, up, uv, uw, uK, uS, uP, uT, uW, uR, f1, f2, f3⟩ := look_k (n1' := n1) (a := a) (show v ≤ 9 by omega) x (nI na) (nI ns) hand (nI nt) kind slack place turn way stroke 41 0 xF B nt (pgv st (4 + a) v) lk hand 0 0 P' T' W' (by omega) (by decide) hB0 (by omega) (by omega) g5
      rw [nI_0] at f1
      rw [cl12_mk e1, cl3_mk e2, f1]
      obtain ⟨lk', X, i1, i2, i3⟩ := ih (v + 1) n1 lk1 ua us uh up uv uw uK uS uP uT uW uR (by omega) (by omega)
      refine ⟨lk', X, i1, fun v' k h1 h2 h3 h4 => ?_, fun j hj => by rw [i3 j (by omega), f3 j (by omega)]⟩
      by_cases u : v' = v
      · subst u
        have := f2 k (by omega)
        rw [Nat.add_zero] at this
        rw [i3 _ (by omega), this]
        rfl
      · exact i2 v' k (by omega) h2 h3 h4
theorem ask_sum (x a2 m t : Int32) (s lb : Nat → Int32) (many : Int32) : ∀ (q v nf : Nat) (acc : Int32), v + q = 10 → q < nf → fX5_ask_L36 many seen nf a2 x acc (nI v) m t s lb = fX5_ask_L67 many seen xF a2 x (sbv x v q acc) (-4) 0 m t s lb := by
  intro q
  induction q with
  | zero =>
    intro v nf acc hv hf
    obtain ⟨nf, rfl⟩ : ∃ z, nf = z + 1 := ⟨nf - 1, by omega⟩
    have e : v = 10 := by omega
    subst e
    rw [fX5_ask_L36]
    rw [if_pos (show (9 : Int32) < nI 10 by decide)]
    rfl
  | succ q ih =>
    intro v nf acc hv hf
    obtain ⟨nf, rfl⟩ : ∃ z, nf = z + 1 := ⟨nf - 1, by omega⟩
    rw [fX5_ask_L36]
    rw [if_neg (show ¬ (9 : Int32) < nI v from fun q => by have := (nI_ltI (a := 9) (by omega) (by omega)).mp q; omega), bnd_s, bnd_s, nI_1, ih (v + 1) nf _ (by omega) (by omega)]
    rfl
theorem ask_loop {lk lb : Nat → Int32} {x : Int32} (hE : ∀ v k, v ≤ 9 → k ≤ 40 → bitv x v = 1 → lk (41 * v + k) = lb (41 * v + k)) (a2 m t many size : Int32) (s : Nat → Int32) (oa os oh op : Int32) (oK oS oP oT oW oR : Nat → Int32) (ta ts th tp tv rv : Int32) (tK tS tP tT tW tR : Nat → Int32) : ∀ (q k n1 n2 : Nat) (x4 x5 : Int32), k + q = 41 → q < n1 → q < n2 → ∃ qr, fX4_ask_L43 oa os oh op oK oS oP oT oW oR size sR aR pR n1 a2 x x4 x5 (nI k) lk ta ts th tp tv rv tK tS tP tT tW tR = some (qr, lk, ta, ts, th, tp, tv, rv, tK, tS, tP, tT, tW, tR) ∧ fX5_ask_L67 many seen n2 a2 x x4 x5 (nI k) m t s lb = some (qr, m, t, s, lb) := by
  intro q
  induction q with
  | zero =>
    intro k n1 n2 x4 x5 hk hn1 hn2
    obtain ⟨n1, rfl⟩ : ∃ z, n1 = z + 1 := ⟨n1 - 1, by omega⟩
    obtain ⟨n2, rfl⟩ : ∃ z, n2 = z + 1 := ⟨n2 - 1, by omega⟩
    have e : k = 41 := by omega
    subst e
    rw [fX4_ask_L43, fX5_ask_L67]
    rw [if_pos (show (40 : Int32) < nI 41 by decide), if_pos (show (40 : Int32) < nI 41 by decide), end_sw]
    split
    · exact ⟨_, rfl, rfl⟩
    · split
      · exact ⟨_, rfl, rfl⟩
      · exact ⟨_, rfl, rfl⟩
  | succ q ih =>
    intro k n1 n2 x4 x5 hk hn1 hn2
    obtain ⟨n1, rfl⟩ : ∃ z, n1 = z + 1 := ⟨n1 - 1, by omega⟩
    obtain ⟨n2, rfl⟩ : ∃ z, n2 = z + 1 := ⟨n2 - 1, by omega⟩
    have h40 : ¬ (40 : Int32) < nI k := fun q => by have := (nI_ltI (a := 40) (by omega) (by omega)).mp q; omega
    obtain ⟨r, r1, r2⟩ := alike_out (k := k) (by omega) (fun v hv hb => hE v k hv (by omega) hb) 10 0 xF xF 0 (by omega) (by decide) (by decide) (by omega)
    rw [nI_0] at r1 r2
    have r1' : fX4_mostAlikeBehind (nI k) x lk = some r := r1
    have r2' : fX5_worstAt x (nI k) lb = some r := r2
    rw [fX4_ask_L43, fX5_ask_L67]
    unfold fX4_ask_L74 fX5_ask_L97 fX5_ask_L113
    rw [if_neg h40, if_neg h40, r1', r2', cl1_s, cl1_s]
    simp only [bnd_s, nI_1]
    by_cases u : x4 ≤ r
    · rw [if_pos u, if_pos u, if_pos u]
      exact ih (k + 1) n1 n2 x4 x5 (by omega) (by omega) (by omega)
    · rw [if_neg u, if_neg u, if_neg u]
      exact ih (k + 1) n1 n2 r (nI k) (by omega) (by omega) (by omega)
theorem op_ask (a1 a2 m t : Int32) (lb lk : Nat → Int32) (ta ts th tp tv rv : Int32) (tK tS tP tT tW tR : Nat → Int32) {size many : Int32} (hi : i < 512) (hN : RN i st arms strokes hand step kind slack place turn way stroke) (hS : RS size sR aR pR many seen) : ∃ qr T m' t' st' lb', fX4_ask a1 a2 lk arms strokes hand step kind slack place turn way stroke ta ts th tp tv rv tK tS tP tT tW tR size sR aR pR = some (qr, T) ∧ fX5_ask a1 a2 m t many st seen lb = some (qr, m', t', st', lb') ∧ FrL st st' := by
  obtain ⟨na, ns, nt, rfl, rfl, rfl, hnt, g⟩ := hN
  obtain ⟨n, rfl, rfl, hs, hr⟩ := hS.ok
  have h20 : st 20 = nI na := by have := g.2.2.1; rw [Nat.zero_add] at this; exact this
  have hna := g.1
  unfold fX4_ask fX5_ask
  rw [ia_eq, gate, fs_eq, gate, ma_eq, h20, gate, in_eq a2 0 1 0 1 rfl rfl, gate]
  by_cases c : 0 ≤ a1 ∧ a1 ≤ nI na - 1
  · simp only [if_pos c]
    by_cases c2 : 0 ≤ a2 ∧ a2 ≤ 1
    · simp only [if_pos c2]
      obtain ⟨k, hk, rfl⟩ := of_idx (by omega) c.1 c.2
      obtain ⟨z', m', t', st', lb', ⟨X, r1⟩, r2, r3, r4, r5, -⟩ := num_loop (B := 900 * (i : Int)) (by omega) (a := k) (c := 4 + k) (top := 9) (by omega) hnt (by omega) (by omega) (by decide) 1 rfl hs hr g (hchS hk) 10 0 xF xF 0 (cpv 0 200 40 st) lb m t ta ts th tp tv rv tK tS tP tT tW tR (by omega) (by decide) (by decide) (by decide) (fun j hj => cpv_out (by omega)) (fun j hj _ => by rw [cpv_in (by omega) (by omega), show 0 + (200 + j - 200) = j by omega])
      rw [nI_0] at r1 r2
      have hcp : fX5_copies 0 200 st = some (cpv 0 200 40 st) := copies_r (f := 0) (t := 200) (by decide) (by decide) (by decide) st
      have r2' : fX5_numbersAt (nI (4 + k)) 10 m t (nI n) st seen lb = some (nI z', m', t', st', lb') := by
        unfold fX5_numbersAt
        rw [hcp, cl1_s]
        exact r2
      obtain ⟨x1, x2, x3, x4, x5, x6, x7, x8, x9, x10, x11, x12⟩ := X
      have r1' : fX4_settingsAsSeen (nI k) 1 (nI na) (nI ns) hand (nI nt) kind slack place turn way stroke ta ts th tp tv rv tK tS tP tT tW tR (nI n) sR aR pR = _ := r1
      obtain ⟨lk', Y, l1, l2, -⟩ := look_v (B := 900 * (i : Int)) (by omega) (by omega) hnt hk (nI z') g 10 0 xF lk x1 x2 x3 x4 x5 x6 x7 x8 x9 x10 x11 x12 (by omega) (by decide)
      rw [nI_0] at l1
      obtain ⟨y1, y2, y3, y4, y5, y6, y7, y8, y9, y10, y11, y12⟩ := Y
      have l1' : fX4_lookAhead (nI k) (nI z') lk (nI na) (nI ns) hand (nI nt) kind slack place turn way stroke x1 x2 x3 x4 x5 x6 x7 x8 x9 x10 x11 x12 = _ := l1
      have hsum := ask_sum (seen := seen) (nI z') a2 m' t' st' lb' (nI n) 10 0 xF 0 (by omega) (by decide)
      obtain ⟨qr, q1, q2⟩ := ask_loop (sR := sR) (aR := aR) (pR := pR) (seen := seen) (lk := lk') (lb := lb') (x := nI z') (fun v k' hv hk' hb => by rw [l2 v k' (by omega) hv hk' hb, r5 v k' (by omega) hv hk']) a2 m' t' (nI n) (nI n) st' (nI na) (nI ns) hand (nI nt) kind slack place turn way stroke y1 y2 y3 y4 y5 y6 y7 y8 y9 y10 y11 y12 41 0 xF xF (sbv (nI z') 0 10 0) (-4) (by omega) (by decide) (by decide)
      rw [nI_0] at hsum q1 q2
      rw [show (4 : Int32) + nI k = nI (4 + k) from nI_add 4 k, cl13_mk r1', cl5_mk r2', cl13_mk l1', bc_all z' r3, cl1_s, hsum, q1, q2]
      exact ⟨_, _, _, _, _, _, rfl, rfl, r4⟩
    · simp only [if_neg c2]
      exact ⟨_, _, _, _, _, _, rfl, rfl, FrL.rf⟩
  · simp only [if_neg c]
    exact ⟨_, _, _, _, _, _, rfl, rfl, FrL.rf⟩
end ASK
