-- questions: kinds, slacks
def okE (seen : Nat → Int32) (na k : Nat) (s : Nat → Int32) (e : Nat) : Prop := seen (3 * e) = nI k → ∃ a, a < na ∧ seen (3 * e + 1) = nI a ∧ s (168 + a) = seen (3 * e + 2)
def okK (seen : Nat → Int32) (n na k : Nat) (s : Nat → Int32) : Prop := ∀ e, e < n → okE seen na k s e
def SeenOk (seen : Nat → Int32) (n : Nat) : Prop := n ≤ 6 ∧ ∀ j, j < n → (∃ k : Nat, k ≤ 40 ∧ seen (3 * j) = nI k) ∧ (∃ k : Nat, k < 4 ∧ seen (3 * j + 1) = nI k)
theorem okE_iff {seen : Nat → Int32} {na k e a : Nat} {s : Nat → Int32} (ha : a < 4) (hna : na ≤ 4) (h : seen (3 * e + 1) = nI a) : okE seen na k s e ↔ (seen (3 * e) = nI k → a < na ∧ s (168 + a) = seen (3 * e + 2)) := by
  unfold okE
  constructor
  · intro q h1
    obtain ⟨a', q1, q2, q3⟩ := q h1
    have e' : a = a' := (nI_eq (by omega) (by omega)).mp (h.symm.trans q2)
    subst e'
    exact ⟨q1, q3⟩
  · intro q h1
    obtain ⟨q1, q2⟩ := q h1
    exact ⟨a, q1, h, q2⟩
theorem allE_s {P : Nat → Prop} {e n : Nat} (he : e < n) : (∀ e', e ≤ e' → e' < n → P e') ↔ P e ∧ ∀ e', e + 1 ≤ e' → e' < n → P e' := by
  constructor
  · intro h
    exact ⟨h e (Nat.le_refl _) he, fun e' h1 h2 => h e' (by omega) h2⟩
  · intro h e' h1 h2
    by_cases q : e' = e
    · subst q; exact h.1
    · exact h.2 e' (by omega) h2
theorem L117_r {n n1 nf v k e : Nat} (he : e < n) (hn : n ≤ 6) (seen : Nat → Int32) {x3 y0 : Int32} (hx : x3 = 1 ∨ x3 = 0) (hy : y0 = 1 ∨ y0 = 0) (m t : Int32) (s lb : Nat → Int32) : ∃ z : Int32, (z = 1 ∨ z = 0) ∧ (z = 1 ↔ x3 = 1 ∧ (seen (3 * e) = nI k → y0 = 1)) ∧ fX5_isAsSeen_L117 (nI n) seen (fX5_isAsSeen_L13 (nI n) seen n1) (fX5_isAsSeen_L53 (nI n) seen (fX5_isAsSeen_L13 (nI n) seen n1) nf) (nI v) x3 (nI k) (nI e) y0 m t s lb = fX5_isAsSeen_L53 (nI n) seen (fX5_isAsSeen_L13 (nI n) seen n1) nf (nI v) z (nI k) (nI (e + 1)) m t s lb := by
  unfold fX5_isAsSeen_L117 fX5_isAsSeen_L146 fX5_isAsSeen_L142 fX5_isAsSeen_L147
  have m3 : (3 : Int32) * nI e = nI (3 * e) := pk_mul 3 e
  simp only [bnd_s, nI_1, m3, chk_pos (xin_nI (show 3 * e < 18 by omega) (show 3 * e < 2 ^ 31 by omega)), cN (show 3 * e < 1000000 by omega)]
  rcases hx with rfl | rfl
  · rw [if_neg d10]
    by_cases u : seen (3 * e) = nI k
    · rw [if_pos u]
      rcases hy with rfl | rfl
      · rw [if_neg d10]
        exact ⟨1, Or.inl rfl, ⟨fun _ => ⟨rfl, fun _ => rfl⟩, fun _ => rfl⟩, rfl⟩
      · rw [if_pos rfl]
        exact ⟨0, Or.inr rfl, ⟨fun h => absurd h d01, fun h => absurd (h.2 u) d01⟩, rfl⟩
    · rw [if_neg u]
      exact ⟨1, Or.inl rfl, ⟨fun _ => ⟨rfl, fun h => absurd h u⟩, fun _ => rfl⟩, rfl⟩
  · rw [if_pos rfl]
    exact ⟨0, Or.inr rfl, ⟨fun h => absurd h d01, fun h => absurd h.1 d01⟩, rfl⟩
theorem isE_r {n n1 v k na : Nat} (hna : na ≤ 4) {seen : Nat → Int32} (hs : SeenOk seen n) (m t : Int32) {s : Nat → Int32} (lb : Nat → Int32) (h20 : s 20 = nI na) : ∀ (q e nf : Nat) (x3 : Int32), e + q = n → q < nf → (x3 = 1 ∨ x3 = 0) → ∃ z : Int32, (z = 1 ∨ z = 0) ∧ (z = 1 ↔ x3 = 1 ∧ ∀ e', e ≤ e' → e' < n → okE seen na k s e') ∧ fX5_isAsSeen_L53 (nI n) seen (fX5_isAsSeen_L13 (nI n) seen n1) nf (nI v) x3 (nI k) (nI e) m t s lb = cl3 (fX5_stepOn 160 0 m t s) (fun u11 u12 u13 => bnd (nI k + 1) (fun v15 => fX5_isAsSeen_L13 (nI n) seen n1 (nI v) z v15 u11 u12 u13 lb)) := by
  have c20 : xin (20 : Int32) 240 := by decide
  have hn := hs.1
  intro q
  induction q with
  | zero =>
    intro e nf x3 he hf hx
    obtain ⟨nf, rfl⟩ : ∃ z, nf = z + 1 := ⟨nf - 1, by omega⟩
    have e' : e = n := by omega
    subst e'
    refine ⟨x3, hx, ⟨fun h => ⟨h, fun e' h1 h2 => absurd h2 (by omega)⟩, fun h => h.1⟩, ?_⟩
    rw [fX5_isAsSeen_L53]
    rw [if_pos (Int32.le_refl _)]
  | succ q ih =>
    intro e nf x3 he hf hx
    obtain ⟨nf, rfl⟩ : ∃ z, nf = z + 1 := ⟨nf - 1, by omega⟩
    obtain ⟨-, a, ha, ea⟩ := hs.2 e (by omega)
    have m3 : (3 : Int32) * nI e = nI (3 * e) := pk_mul 3 e
    have m31 : nI (3 * e) + (1 : Int32) = nI (3 * e + 1) := nI_1 _
    have m32 : nI (3 * e) + (2 : Int32) = nI (3 * e + 2) := nI_add (3 * e) 2
    have key : ∀ y0 : Int32, (y0 = 1 ∨ y0 = 0) → (y0 = 1 ↔ a < na ∧ s (168 + a) = seen (3 * e + 2)) → ∃ z : Int32, (z = 1 ∨ z = 0) ∧ (z = 1 ↔ x3 = 1 ∧ ∀ e', e ≤ e' → e' < n → okE seen na k s e') ∧ fX5_isAsSeen_L117 (nI n) seen (fX5_isAsSeen_L13 (nI n) seen n1) (fX5_isAsSeen_L53 (nI n) seen (fX5_isAsSeen_L13 (nI n) seen n1) nf) (nI v) x3 (nI k) (nI e) y0 m t s lb = cl3 (fX5_stepOn 160 0 m t s) (fun u11 u12 u13 => bnd (nI k + 1) (fun v15 => fX5_isAsSeen_L13 (nI n) seen n1 (nI v) z v15 u11 u12 u13 lb)) := by
      intro y0 hy hyy
      obtain ⟨z1, w1, w2, w3⟩ := L117_r (n1 := n1) (nf := nf) (v := v) (k := k) (show e < n by omega) hn seen hx hy m t s lb
      obtain ⟨z, f1, f2, f3⟩ := ih (e + 1) nf z1 (by omega) (by omega) w1
      refine ⟨z, f1, ?_, w3.trans f3⟩
      rw [f2, w2, allE_s (show e < n by omega), okE_iff ha hna ea, hyy, and_assoc]
    rw [fX5_isAsSeen_L53]
    rw [if_neg (fun q => by have := (nI_leI (by omega) (by omega)).mp q; omega), m3, m31, m32, chk_pos (xin_nI (by omega) (by omega)), cN (by omega), bnd_s, ea, chk_pos c20, cl_20, h20, show (168 : Int32) + nI a = nI (168 + a) from nI_add 168 a, chk_pos (xin_nI (by omega) (by omega)), chk_pos (xin_nI (by omega) (by omega)), cN (by omega), cN (by omega)]
    by_cases u : nI na ≤ nI a
    · have u' := (nI_leI (by omega) (by omega)).mp u
      rw [if_pos u]
      exact key 0 (Or.inr rfl) ⟨fun h => absurd h d01, fun h => absurd h.1 (by omega)⟩
    · have u' : a < na := by
        have h1 : ¬ na ≤ a := fun q => u ((nI_leI (by omega) (by omega)).mpr q)
        omega
      rw [if_neg u]
      by_cases u2 : s (168 + a) = seen (3 * e + 2)
      · rw [if_pos u2]
        exact key 1 (Or.inl rfl) ⟨fun _ => ⟨u', u2⟩, fun _ => rfl⟩
      · rw [if_neg u2]
        exact key 0 (Or.inr rfl) ⟨fun h => absurd h d01, fun h => absurd h.2 u2⟩
theorem allJ_s {P : Nat → Prop} {q : Nat} : (∀ j, j < q + 1 → P j) ↔ P 0 ∧ ∀ j, j < q → P (j + 1) := by
  constructor
  · intro h
    exact ⟨h 0 (by omega), fun j hj => h (j + 1) (by omega)⟩
  · intro h j hj
    match j, hj with
    | 0, _ => exact h.1
    | j + 1, hj => exact h.2 j (by omega)
theorem isK_r {n v na ns : Nat} (hv : v ≤ 9) (hna1 : 1 ≤ na) {seen : Nat → Int32} (hs : SeenOk seen n) {K S R : Nat → Int32} : ∀ (q k nf : Nat) (B : Int) (nt : Nat) (s : Nat → Int32) (hd : Int32) (P T W : Nat → Int32) (x3 m t : Int32) (lb : Nat → Int32), k + q = 41 → q < nf → 0 ≤ B → B + 9 * q ≤ 1000000 → nt + q < 1000000 → GR B 160 na ns nt s hd K S P T W R → s 20 = nI na → (x3 = 1 ∨ x3 = 0) →
    ∃ (r m' t' : Int32) (s' lb' : Nat → Int32), fX5_isAsSeen_L13 (nI n) seen nf (nI v) x3 (nI k) m t s lb = some (r, m', t', s', lb') ∧ (r = 1 ∨ r = 0) ∧ (r = 1 ↔ x3 = 1 ∧ ∀ j, j < q → okK seen n na (k + j) (itS 160 j s)) ∧ (∀ j, j < q → lb' (41 * v + k + j) = leadv 160 (itS 160 j s) na) ∧ (∀ j, (j < 41 * v + k ∨ 41 * v + 41 ≤ j) → lb' j = lb j) ∧ Fr 160 s s' := by
  have c20 : xin (20 : Int32) 240 := by decide
  have hn := hs.1
  intro q
  induction q with
  | zero =>
    intro k nf B nt s hd P T W x3 m t lb hk hf hB0 hB hnt g h20 hx
    obtain ⟨nf, rfl⟩ : ∃ z, nf = z + 1 := ⟨nf - 1, by omega⟩
    have e : k = 41 := by omega
    subst e
    rw [fX5_isAsSeen_L13]
    rw [if_pos (show (40 : Int32) < nI 41 by decide), chk_pos (show xbz x3 from hx.symm)]
    exact ⟨_, _, _, _, _, rfl, hx, ⟨fun h => ⟨h, fun j hj => absurd hj (by omega)⟩, fun h => h.1⟩, fun j hj => absurd hj (by omega), fun _ _ => rfl, Fr.rf⟩
  | succ q ih =>
    intro k nf B nt s hd P T W x3 m t lb hk hf hB0 hB hnt g h20 hx
    obtain ⟨nf, rfl⟩ : ∃ z, nf = z + 1 := ⟨nf - 1, by omega⟩
    obtain ⟨h1, h2, p1, t1, w1, h3, h4⟩ := step_sim hB0 (by omega) (by decide) (by omega) g
    have hna := g.1
    have h20' : nx 160 s 20 = nI na := (h2 20 (by omega)).trans h20
    have el : leadv 160 s na = s (167 + na) := by
      unfold leadv
      rw [if_neg (by omega), show 160 + 8 + na - 1 = 167 + na by omega]
    obtain ⟨z, z1, z2, z3⟩ := isE_r (n1 := nf) (v := v) (k := k) hna hs m t (upd lb (41 * v + k) (s (167 + na))) h20 n 0 xF x3 (by omega) (by show n < 1000; omega) hx
    obtain ⟨r, m', t', s', lb', i1, i2, i3, i4, i5, i6⟩ := ih (k + 1) nf (B + 9) (nt + 1) (nx 160 s) (nx 160 s (160 + 38)) p1 t1 w1 z (m + dmS 160 s) (t + dtS 160 s) (upd lb (41 * v + k) (s (167 + na))) (by omega) (by omega) (by omega) (by omega) (by omega) h4 h20' z1
    rw [nI_0] at z3
    have s160 : fX5_stepOn 160 0 m t s = _ := h1 m t
    rw [fX5_isAsSeen_L13]
    rw [if_neg (show ¬ (40 : Int32) < nI k from fun q => by have := (nI_ltI (a := 40) (by omega) (by omega)).mp q; omega), chk_pos c20, cl_20, h20, show (168 : Int32) + nI na - 1 = nI (167 + na) from by rw [show (168 : Int32) + nI na = nI (168 + na) from nI_add 168 na, show (1 : Int32) = nI 1 from rfl, pk_sub (by omega)]; congr 1; omega, chk_pos (xin_nI (by omega) (by omega)), cN (by omega), bnd_s, show (41 : Int32) * nI v + nI k = nI (41 * v + k) from by rw [show (41 : Int32) * nI v = nI (41 * v) from pk_mul 41 v, nI_add], chk_pos (xin_nI (by omega) (by omega)), cN (by omega), bnd_s, z3, cl3_mk s160, bnd_s, nI_1, i1]
    refine ⟨_, _, _, _, _, rfl, i2, ?_, fun j hj => ?_, fun j hj => ?_, h2.tr i6⟩
    · rw [i3, z2, allJ_s]
      have e1 : (∀ e', 0 ≤ e' → e' < n → okE seen na k s e') ↔ okK seen n na (k + 0) (itS 160 0 s) := ⟨fun h e' h2 => h e' (Nat.zero_le _) h2, fun h e' _ h2 => h e' h2⟩
      rw [e1, and_assoc]
      have e2 : (∀ j, j < q → okK seen n na (k + 1 + j) (itS 160 j (nx 160 s))) ↔ ∀ j, j < q → okK seen n na (k + (j + 1)) (itS 160 (j + 1) s) := by
        constructor
        · intro h j hj
          have := h j hj
          rw [show k + 1 + j = k + (j + 1) by omega] at this
          exact this
        · intro h j hj
          have := h j hj
          rw [show k + (j + 1) = k + 1 + j by omega] at this
          exact this
      rw [e2]
    · match j, hj with
      | 0, _ =>
        rw [i5 _ (by omega), Nat.add_zero, upd_s]
        exact el.symm
      | j + 1, hj =>
        have := i4 j (by omega)
        rw [show 41 * v + (k + 1) + j = 41 * v + k + (j + 1) by omega] at this
        exact this
    · rw [i5 j (by omega), upd_n _ _ (by omega)]
section BEH
variable {n na ns : Nat} {size many : Int32} {sR aR pR seen : Nat → Int32}
theorem beh_c (hs : SeenOk seen n) (hr : ∀ j, j < n → sR j = seen (3 * j) ∧ aR j = seen (3 * j + 1) ∧ pR j = seen (3 * j + 2)) {s P : Nat → Int32} (hna : na ≤ 4) (hP : ∀ a, a < na → P a = s (168 + a)) (k : Nat) : ∀ (q e nf : Nat), e + q = n → q < nf → ∃ r : Int32, fX2_agreeBehind_L2 (nI n) sR aR pR (nI na) P nf (nI k) (nI e) = some r ∧ (r = 1 ∨ r = 0) ∧ (r = 1 ↔ ∀ e', e ≤ e' → e' < n → okE seen na k s e') := by
  have hn := hs.1
  intro q
  induction q with
  | zero =>
    intro e nf he hf
    obtain ⟨nf, rfl⟩ : ∃ z, nf = z + 1 := ⟨nf - 1, by omega⟩
    have e' : e = n := by omega
    subst e'
    rw [fX2_agreeBehind_L2]
    rw [if_pos (Int32.le_refl _)]
    exact ⟨1, rfl, Or.inl rfl, ⟨fun _ e' h1 h2 => absurd h2 (by omega), fun _ => rfl⟩⟩
  | succ q ih =>
    intro e nf he hf
    obtain ⟨nf, rfl⟩ : ∃ z, nf = z + 1 := ⟨nf - 1, by omega⟩
    obtain ⟨-, a, ha, ea⟩ := hs.2 e (by omega)
    obtain ⟨r1, r2, r3⟩ := hr e (by omega)
    obtain ⟨r, f1, f2, f3⟩ := ih (e + 1) nf (by omega) (by omega)
    rw [fX2_agreeBehind_L2]
    unfold fX2_agreeBehind_L58
    simp only [chk_pos (xin_nI (show e < 6 by omega) (show e < 2 ^ 31 by omega)), cN (show e < 1000000 by omega), bnd_s, nI_1, r1, r2, r3, ea, cN (show a < 1000000 by omega), chk_pos (xin_nI (show a < 4 by omega) (show a < 2 ^ 31 by omega))]
    rw [if_neg (fun q => by have := (nI_leI (by omega) (by omega)).mp q; omega), allE_s (show e < n by omega), okE_iff ha hna ea, f1]
    by_cases u : seen (3 * e) = nI k
    · rw [if_pos u]
      by_cases u2 : nI na ≤ nI a
      · have u' := (nI_leI (by omega) (by omega)).mp u2
        rw [if_pos u2]
        exact ⟨0, rfl, Or.inr rfl, ⟨fun h => absurd h d01, fun h => absurd (h.1 u).1 (by omega)⟩⟩
      · have u' : a < na := by
          have h1 : ¬ na ≤ a := fun q => u2 ((nI_leI (by omega) (by omega)).mpr q)
          omega
        rw [if_neg u2, hP a u']
        by_cases u3 : s (168 + a) = seen (3 * e + 2)
        · rw [if_pos u3]
          exact ⟨r, rfl, f2, ⟨fun h => ⟨fun _ => ⟨u', u3⟩, f3.mp h⟩, fun h => f3.mpr h.2⟩⟩
        · rw [if_neg u3]
          exact ⟨0, rfl, Or.inr rfl, ⟨fun h => absurd h d01, fun h => absurd (h.1 u).2 u3⟩⟩
    · rw [if_neg u]
      exact ⟨r, rfl, f2, ⟨fun h => ⟨fun h => absurd h u, f3.mp h⟩, fun h => f3.mpr h.2⟩⟩
theorem last_s (hs : SeenOk seen n) (hr : ∀ j, j < n → sR j = seen (3 * j) ∧ aR j = seen (3 * j + 1) ∧ pR j = seen (3 * j + 2)) : ∀ (q e nf L : Nat), e + q = n → q < nf → L ≤ 40 → (∀ j, j < e → ∀ k : Nat, k ≤ 40 → seen (3 * j) = nI k → k ≤ L) → ∃ L' : Nat, L' ≤ 40 ∧ fX2_lastStep_L4 (nI n) sR nf (nI L) (nI e) = some (nI L') ∧ (∀ j, j < n → ∀ k : Nat, k ≤ 40 → seen (3 * j) = nI k → k ≤ L') := by
  have hn := hs.1
  intro q
  induction q with
  | zero =>
    intro e nf L he hf hL h
    obtain ⟨nf, rfl⟩ : ∃ z, nf = z + 1 := ⟨nf - 1, by omega⟩
    have e' : e = n := by omega
    subst e'
    rw [fX2_lastStep_L4]
    rw [if_pos (Int32.le_refl _)]
    exact ⟨L, hL, rfl, h⟩
  | succ q ih =>
    intro e nf L he hf hL h
    obtain ⟨nf, rfl⟩ : ∃ z, nf = z + 1 := ⟨nf - 1, by omega⟩
    obtain ⟨⟨k0, hk0, ek⟩, -⟩ := hs.2 e (by omega)
    have hmx : imax (nI L) (nI k0) = nI (max L k0) := by
      rw [imax_mxv]
      unfold mxv
      by_cases u : nI k0 ≤ nI L
      · have := (nI_leI (by omega) (by omega)).mp u
        rw [if_pos u, Nat.max_eq_left this]
      · have h1 : ¬ k0 ≤ L := fun q => u ((nI_leI (by omega) (by omega)).mpr q)
        rw [if_neg u, Nat.max_eq_right (by omega)]
    have := ih (e + 1) nf (max L k0) (by omega) (by omega) (Nat.max_le.mpr ⟨hL, hk0⟩) (fun j hj k hk hh => by
      by_cases q : j = e
      · subst q
        have e2 : k = k0 := (nI_eq (by omega) (by omega)).mp (hh.symm.trans ek)
        rw [e2]
        exact Nat.le_max_right _ _
      · exact Nat.le_trans (h j (by omega) k hk hh) (Nat.le_max_left _ _))
    rw [fX2_lastStep_L4]
    rw [if_neg (fun q => by have := (nI_leI (by omega) (by omega)).mp q; omega), chk_pos (xin_nI (by omega) (by omega)), cN (by omega), bnd_s, bnd_s, nI_1, (hr e (by omega)).1, ek, hmx]
    exact this
theorem ag20 (hs : SeenOk seen n) (hr : ∀ j, j < n → sR j = seen (3 * j) ∧ aR j = seen (3 * j + 1) ∧ pR j = seen (3 * j + 2)) {K S R : Nat → Int32} {L : Nat} (hL : L ≤ 40) : ∀ (q k nf : Nat) (B : Int) (nt : Nat) (s : Nat → Int32) (hd tv rv : Int32) (P T W : Nat → Int32), k + q = L → q < nf → 0 ≤ B → B + 9 * q ≤ 1000000 → nt + q < 1000000 → GR B 160 na ns nt s hd K S P T W R →
    ∃ r X, fX2_agreeWith_L20 (nI n) sR aR pR (nI na) (nI ns) K S R (fX2_agreeWith_L7 (nI n) sR aR pR (nI na) (nI ns) K S R nf) (nI L) (nI k) hd (nI nt) tv rv P T W = some (r, X) ∧ (r = 1 ∨ r = 0) ∧ (r = 1 ↔ ∀ j, j < q + 1 → okK seen n na (k + j) (itS 160 j s)) := by
  have hn := hs.1
  intro q
  induction q with
  | zero =>
    intro k nf B nt s hd tv rv P T W hk hf hB0 hB hnt g
    obtain ⟨nf, rfl⟩ : ∃ z, nf = z + 1 := ⟨nf - 1, by omega⟩
    have e : k = L := by omega
    subst e
    obtain ⟨r, f1, f2, f3⟩ := beh_c hs hr (P := P) (s := s) g.1 (fun a ha => (g.2.2.2.2.2.2.2.2.1 a ha).2.2.1) k n 0 xF (by omega) (by show n < 1000; omega)
    rw [nI_0] at f1
    have e1 : (∀ e', 0 ≤ e' → e' < n → okE seen na k s e') ↔ okK seen n na (k + 0) (itS 160 0 s) := ⟨fun h e' h2 => h e' (Nat.zero_le _) h2, fun h e' _ h2 => h e' h2⟩
    rw [e1] at f3
    unfold fX2_agreeWith_L20 fX2_agreeBehind
    rw [f1, cl1_s, allJ_s, ← f3, bnd_s, nI_1, fX2_agreeWith_L7]
    rw [if_pos (show nI k < nI (k + 1) from (nI_ltI (by omega) (by omega)).mpr (by omega))]
    rcases f2 with rfl | rfl
    · rw [if_neg d10]
      exact ⟨_, _, rfl, Or.inl rfl, ⟨fun _ => ⟨rfl, fun j hj => absurd hj (by omega)⟩, fun _ => rfl⟩⟩
    · rw [if_pos rfl]
      exact ⟨_, _, rfl, Or.inr rfl, ⟨fun h => absurd h d01, fun h => absurd h.1 d01⟩⟩
  | succ q ih =>
    intro k nf B nt s hd tv rv P T W hk hf hB0 hB hnt g
    obtain ⟨nf, rfl⟩ : ∃ z, nf = z + 1 := ⟨nf - 1, by omega⟩
    obtain ⟨r, f1, f2, f3⟩ := beh_c hs hr (P := P) (s := s) g.1 (fun a ha => (g.2.2.2.2.2.2.2.2.1 a ha).2.2.1) k n 0 xF (by omega) (by show n < 1000; omega)
    rw [nI_0] at f1
    have e1 : (∀ e', 0 ≤ e' → e' < n → okE seen na k s e') ↔ okK seen n na (k + 0) (itS 160 0 s) := ⟨fun h e' h2 => h e' (Nat.zero_le _) h2, fun h e' _ h2 => h e' h2⟩
    rw [e1] at f3
    obtain ⟨h1, h2, p1, t1, w1, h3, h4⟩ := step_sim hB0 (by omega) (by decide) (by omega) g
    obtain ⟨r', X, i1, i2, i3⟩ := ih (k + 1) nf (B + 9) (nt + 1) (nx 160 s) (nx 160 s (160 + 38)) (tv + dmS 160 s) (rv + dtS 160 s) p1 t1 w1 (by omega) (by omega) (by omega) (by omega) (by omega) h4
    unfold fX2_agreeWith_L20 fX2_agreeBehind
    rw [f1, cl1_s, allJ_s, ← f3, bnd_s, nI_1, fX2_agreeWith_L7]
    rw [if_neg (show ¬ nI L < nI (k + 1) from fun q => by have := (nI_ltI (by omega) (by omega)).mp q; omega), if_neg (show ¬ nI (k + 1) ≤ 0 from fun q => by have := (nI_leI (by omega) (by decide)).mp (show nI (k + 1) ≤ nI 0 by rw [nI_0]; exact q); omega), cl7_mk (h3 tv rv), i1]
    rcases f2 with rfl | rfl
    · rw [if_neg d10]
      refine ⟨_, _, rfl, i2, ?_⟩
      rw [i3]
      constructor
      · intro h
        refine ⟨rfl, fun j hj => ?_⟩
        have := h j hj
        rw [show k + 1 + j = k + (j + 1) by omega] at this
        exact this
      · intro h j hj
        have := h.2 j hj
        rw [show k + (j + 1) = k + 1 + j by omega] at this
        exact this
    · rw [if_pos rfl]
      exact ⟨_, _, rfl, Or.inr rfl, ⟨fun h => absurd h d01, fun h => absurd h.1 d01⟩⟩
theorem agree_c (hs : SeenOk seen n) (hr : ∀ j, j < n → sR j = seen (3 * j) ∧ aR j = seen (3 * j + 1) ∧ pR j = seen (3 * j + 2)) {K S R : Nat → Int32} {B : Int} (hB0 : 0 ≤ B) (hB : B + 400 ≤ 1000000) {nt : Nat} (hnt : nt ≤ 9999) {s : Nat → Int32} {hd : Int32} (tv rv : Int32) {P T W : Nat → Int32} (g : GR B 160 na ns nt s hd K S P T W R) :
    ∃ r X, fX2_agreeWith (nI n) sR aR pR (nI na) (nI ns) hd (nI nt) tv rv K S P T W R = some (r, X) ∧ (r = 1 ∨ r = 0) ∧ (r = 1 ↔ ∀ j, j < 41 → okK seen n na j (itS 160 j s)) := by
  have hn := hs.1
  obtain ⟨L, hL, l1, l2⟩ := last_s hs hr n 0 xF 0 (by omega) (by show n < 1000; omega) (by omega) (fun j hj => absurd hj (by omega))
  obtain ⟨r, X, a1, a2, a3⟩ := ag20 hs hr hL L 0 999 B nt s hd tv rv P T W (by omega) (by omega) hB0 (by omega) (by omega) g
  rw [nI_0] at l1 a1
  unfold fX2_agreeWith fX2_lastStep
  rw [l1, cl1_s]
  refine ⟨r, X, ?_, a2, ?_⟩
  · show fX2_agreeWith_L7 (nI n) sR aR pR (nI na) (nI ns) K S R (999 + 1) (nI L) 0 hd (nI nt) tv rv P T W = _
    rw [fX2_agreeWith_L7]
    rw [if_neg (show ¬ nI L < 0 from fun q => by have := (nI_ltI (by omega) (by decide)).mp (show nI L < nI 0 by rw [nI_0]; exact q); omega), if_pos (Int32.le_refl _), a1]
  · rw [a3]
    constructor
    · intro h j hj
      by_cases q : j < L + 1
      · have := h j q
        rw [Nat.zero_add] at this
        exact this
      · intro e he hh
        have := l2 e he j (by omega) hh
        omega
    · intro h j hj
      rw [Nat.zero_add]
      exact h j (by omega)
end BEH
