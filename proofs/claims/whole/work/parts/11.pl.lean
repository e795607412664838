-- the text: names
def lenq (q : Nat) : Nat := xSlen.getD q 0
def offq (q : Nat) : Nat := [0, 5, 8, 13, 17, 19, 23].getD q 0
theorem lenq_5 : ∀ q, q < 6 → lenq q ≤ 5 ∧ offq q + lenq q = offq (q + 1) ∧ offq (q + 1) ≤ 23 := by decide +kernel
theorem let_eq : ∀ q, q < 6 → ∀ x, x < lenq q → (xSbyt.getD q []).getD x 0 &&& 255 = xLetters (offq q + x) := by decide +kernel
theorem ends_eq : ∀ q, q < 7 → xEnds q = nI (offq q) := by decide +kernel
def isN (tape : Nat → Int32) (s e q : Nat) : Prop := e - s = lenq q ∧ ∀ x, x < lenq q → tape (s + x) = xLetters (offq q + x)
theorem allX_s {P : Nat → Prop} {x l : Nat} (hx : x < l) : (∀ j, x ≤ j → j < l → P j) ↔ P x ∧ ∀ j, x + 1 ≤ j → j < l → P j := allE_s hx
section NM
variable {n : Nat} {bytes tape : Nat → Int32} {s e : Nat}
theorem ti20 (hT : Tp n bytes tape) (he : e ≤ n) {q : Nat} (hq : q < 6) (hl : e - s = lenq q) (te : Int32) : ∀ (k x nf : Nat), x + k = lenq q → k < nf → ∃ r : Int32, fX3_tokenIs_L20 q (nI s) te bytes nf (nI x) = some r ∧ (r = 1 ∨ r = 0) ∧ (r = 1 ↔ ∀ j, x ≤ j → j < lenq q → tape (s + j) = xLetters (offq q + j)) := by
  have hn := hT.1
  have h5 := (lenq_5 q hq).1
  intro k
  induction k with
  | zero =>
    intro x nf hx hf
    obtain ⟨nf, rfl⟩ : ∃ z, nf = z + 1 := ⟨nf - 1, by omega⟩
    have e1 : x = lenq q := by omega
    rw [fX3_tokenIs_L20]
    rw [e1, if_pos (show nI (xSlen.getD q 0) ≤ nI (lenq q) from Int32.le_refl _)]
    exact ⟨1, rfl, Or.inl rfl, ⟨fun _ j h1 h2 => absurd h2 (by omega), fun _ => rfl⟩⟩
  | succ k ih =>
    intro x nf hx hf
    obtain ⟨nf, rfl⟩ : ∃ z, nf = z + 1 := ⟨nf - 1, by omega⟩
    obtain ⟨r, f1, f2, f3⟩ := ih (x + 1) nf (by omega) (by omega)
    rw [fX3_tokenIs_L20]
    rw [show xSlen.getD q 0 = lenq q from rfl, if_neg (show ¬ nI (lenq q) ≤ nI x from fun z => by have := (nI_leI (by omega) (by omega)).mp z; omega), nI_add, chk_pos (xin_nI (by omega) (by omega)), chk_pos (show xin (nI x) (lenq q) from xin_nI (by omega) (by omega)), cN (by omega), cN (by omega), (hT.2 (s + x) (by omega)).1, let_eq q hq x (by omega), allX_s (show x < lenq q by omega), bnd_s, nI_1, f1]
    by_cases u : tape (s + x) = xLetters (offq q + x)
    · rw [if_pos u]
      exact ⟨r, rfl, f2, ⟨fun h => ⟨u, f3.mp h⟩, fun h => f3.mpr h.2⟩⟩
    · rw [if_neg u]
      exact ⟨0, rfl, Or.inr rfl, ⟨fun h => absurd h d01, fun h => absurd h.1 u⟩⟩
theorem ti_c (hT : Tp n bytes tape) (hs : s ≤ e) (he : e ≤ n) {q : Nat} (hq : q < 6) : ∃ r : Int32, fX3_tokenIs q (nI s) (nI e) bytes = some r ∧ (r = 1 ∨ r = 0) ∧ (r = 1 ↔ isN tape s e q) := by
  have hn := hT.1
  have h5 := (lenq_5 q hq).1
  unfold fX3_tokenIs isN
  rw [pk_sub hs]
  by_cases u : e - s = lenq q
  · rw [if_pos (show nI (e - s) = nI (xSlen.getD q 0) by rw [u]; rfl)]
    obtain ⟨r, f1, f2, f3⟩ := ti20 hT he hq u (nI e) (lenq q) 0 xF (by omega) (by show lenq q < 1000; omega)
    rw [nI_0] at f1
    rw [f1]
    exact ⟨r, rfl, f2, f3.trans ⟨fun h => ⟨u, fun x hx => h x (Nat.zero_le _) hx⟩, fun h j _ hj => h.2 j hj⟩⟩
  · rw [if_neg (show ¬ nI (e - s) = nI (xSlen.getD q 0) from fun z => u ((nI_eq (b := lenq q) (by omega) (by omega)).mp z))]
    exact ⟨0, rfl, Or.inr rfl, ⟨fun h => absurd h d01, fun h => absurd h.1 u⟩⟩
theorem nm106 {k2 : Int32 → Option Int32} (q : Nat) : fX5_nameHere_L106 (nI n) (nI e) (nI s) 1 tape xEnds xLetters k2 (nI q) 0 = k2 (nI (q + 1)) ∧ fX5_nameHere_L106 (nI n) (nI e) (nI s) 1 tape xEnds xLetters k2 (nI q) 1 = some (nI q) := by
  unfold fX5_nameHere_L106
  rw [if_pos rfl, if_neg d10, bnd_s, nI_1]
  exact ⟨rfl, rfl⟩
theorem nm51 (hn : n ≤ 160) (hs : s ≤ e) (he : e ≤ n) {q : Nat} (hq : q < 6) (hl : e - s = lenq q) (k2 : Int32 → Option Int32) : ∀ (k x nf : Nat), x + k = lenq q → k + 1 < nf → ((∀ j, x ≤ j → j < lenq q → tape (s + j) = xLetters (offq q + j)) ∧ fX5_nameHere_L51 (nI n) (nI e) (nI s) 1 tape xEnds xLetters k2 nf (nI q) 1 (nI x) = some (nI q)) ∨ (¬ (∀ j, x ≤ j → j < lenq q → tape (s + j) = xLetters (offq q + j)) ∧ fX5_nameHere_L51 (nI n) (nI e) (nI s) 1 tape xEnds xLetters k2 nf (nI q) 1 (nI x) = k2 (nI (q + 1))) := by
  obtain ⟨h5, h6, h7⟩ := lenq_5 q hq
  intro k
  induction k with
  | zero =>
    intro x nf hx hf
    obtain ⟨nf, rfl⟩ : ∃ z, nf = z + 1 := ⟨nf - 1, by omega⟩
    refine Or.inl ⟨fun j h1 h2 => absurd h2 (by omega), ?_⟩
    rw [fX5_nameHere_L51]
    rw [if_neg d10, pk_sub hs, if_pos ((nI_leI (by omega) (by omega)).mpr (by omega)), (nm106 q).2]
  | succ k ih =>
    intro x nf hx hf
    obtain ⟨nf, rfl⟩ : ∃ z, nf = z + 1 + 1 := ⟨nf - 2, by omega⟩
    rw [fX5_nameHere_L51]
    rw [if_neg d10, pk_sub hs, if_neg (fun z => by have := (nI_leI (by omega) (by omega)).mp z; omega), nI_add, byte_r hn (by omega), cl1_s, bat_in (by omega), chk_pos (xin_nI (by omega) (by omega)), cN (by omega), ends_eq q (by omega), nI_add, chk_pos (xin_nI (by omega) (by omega)), cN (by omega), allX_s (show x < lenq q by omega)]
    unfold fX5_nameHere_L99
    rw [bnd_s, nI_1]
    by_cases u : tape (s + x) = xLetters (offq q + x)
    · rw [if_pos u]
      rcases ih (x + 1) (nf + 1) (by omega) (by omega) with ⟨g1, g2⟩ | ⟨g1, g2⟩
      · exact Or.inl ⟨⟨u, g1⟩, g2⟩
      · exact Or.inr ⟨fun h => g1 h.2, g2⟩
    · rw [if_neg u]
      refine Or.inr ⟨fun h => u h.1, ?_⟩
      rw [bnd_s, fX5_nameHere_L51]
      rw [if_pos rfl, (nm106 q).1]
theorem nm2 (hn : n ≤ 160) (hs : s ≤ e) (he : e ≤ n) {q : Nat} (hq : q < 6) (nf : Nat) : (isN tape s e q → fX5_nameHere_L2 (nI n) (nI e) (nI s) 1 tape xEnds xLetters (nf + 1) (nI q) = some (nI q)) ∧ (¬ isN tape s e q → fX5_nameHere_L2 (nI n) (nI e) (nI s) 1 tape xEnds xLetters (nf + 1) (nI q) = fX5_nameHere_L2 (nI n) (nI e) (nI s) 1 tape xEnds xLetters nf (nI (q + 1))) := by
  obtain ⟨h5, h6, h7⟩ := lenq_5 q hq
  have hd : xEnds (q + 1) - xEnds q = nI (lenq q) := by
    rw [ends_eq (q + 1) (by omega), ends_eq q (by omega), ← h6, pk_sub (by omega)]
    congr 1
    omega
  have h0 : fX5_nameHere_L2 (nI n) (nI e) (nI s) 1 tape xEnds xLetters (nf + 1) (nI q) = if nI (e - s) = nI (lenq q) then fX5_nameHere_L51 (nI n) (nI e) (nI s) 1 tape xEnds xLetters (fX5_nameHere_L2 (nI n) (nI e) (nI s) 1 tape xEnds xLetters nf) xF (nI q) 1 0 else fX5_nameHere_L51 (nI n) (nI e) (nI s) 1 tape xEnds xLetters (fX5_nameHere_L2 (nI n) (nI e) (nI s) 1 tape xEnds xLetters nf) xF (nI q) 0 0 := by
    rw [fX5_nameHere_L2]
    unfold fX5_nameHere_L48
    rw [if_neg (show ¬ (6 : Int32) ≤ nI q from fun z => by have := (nI_leI (a := 6) (by omega) (by omega)).mp z; omega), if_pos rfl, nI_1, chk_pos (xin_nI (by omega) (by omega)), chk_pos (xin_nI (by omega) (by omega)), cN (by omega), cN (by omega), hd, pk_sub hs]
  rw [h0]
  unfold isN
  by_cases u : e - s = lenq q
  · rw [if_pos (by rw [u])]
    have h1 := nm51 (tape := tape) hn hs he hq u (fX5_nameHere_L2 (nI n) (nI e) (nI s) 1 tape xEnds xLetters nf) (lenq q) 0 xF (by omega) (by show lenq q + 1 < 1000; omega)
    rw [nI_0] at h1
    rcases h1 with ⟨g1, g2⟩ | ⟨g1, g2⟩
    · exact ⟨fun _ => g2, fun h => absurd ⟨u, fun x hx => g1 x (Nat.zero_le _) hx⟩ h⟩
    · exact ⟨fun h => absurd (fun j _ hj => h.2 j hj) g1, fun _ => g2⟩
  · rw [if_neg (fun z => u ((nI_eq (by omega) (by omega)).mp z))]
    refine ⟨fun h => absurd h.1 u, fun _ => ?_⟩
    show fX5_nameHere_L51 (nI n) (nI e) (nI s) 1 tape xEnds xLetters (fX5_nameHere_L2 (nI n) (nI e) (nI s) 1 tape xEnds xLetters nf) (999 + 1) (nI q) 0 0 = _
    rw [fX5_nameHere_L51]
    rw [if_pos rfl, (nm106 q).1]
theorem name_both (hT : Tp n bytes tape) (hs : s ≤ e) (he : e ≤ n) : (∃ q : Nat, q < 6 ∧ fX3_openingOfLine (nI s) (nI e) bytes = some (nI q) ∧ fX5_nameHere (nI n) (nI e) (nI s) 1 tape xEnds xLetters = some (nI q)) ∨ (fX3_openingOfLine (nI s) (nI e) bytes = some (-1) ∧ fX5_nameHere (nI n) (nI e) (nI s) 1 tape xEnds xLetters = some (-4)) := by
  have hn := hT.1
  obtain ⟨r0, a0, b0, c0⟩ := ti_c hT hs he (q := 0) (by decide)
  obtain ⟨r1, a1, b1, c1⟩ := ti_c hT hs he (q := 1) (by decide)
  obtain ⟨r2, a2, b2, c2⟩ := ti_c hT hs he (q := 2) (by decide)
  obtain ⟨r3, a3, b3, c3⟩ := ti_c hT hs he (q := 3) (by decide)
  obtain ⟨r4, a4, b4, c4⟩ := ti_c hT hs he (q := 4) (by decide)
  obtain ⟨r5, a5, b5, c5⟩ := ti_c hT hs he (q := 5) (by decide)
  have w0 := nm2 (tape := tape) hn hs he (q := 0) (by decide) 999
  have w1 := nm2 (tape := tape) hn hs he (q := 1) (by decide) 998
  have w2 := nm2 (tape := tape) hn hs he (q := 2) (by decide) 997
  have w3 := nm2 (tape := tape) hn hs he (q := 3) (by decide) 996
  have w4 := nm2 (tape := tape) hn hs he (q := 4) (by decide) 995
  have w5 := nm2 (tape := tape) hn hs he (q := 5) (by decide) 994
  have e0 : fX5_nameHere (nI n) (nI e) (nI s) 1 tape xEnds xLetters = fX5_nameHere_L2 (nI n) (nI e) (nI s) 1 tape xEnds xLetters (999 + 1) (nI 0) := by rw [nI_0]; rfl
  rw [e0]
  unfold fX3_openingOfLine
  rw [a0, a1, a2, a3, a4, a5]
  simp only [cl1_s]
  rcases b0 with rfl | rfl
  · rw [if_neg d10]
    exact Or.inl ⟨0, by decide, rfl, w0.1 (c0.mp rfl)⟩
  rw [if_pos rfl, w0.2 (fun h => absurd (c0.mpr h) d01)]
  rcases b1 with rfl | rfl
  · rw [if_neg d10]
    exact Or.inl ⟨1, by decide, rfl, w1.1 (c1.mp rfl)⟩
  rw [if_pos rfl]
  have x1 := w1.2 (fun h => absurd (c1.mpr h) d01)
  rcases b2 with rfl | rfl
  · rw [if_neg d10]
    exact Or.inl ⟨2, by decide, rfl, x1.trans (w2.1 (c2.mp rfl))⟩
  rw [if_pos rfl]
  have x2 := x1.trans (w2.2 (fun h => absurd (c2.mpr h) d01))
  rcases b3 with rfl | rfl
  · rw [if_neg d10]
    exact Or.inl ⟨3, by decide, rfl, x2.trans (w3.1 (c3.mp rfl))⟩
  rw [if_pos rfl]
  have x3 := x2.trans (w3.2 (fun h => absurd (c3.mpr h) d01))
  rcases b4 with rfl | rfl
  · rw [if_neg d10]
    exact Or.inl ⟨4, by decide, rfl, x3.trans (w4.1 (c4.mp rfl))⟩
  rw [if_pos rfl]
  have x4 := x3.trans (w4.2 (fun h => absurd (c4.mpr h) d01))
  rcases b5 with rfl | rfl
  · rw [if_neg d10]
    exact Or.inl ⟨5, by decide, rfl, x4.trans (w5.1 (c5.mp rfl))⟩
  rw [if_pos rfl]
  have x5 := x4.trans (w5.2 (fun h => absurd (c5.mpr h) d01))
  refine Or.inr ⟨rfl, x5.trans ?_⟩
  show fX5_nameHere_L2 (nI n) (nI e) (nI s) 1 tape xEnds xLetters (993 + 1) (nI 6) = _
  rw [fX5_nameHere_L2]
  rw [if_pos (show (6 : Int32) ≤ nI 6 from Int32.le_refl _)]
theorem name_no (tk sp : Int32) (h : ¬ tk = 1) : fX5_nameHere (nI n) sp (nI s) tk tape xEnds xLetters = some (-4) := by
  show fX5_nameHere_L2 (nI n) sp (nI s) tk tape xEnds xLetters (999 + 1) 0 = _
  rw [fX5_nameHere_L2]
  rw [if_neg (show ¬ (6 : Int32) ≤ 0 by decide), if_neg h]
end NM
