-- the text: tokens
def Tp (n : Nat) (bytes tape : Nat → Int32) : Prop := n ≤ 160 ∧ ∀ j, j < n → bytes j = tape j ∧ 0 ≤ (tape j).toInt ∧ (tape j).toInt ≤ 127
def bat (n : Nat) (tape : Nat → Int32) (k : Nat) : Int32 := if k < n then tape k else -4
def nmv (tape : Nat → Int32) : Nat → Nat → Int32 → Int32
  | 0, _, acc => acc
  | k + 1, s, acc => nmv tape k (s + 1) (acc * 10 + tape s - 48)
theorem nmv_succ (tape : Nat → Int32) : ∀ (k s : Nat) (acc : Int32), nmv tape (k + 1) s acc = nmv tape k s acc * 10 + tape (s + k) - 48
  | 0, _, _ => rfl
  | k + 1, s, acc => by
    have h := nmv_succ tape k (s + 1) (acc * 10 + tape s - 48)
    rw [show s + 1 + k = s + (k + 1) by omega] at h
    exact h
section TX
variable {n : Nat} {bytes tape : Nat → Int32}
theorem byte_r (hn : n ≤ 160) {k : Nat} (hk : k ≤ 200) : fX5_byteAt (nI k) (nI n) tape = some (bat n tape k) := by
  unfold fX5_byteAt bat
  by_cases h : k < n
  · rw [if_neg (fun q => by have := (nI_leI (by omega) (by omega)).mp q; omega), if_pos h, chk_pos (xin_nI (by omega) (by omega)), cN (by omega)]
  · rw [if_pos ((nI_leI (by omega) (by omega)).mpr (by omega)), if_neg h]
theorem bat_in {k : Nat} (h : k < n) : bat n tape k = tape k := if_pos h
theorem bat_out {k : Nat} (h : n ≤ k) : bat n tape k = -4 := if_neg (by omega)
def rB (taped : Int32) (tape : Nat → Int32) (token broken brokenAt spot : Int32) : Option (Int32 × Int32 × Int32 × Int32 × Int32 × Int32) := cl1 (fX5_byteAt spot taped tape) (fun r5 => if r5 = -4 then some (broken, brokenAt, spot, spot, 0, 0) else cl1 (fX5_in ((r5).toInt64) (97 : Int64) (122 : Int64)) (fun r8 => if r8 = 0 then cl1 (fX5_in ((r5).toInt64) (48 : Int64) (57 : Int64)) (fun r11 => if r11 = 0 then bnd (spot + 1) (fun v14 => if r5 = 59 then some (broken, brokenAt, v14, spot, 3, 0) else cl2 (fX5_fails 1 broken brokenAt spot) (fun u16 u17 => some (u16, u17, v14, spot, 3, 0))) else fX5_readsOn_L140 taped tape xF broken brokenAt spot spot token 0) else fX5_readsOn_L84 taped tape xF broken brokenAt spot spot token 0))
theorem sp_both (hT : Tp n bytes tape) (token ts te br ba here tk value : Int32) : ∀ (q e n1 n2 : Nat), e + q = n → q < n1 → q < n2 → ∃ s, e ≤ s ∧ s ≤ n ∧ (s < n → ¬ tape s = 32) ∧ fX3_takeToken_L5 (nI n) bytes n1 (nI e) token ts te = fX3_takeToken_L30 (nI n) bytes (nI s) token ts te ∧ fX5_readsOn_L8 (nI n) tape n2 br ba (nI e) here tk value = rB (nI n) tape tk br ba (nI s) := by
  have hn := hT.1
  intro q
  induction q with
  | zero =>
    intro e n1 n2 he hn1 hn2
    obtain ⟨n1, rfl⟩ : ∃ z, n1 = z + 1 := ⟨n1 - 1, by omega⟩
    obtain ⟨n2, rfl⟩ : ∃ z, n2 = z + 1 := ⟨n2 - 1, by omega⟩
    have e' : e = n := by omega
    subst e'
    refine ⟨e, Nat.le_refl _, Nat.le_refl _, fun h => absurd h (by omega), ?_, ?_⟩
    · rw [fX3_takeToken_L5]
      rw [if_pos (Int32.le_refl _)]
    · rw [fX5_readsOn_L8]
      rw [byte_r hn (by omega), cl1_s, bat_out (Nat.le_refl _), if_neg (by decide)]
      unfold rB
      rw [byte_r hn (by omega), bat_out (Nat.le_refl _)]
  | succ q ih =>
    intro e n1 n2 he hn1 hn2
    obtain ⟨n1, rfl⟩ : ∃ z, n1 = z + 1 := ⟨n1 - 1, by omega⟩
    obtain ⟨n2, rfl⟩ : ∃ z, n2 = z + 1 := ⟨n2 - 1, by omega⟩
    rw [fX3_takeToken_L5, fX5_readsOn_L8]
    rw [if_neg (fun q => by have := (nI_leI (by omega) (by omega)).mp q; omega), chk_pos (xin_nI (by omega) (by omega)), cN (by omega), (hT.2 e (by omega)).1, byte_r hn (by omega), cl1_s, bat_in (by omega)]
    by_cases u : tape e = 32
    · rw [if_pos u, if_pos u, bnd_s, bnd_s, nI_1]
      obtain ⟨s, s1, s2, s3, s4, s5⟩ := ih (e + 1) n1 n2 (by omega) (by omega) (by omega)
      exact ⟨s, by omega, s2, s3, s4, s5⟩
    · rw [if_neg u, if_neg u]
      refine ⟨e, Nat.le_refl _, by omega, fun _ => u, rfl, ?_⟩
      unfold rB
      rw [byte_r hn (by omega), bat_in (by omega)]
theorem run_c (hT : Tp n bytes tape) (lo hi : Int32) : ∀ (q x nf : Nat), x + q = n → q < nf → ∃ r, x ≤ r ∧ r ≤ n ∧ (∀ j, x ≤ j → j < r → lo ≤ tape j ∧ tape j ≤ hi) ∧ (r < n → ¬ (lo ≤ tape r ∧ tape r ≤ hi)) ∧ fX3_endOfRun_L3 (nI n) bytes nf lo hi (nI x) = some (nI r) := by
  have hn := hT.1
  intro q
  induction q with
  | zero =>
    intro x nf hx hf
    obtain ⟨nf, rfl⟩ : ∃ z, nf = z + 1 := ⟨nf - 1, by omega⟩
    have e : x = n := by omega
    subst e
    refine ⟨x, Nat.le_refl _, Nat.le_refl _, fun j h1 h2 => absurd h2 (by omega), fun h => absurd h (by omega), ?_⟩
    rw [fX3_endOfRun_L3]
    rw [if_pos (Int32.le_refl _)]
  | succ q ih =>
    intro x nf hx hf
    obtain ⟨nf, rfl⟩ : ∃ z, nf = z + 1 := ⟨nf - 1, by omega⟩
    rw [fX3_endOfRun_L3]
    rw [if_neg (fun q => by have := (nI_leI (by omega) (by omega)).mp q; omega), chk_pos (xin_nI (by omega) (by omega)), cN (by omega), (hT.2 x (by omega)).1, w_eq, gate]
    by_cases u : lo ≤ tape x ∧ tape x ≤ hi
    · rw [if_pos u, bnd_s, nI_1]
      obtain ⟨r, r1, r2, r3, r4, r5⟩ := ih (x + 1) nf (by omega) (by omega)
      refine ⟨r, by omega, r2, fun j h1 h2 => ?_, r4, r5⟩
      by_cases e : j = x
      · subst e; exact u
      · exact r3 j (by omega) h2
    · rw [if_neg u]
      exact ⟨x, Nat.le_refl _, by omega, fun j h1 h2 => absurd h2 (by omega), fun _ => u, rfl⟩
theorem run84 (hn : n ≤ 160) {s r : Nat} (hr : r ≤ n) (h1 : ∀ j, s ≤ j → j < r → 97 ≤ tape j ∧ tape j ≤ 122) (h2 : r < n → ¬ (97 ≤ tape r ∧ tape r ≤ 122)) (br ba here tk value : Int32) : ∀ (q x nf : Nat), x + q = r → q < nf → s ≤ x → fX5_readsOn_L84 (nI n) tape nf br ba (nI x) here tk value = some (br, ba, nI r, here, 1, value) := by
  intro q
  induction q with
  | zero =>
    intro x nf hx hf hs
    obtain ⟨nf, rfl⟩ : ∃ z, nf = z + 1 := ⟨nf - 1, by omega⟩
    have e : x = r := by omega
    subst e
    rw [fX5_readsOn_L84]
    rw [byte_r hn (by omega), cl1_s, in_eq (bat n tape x) 97 122 97 122 rfl rfl, gate]
    by_cases u : x < n
    · rw [bat_in u, if_neg (h2 u)]
    · rw [bat_out (by omega), if_neg (by decide)]
  | succ q ih =>
    intro x nf hx hf hs
    obtain ⟨nf, rfl⟩ : ∃ z, nf = z + 1 := ⟨nf - 1, by omega⟩
    rw [fX5_readsOn_L84]
    rw [byte_r hn (by omega), cl1_s, in_eq (bat n tape x) 97 122 97 122 rfl rfl, gate, bat_in (by omega), if_pos (h1 x hs (by omega)), bnd_s, nI_1]
    exact ih (x + 1) nf (by omega) (by omega) (by omega)
theorem run140 (hn : n ≤ 160) {s r : Nat} (hr : r ≤ n) (h1 : ∀ j, s ≤ j → j < r → 48 ≤ tape j ∧ tape j ≤ 57) (h2 : r < n → ¬ (48 ≤ tape r ∧ tape r ≤ 57)) (ba tk : Int32) : ∀ (q x nf : Nat) (value : Int32), x + q = r → q < nf → s ≤ x → (x ≤ s + 2 → value = nmv tape (x - s) s 0) → ∃ br' ba' val : Int32, fX5_readsOn_L140 (nI n) tape nf 0 ba (nI x) (nI s) tk value = some (br', ba', nI r, nI s, 2, val) ∧ (r ≤ s + 2 → br' = 0 ∧ ba' = ba ∧ val = nmv tape (r - s) s 0) ∧ (s + 2 < r → br' = 1 ∧ ba' = nI s) := by
  intro q
  induction q with
  | zero =>
    intro x nf value hx hf hs hv
    obtain ⟨nf, rfl⟩ : ∃ z, nf = z + 1 := ⟨nf - 1, by omega⟩
    have e : x = r := by omega
    subst e
    have hc : ¬ (48 ≤ bat n tape x ∧ bat n tape x ≤ 57) := by
      by_cases u : x < n
      · rw [bat_in u]; exact h2 u
      · rw [bat_out (by omega)]; decide
    rw [fX5_readsOn_L140]
    rw [byte_r hn (by omega), cl1_s, in_eq (bat n tape x) 48 57 48 57 rfl rfl, gate, if_neg hc, pk_sub hs]
    by_cases u : x ≤ s + 2
    · rw [if_pos (show nI (x - s) ≤ (2 : Int32) from (nI_leI (b := 2) (by omega) (by omega)).mpr (by omega))]
      exact ⟨_, _, _, rfl, fun _ => ⟨rfl, rfl, hv u⟩, fun h => absurd h (by omega)⟩
    · rw [if_neg (show ¬ nI (x - s) ≤ (2 : Int32) from fun q => by have := (nI_leI (b := 2) (by omega) (by omega)).mp q; omega)]
      unfold fX5_fails
      rw [if_pos rfl]
      exact ⟨_, _, _, rfl, fun h => absurd h u, fun _ => ⟨rfl, rfl⟩⟩
  | succ q ih =>
    intro x nf value hx hf hs hv
    obtain ⟨nf, rfl⟩ : ∃ z, nf = z + 1 := ⟨nf - 1, by omega⟩
    rw [fX5_readsOn_L140]
    unfold fX5_readsOn_L201
    rw [byte_r hn (by omega), cl1_s, in_eq (bat n tape x) 48 57 48 57 rfl rfl, gate, bat_in (by omega), if_pos (h1 x hs (by omega)), pk_sub hs, bnd_s, nI_1]
    by_cases u : 2 ≤ x - s
    · rw [if_pos (show (2 : Int32) ≤ nI (x - s) from (nI_leI (a := 2) (by omega) (by omega)).mpr u)]
      exact ih (x + 1) nf value (by omega) (by omega) (by omega) (fun h => absurd h (by omega))
    · rw [if_neg (show ¬ (2 : Int32) ≤ nI (x - s) from fun q => by have := (nI_leI (a := 2) (by omega) (by omega)).mp q; omega), cl1_s, bnd_s]
      refine ih (x + 1) nf _ (by omega) (by omega) (by omega) (fun h => ?_)
      rw [hv (by omega), show x + 1 - s = (x - s) + 1 by omega, nmv_succ, show s + (x - s) = x by omega, Int32.mul_comm]
theorem num_c (hT : Tp n bytes tape) (ts : Int32) {e : Nat} (he : e ≤ n) : ∀ (k x nf : Nat) (acc : Int32), x + k = e → k < nf → fX3_numberOfToken_L7 ts (nI e) bytes nf acc (nI x) = some (nmv tape k x acc) := by
  have hn := hT.1
  intro k
  induction k with
  | zero =>
    intro x nf acc hx hf
    obtain ⟨nf, rfl⟩ : ∃ z, nf = z + 1 := ⟨nf - 1, by omega⟩
    have e' : x = e := by omega
    subst e'
    rw [fX3_numberOfToken_L7]
    rw [if_pos (Int32.le_refl _)]
    rfl
  | succ k ih =>
    intro x nf acc hx hf
    obtain ⟨nf, rfl⟩ : ∃ z, nf = z + 1 := ⟨nf - 1, by omega⟩
    rw [fX3_numberOfToken_L7]
    rw [if_neg (fun q => by have := (nI_leI (by omega) (by omega)).mp q; omega), chk_pos (xin_nI (by omega) (by omega)), cN (by omega), bnd_s, bnd_s, nI_1, (hT.2 x (by omega)).1, ih (x + 1) nf _ (by omega) (by omega)]
    rfl
theorem dig {x : Int32} (h : 48 ≤ x ∧ x ≤ 57) : 48 ≤ x.toInt ∧ x.toInt ≤ 57 := ⟨by have := i_le.mp h.1; exact this, by have := i_le.mp h.2; exact this⟩
theorem nmv_rng {s e : Nat} (h0 : s < e) (h2 : e ≤ s + 2) (h1 : ∀ j, s ≤ j → j < e → 48 ≤ tape j ∧ tape j ≤ 57) : 0 ≤ (nmv tape (e - s) s 0).toInt := by
  have d0 := dig (h1 s (Nat.le_refl _) h0)
  have e48 : (48 : Int32).toInt = 48 := rfl
  have e10 : (10 : Int32).toInt = 10 := rfl
  have a1 : (0 * 10 + tape s : Int32) = tape s := by rw [show (0 : Int32) * 10 = 0 from by decide, Int32.zero_add]
  have a2 : (tape s - 48).toInt = (tape s).toInt - 48 := by rw [i_sub (by omega) (by omega)]; rfl
  rcases (by omega : e - s = 1 ∨ e - s = 2) with q | q
  · rw [q]
    show 0 ≤ (0 * 10 + tape s - 48 : Int32).toInt
    rw [a1, a2]
    omega
  · rw [q]
    have d1 := dig (h1 (s + 1) (by omega) (by omega))
    show 0 ≤ ((0 * 10 + tape s - 48) * 10 + tape (s + 1) - 48 : Int32).toInt
    rw [a1]
    have a3 : ((tape s - 48) * 10).toInt = ((tape s).toInt - 48) * 10 := by
      rw [Int32.toInt_mul, a2, e10]
      exact Int.bmod_eq_of_le (by omega) (by omega)
    have a4 : ((tape s - 48) * 10 + tape (s + 1)).toInt = ((tape s).toInt - 48) * 10 + (tape (s + 1)).toInt := by
      rw [i_add (by omega) (by omega), a3]
    rw [i_sub (by omega) (by omega), a4]
    omega
def TK (tape : Nat → Int32) (ba : Int32) (s e : Nat) (k br' ba' sp' tk' val : Int32) : Prop := (br' = 0 ∧ sp' = nI e ∧ ba' = ba ∧ ((k = 0 ∧ tk' = 0) ∨ (k = 4 ∧ tk' = 3 ∧ s < e) ∨ (k = 2 ∧ tk' = 1 ∧ s < e) ∨ (k = 3 ∧ tk' = 2 ∧ s < e ∧ e ≤ s + 2 ∧ val = nmv tape (e - s) s 0 ∧ 0 ≤ val.toInt))) ∨ (k = 1 ∧ br' = 1 ∧ ba' = nI s)
theorem tok_both (hT : Tp n bytes tape) {e : Nat} (he : e ≤ n) (token ts ba here tk value : Int32) : ∃ (s e' : Nat) (k br' ba' sp' tk' val : Int32), e ≤ s ∧ s ≤ e' ∧ e' ≤ n ∧ (k = 0 ∨ s < n) ∧ fX3_takeToken (nI n) token ts (nI e) bytes = some (k, nI s, nI e') ∧ fX5_readsOn (nI n) 0 ba (nI e) here tk value tape = some (br', ba', sp', nI s, tk', val) ∧ TK tape ba s e' k br' ba' sp' tk' val := by
  have hn := hT.1
  obtain ⟨s, s1, s2, s3, s4, s5⟩ := sp_both hT token ts (nI e) 0 ba here tk value (n - e) e xF xF (by omega) (by show n - e < 1000; omega) (by show n - e < 1000; omega)
  unfold fX3_takeToken fX5_readsOn
  rw [s4, if_pos (show (0 : Int32) ≤ 0 by decide), s5]
  unfold fX3_takeToken_L30 rB
  by_cases u0 : s < n
  · obtain ⟨b1, b2, b3⟩ := hT.2 s u0
    rw [if_pos (show nI s < nI n from (nI_ltI (by omega) (by omega)).mpr u0), chk_pos (xin_nI (by omega) (by omega)), cN (by omega), b1, byte_r hn (by omega), cl1_s, bat_in u0]
    have n4 : ¬ tape s = -4 := fun q => by
      have := i_eq.mp q
      have e4 : (-4 : Int32).toInt = -4 := rfl
      omega
    rw [if_neg n4, in_eq (tape s) 97 122 97 122 rfl rfl, gate, in_eq (tape s) 48 57 48 57 rfl rfl, gate, chk_pos (xin_nI (by omega) (by omega)), w_eq, gate]
    by_cases u1 : tape s = 59
    · rw [if_pos u1, u1, if_neg (by decide), if_neg (by decide), bnd_s, bnd_s, nI_1, if_pos rfl]
      exact ⟨s, s + 1, _, _, _, _, _, _, s1, by omega, by omega, Or.inr u0, rfl, rfl, Or.inl ⟨rfl, rfl, rfl, Or.inr (Or.inl ⟨rfl, rfl, by omega⟩)⟩⟩
    · rw [if_neg u1]
      by_cases u2 : 97 ≤ tape s ∧ tape s ≤ 122
      · rw [if_pos u2, if_pos u2]
        obtain ⟨r, r1, r2, r3, r4, r5⟩ := run_c hT 97 122 (n - s) s xF (by omega) (by show n - s < 1000; omega)
        have hsr : s < r := by
          by_cases q : s < r
          · exact q
          · have e1 : r = s := by omega
            subst e1
            exact absurd u2 (r4 u0)
        have r6 := run84 hn r2 r3 r4 0 ba (nI s) tk 0 (r - s) s xF (by omega) (by show r - s < 1000; omega) (Nat.le_refl _)
        have r5' : fX3_endOfRun (nI s) 97 122 (nI n) bytes = some (nI r) := r5
        rw [r5', cl1_s, r6]
        exact ⟨s, r, _, _, _, _, _, _, s1, r1, r2, Or.inr u0, rfl, rfl, Or.inl ⟨rfl, rfl, rfl, Or.inr (Or.inr (Or.inl ⟨rfl, rfl, hsr⟩))⟩⟩
      · rw [if_neg u2, if_neg u2]
        obtain ⟨r, r1, r2, r3, r4, r5⟩ := run_c hT 48 57 (n - s) s xF (by omega) (by show n - s < 1000; omega)
        have r5' : fX3_endOfRun (nI s) 48 57 (nI n) bytes = some (nI r) := r5
        rw [r5', cl1_s, bnd_s, pk_sub r1, w_eq, gate]
        by_cases u3 : 48 ≤ tape s ∧ tape s ≤ 57
        · rw [if_pos u3]
          have hsr : s < r := by
            by_cases q : s < r
            · exact q
            · have e1 : r = s := by omega
              subst e1
              exact absurd u3 (r4 u0)
          obtain ⟨br', ba', val, f1, f2, f3⟩ := run140 hn r2 r3 r4 ba tk (r - s) s xF 0 (by omega) (by show r - s < 1000; omega) (Nat.le_refl _) (fun _ => by rw [Nat.sub_self]; rfl)
          rw [f1]
          by_cases u4 : r ≤ s + 2
          · obtain ⟨g1, g2, g3⟩ := f2 u4
            subst g1 g2
            rw [if_pos (show (1 : Int32) ≤ nI (r - s) ∧ nI (r - s) ≤ (2 : Int32) from ⟨(nI_leI (a := 1) (by omega) (by omega)).mpr (by omega), (nI_leI (b := 2) (by omega) (by omega)).mpr (by omega)⟩)]
            exact ⟨s, r, _, _, _, _, _, _, s1, r1, r2, Or.inr u0, rfl, rfl, Or.inl ⟨rfl, rfl, rfl, Or.inr (Or.inr (Or.inr ⟨rfl, rfl, hsr, u4, g3, by rw [g3]; exact nmv_rng hsr u4 r3⟩))⟩⟩
          · obtain ⟨g1, g2⟩ := f3 (by omega)
            subst g1 g2
            rw [if_neg (show ¬ ((1 : Int32) ≤ nI (r - s) ∧ nI (r - s) ≤ (2 : Int32)) from fun q => by have := (nI_leI (b := 2) (by omega) (by omega)).mp q.2; omega)]
            exact ⟨s, r, _, _, _, _, _, _, s1, r1, r2, Or.inr u0, rfl, rfl, Or.inr ⟨rfl, rfl, rfl⟩⟩
        · rw [if_neg u3]
          have e1 : r = s := by
            by_cases q : s < r
            · exact absurd (r3 s (Nat.le_refl _) q) u3
            · omega
          subst e1
          rw [Nat.sub_self, if_neg (show ¬ ((1 : Int32) ≤ nI 0 ∧ nI 0 ≤ (2 : Int32)) by decide), bnd_s, if_neg u1]
          unfold fX5_fails
          rw [if_pos rfl]
          exact ⟨r, r, _, _, _, _, _, _, s1, Nat.le_refl _, r2, Or.inr u0, rfl, rfl, Or.inr ⟨rfl, rfl, rfl⟩⟩
  · have es : s = n := by omega
    subst es
    rw [if_neg (show ¬ nI s < nI s from fun q => by have := (nI_ltI (by omega) (by omega)).mp q; omega), byte_r hn (by omega), cl1_s, bat_out (Nat.le_refl _), if_pos rfl]
    exact ⟨s, s, _, _, _, _, _, _, s1, Nat.le_refl _, Nat.le_refl _, Or.inl rfl, rfl, rfl, Or.inl ⟨rfl, rfl, rfl, Or.inl ⟨rfl, rfl⟩⟩⟩
end TX
