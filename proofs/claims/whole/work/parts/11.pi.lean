-- questions: luck, mean
theorem lg0 (x : Int64) : lg_cmp x 0 = 0 ↔ x = 0 := lg_cmp_eq x 0
theorem lN_0 : lN 0 = 0 := rfl
theorem lN_z {a : Nat} (h : a < 2 ^ 63) : lN a = 0 ↔ a = 0 := by
  rw [← lN_0]
  exact pk_lEQ h (by decide)
theorem pow_c {b t : Nat} (hb : b < 1000) (ht : t < 900) : ∀ (q i nf p : Nat), i + q = t → q < nf → fX4_power_L5 nf (nI b) (nI t) (lN p) (nI i) = some (lN (p * b ^ q)) := by
  intro q
  induction q with
  | zero =>
    intro i nf p hi hf
    obtain ⟨nf, rfl⟩ : ∃ z, nf = z + 1 := ⟨nf - 1, by omega⟩
    have e : i = t := by omega
    subst e
    rw [fX4_power_L5]
    rw [if_pos (Int32.le_refl _), Nat.pow_zero, Nat.mul_one]
  | succ q ih =>
    intro i nf p hi hf
    obtain ⟨nf, rfl⟩ : ∃ z, nf = z + 1 := ⟨nf - 1, by omega⟩
    rw [fX4_power_L5]
    rw [if_neg (fun q => by have := (nI_leI (by omega) (by omega)).mp q; omega), bnd_s, bnd_s, nI_1, nI_l (by omega), lN_mul, ih (i + 1) nf _ (by omega) (by omega), Nat.pow_succ, Nat.mul_assoc, Nat.mul_comm b]
theorem power_c {b t : Nat} (hb : b < 1000) (ht : t < 900) : fX4_power (nI b) (nI t) = some (lN (b ^ t)) := by
  have h := pow_c hb ht t 0 xF 1 (by omega) (by show t < 1000; omega)
  rw [nI_0, Nat.one_mul] at h
  exact h
theorem pow_r (x1 x2 x4 : Int32) (x5 : Int64) {n : Nat} (hn : n ≤ 8) (m t : Int32) (s : Nat → Int32) : ∀ (q i nf p : Nat), i + q = n → q < nf → fX5_byMisses_L9 nf x1 x2 (nI n) x4 x5 (lN p) (nI i) m t s = fX5_byMisses_L32 xF x1 x2 (nI n) x4 x5 (lN (p * 10 ^ q)) 0 m t s := by
  intro q
  induction q with
  | zero =>
    intro i nf p hi hf
    obtain ⟨nf, rfl⟩ : ∃ z, nf = z + 1 := ⟨nf - 1, by omega⟩
    have e : i = n := by omega
    subst e
    rw [fX5_byMisses_L9]
    rw [if_pos (Int32.le_refl _), Nat.pow_zero, Nat.mul_one]
  | succ q ih =>
    intro i nf p hi hf
    obtain ⟨nf, rfl⟩ : ∃ z, nf = z + 1 := ⟨nf - 1, by omega⟩
    rw [fX5_byMisses_L9]
    rw [if_neg (fun q => by have := (nI_leI (by omega) (by omega)).mp q; omega), bnd_s, bnd_s, nI_1, show (10 : Int64) = lN 10 from rfl, lN_mul, ih (i + 1) nf _ (by omega) (by omega), Nat.pow_succ, Nat.mul_assoc, Nat.mul_comm 10]
theorem mod_half {b c : Nat} (h0 : 0 < c) (h : c < b) : 2 * (b % c) < b := by
  have h1 := Nat.mod_lt b h0
  have h2 := Nat.div_add_mod b c
  have h3 : 1 ≤ b / c := Nat.div_pos (Nat.le_of_lt h) h0
  have h4 : c * 1 ≤ c * (b / c) := Nat.mul_le_mul_left c h3
  omega
theorem gcd_c : ∀ (k a b i nf : Nat), a < 2 ^ 63 → b < 2 ^ k → k ≤ 60 → i + 2 * k + 2 < 200 → 2 * k + 1 < nf → fX4_greatestDivisor_L9 nf (lN a) (lN b) (nI i) = some (lN (Nat.gcd a b)) := by
  intro k
  induction k with
  | zero =>
    intro a b i nf ha hb hk hi hf
    obtain ⟨nf, rfl⟩ : ∃ z, nf = z + 1 := ⟨nf - 1, by omega⟩
    have e : b = 0 := by rw [Nat.pow_zero] at hb; omega
    subst e
    rw [fX4_greatestDivisor_L9]
    rw [if_neg (show ¬ (200 : Int32) ≤ nI i from fun q => by have := (nI_leI (a := 200) (by omega) (by omega)).mp q; omega), if_pos ((lg0 (lN 0)).mpr lN_0), Nat.gcd_zero_right]
  | succ k ih =>
    intro a b i nf ha hb hk hi hf
    obtain ⟨nf, rfl⟩ : ∃ z, nf = z + 1 + 1 := ⟨nf - 2, by omega⟩
    have hp : (2 : Nat) ^ (k + 1) ≤ 2 ^ 61 := Nat.pow_le_pow_right (by decide) (by omega)
    have hb2 : b < 2 ^ 63 := by omega
    rw [fX4_greatestDivisor_L9]
    rw [if_neg (show ¬ (200 : Int32) ≤ nI i from fun q => by have := (nI_leI (a := 200) (by omega) (by omega)).mp q; omega)]
    by_cases b0 : b = 0
    · subst b0
      rw [if_pos ((lg0 (lN 0)).mpr lN_0), Nat.gcd_zero_right]
    · have nb : ¬ lN b = 0 := fun q => b0 ((lN_z hb2).mp q)
      have hc := Nat.mod_lt a (show 0 < b by omega)
      rw [if_neg (fun q => nb ((lg0 _).mp q)), chk_pos nb, bnd_s, bnd_s, nI_1, pk_lRem ha (by omega) hb2, fX4_greatestDivisor_L9]
      rw [if_neg (show ¬ (200 : Int32) ≤ nI (i + 1) from fun q => by have := (nI_leI (a := 200) (by omega) (by omega)).mp q; omega)]
      by_cases c0 : a % b = 0
      · rw [c0, if_pos ((lg0 (lN 0)).mpr lN_0), Nat.gcd_comm, Nat.gcd_rec, c0, Nat.gcd_zero_left]
      · have nc : ¬ lN (a % b) = 0 := fun q => c0 ((lN_z (by omega)).mp q)
        have hh := mod_half (show 0 < a % b by omega) hc
        have hp2 : (2 : Nat) ^ (k + 1) = 2 ^ k * 2 := Nat.pow_succ 2 k
        rw [if_neg (fun q => nc ((lg0 _).mp q)), chk_pos nc, bnd_s, bnd_s, nI_1, pk_lRem hb2 (by omega) (by omega), ih (a % b) (b % (a % b)) (i + 1 + 1) nf (by omega) (by omega) (by omega) (by omega) (by omega)]
        rw [Nat.gcd_comm a b, Nat.gcd_rec b a, Nat.gcd_comm (a % b) b, Nat.gcd_comm (a % b) (b % (a % b)), ← Nat.gcd_rec, Nat.gcd_comm]
theorem gcd_r (x0 x2 : Int64) (x4 : Int32) : ∀ (k a b nf : Nat), 0 < a ∨ 0 < b → a < 2 ^ 63 → b < 2 ^ k → k ≤ 60 → 2 * k + 1 < nf → fX5_lowest_L6 nf x0 x2 x4 (lN a) (lN b) = if x4 = 0 then some (x0 / lN (Nat.gcd a b)) else some (x2 / lN (Nat.gcd a b)) := by
  have last : ∀ (a nf : Nat), 0 < a → a < 2 ^ 63 → fX5_lowest_L6 (nf + 1) x0 x2 x4 (lN a) (lN 0) = if x4 = 0 then some (x0 / lN a) else some (x2 / lN a) := fun a nf h0 ha => by
    have na : ¬ lN a = 0 := fun q => by have := (lN_z ha).mp q; omega
    rw [fX5_lowest_L6]
    rw [if_pos ((lg0 (lN 0)).mpr lN_0), chk_pos na, chk_pos na]
  intro k
  induction k with
  | zero =>
    intro a b nf hab ha hb hk hf
    obtain ⟨nf, rfl⟩ : ∃ z, nf = z + 1 := ⟨nf - 1, by omega⟩
    have e : b = 0 := by rw [Nat.pow_zero] at hb; omega
    subst e
    rw [last a nf (by omega) ha, Nat.gcd_zero_right]
  | succ k ih =>
    intro a b nf hab ha hb hk hf
    obtain ⟨nf, rfl⟩ : ∃ z, nf = z + 1 + 1 := ⟨nf - 2, by omega⟩
    have hp : (2 : Nat) ^ (k + 1) ≤ 2 ^ 61 := Nat.pow_le_pow_right (by decide) (by omega)
    have hb2 : b < 2 ^ 63 := by omega
    by_cases b0 : b = 0
    · subst b0
      rw [last a (nf + 1) (by omega) ha, Nat.gcd_zero_right]
    · have nb : ¬ lN b = 0 := fun q => b0 ((lN_z hb2).mp q)
      have hc := Nat.mod_lt a (show 0 < b by omega)
      rw [fX5_lowest_L6]
      rw [if_neg (fun q => nb ((lg0 _).mp q)), chk_pos nb, bnd_s, pk_lRem ha (by omega) hb2]
      by_cases c0 : a % b = 0
      · rw [c0, last b nf (by omega) hb2, Nat.gcd_comm, Nat.gcd_rec, c0, Nat.gcd_zero_left]
      · have nc : ¬ lN (a % b) = 0 := fun q => c0 ((lN_z (by omega)).mp q)
        have hh := mod_half (show 0 < a % b by omega) hc
        have hp2 : (2 : Nat) ^ (k + 1) = 2 ^ k * 2 := Nat.pow_succ 2 k
        have eg : Nat.gcd (a % b) (b % (a % b)) = Nat.gcd a b := by rw [Nat.gcd_comm a b, Nat.gcd_rec b a, Nat.gcd_comm (a % b) b, Nat.gcd_comm (a % b) (b % (a % b)), ← Nat.gcd_rec, Nat.gcd_comm]
        rw [fX5_lowest_L6]
        rw [if_neg (fun q => nc ((lg0 _).mp q)), chk_pos nc, bnd_s, pk_lRem hb2 (by omega) (by omega), ih (a % b) (b % (a % b)) nf (Or.inl (by omega)) (by omega) (by omega) (by omega) (by omega), eg]
theorem frac_eq {s w : Nat} (hs : s < 2 ^ 63) (h0 : 0 < w) (hw : w < 2 ^ 30) (a4 : Int32) : ∃ r : Int64, fX4_ofFraction (lN s) (lN w) a4 = some r ∧ fX5_lowest (lN s) (lN w) a4 = some r := by
  have h1 := gcd_c 30 s w 0 xF hs hw (by decide) (by decide) (by decide)
  have h2 := gcd_r (lN s) (lN w) a4 30 s w xF (Or.inr h0) hs hw (by decide) (by decide)
  have hg : 0 < Nat.gcd s w := Nat.gcd_pos_of_pos_right s h0
  have hg2 : Nat.gcd s w ≤ w := Nat.gcd_le_right s h0
  have ng : ¬ lN (Nat.gcd s w) = 0 := fun q => by have := (lN_z (by omega)).mp q; omega
  rw [nI_0] at h1
  have h1' : fX4_greatestDivisor (lN s) (lN w) = some (lN (Nat.gcd s w)) := h1
  unfold fX4_ofFraction fX5_lowest
  rw [h1', h2, cl1_s, if_neg (fun q => ng ((lg0 _).mp q)), chk_pos ng, chk_pos ng]
  split
  · exact ⟨_, rfl, rfl⟩
  · exact ⟨_, rfl, rfl⟩
def fac (v j i : Nat) : Nat := if j / 2 ^ i % 2 = 1 then v else 10 - v
def prodv (v j : Nat) : Nat → Nat → Nat
  | _, 0 => 1
  | i, q + 1 => fac v j i * prodv v j (i + 1) q
def cntv (j : Nat) : Nat → Nat → Nat
  | _, 0 => 0
  | i, q + 1 => j / 2 ^ i % 2 + cntv j (i + 1) q
theorem cnt_le (j : Nat) : ∀ (q i : Nat), cntv j i q ≤ q
  | 0, _ => Nat.le_refl _
  | q + 1, i => by
    have h1 := cnt_le j q (i + 1)
    have h2 := Nat.mod_lt (j / 2 ^ i) (show 0 < 2 by decide)
    show j / 2 ^ i % 2 + cntv j (i + 1) q ≤ q + 1
    omega
theorem prod_cnt (v j : Nat) : ∀ (q i : Nat), prodv v j i q = v ^ (cntv j i q) * (10 - v) ^ (q - cntv j i q)
  | 0, _ => by
    show 1 = v ^ 0 * (10 - v) ^ (0 - 0)
    rw [Nat.pow_zero, Nat.pow_zero]
  | q + 1, i => by
    have h1 := cnt_le j q (i + 1)
    have ih := prod_cnt v j q (i + 1)
    show fac v j i * prodv v j (i + 1) q = v ^ (j / 2 ^ i % 2 + cntv j (i + 1) q) * (10 - v) ^ (q + 1 - (j / 2 ^ i % 2 + cntv j (i + 1) q))
    rw [ih]
    unfold fac
    have h2 := Nat.mod_lt (j / 2 ^ i) (show 0 < 2 by decide)
    by_cases u : j / 2 ^ i % 2 = 1
    · rw [if_pos u, u, show q + 1 - (1 + cntv j (i + 1) q) = q - cntv j (i + 1) q by omega, Nat.add_comm 1, Nat.pow_succ, ← Nat.mul_assoc, Nat.mul_comm v]
    · have u0 : j / 2 ^ i % 2 = 0 := by omega
      rw [if_neg u, u0, Nat.zero_add, show q + 1 - cntv j (i + 1) q = (q - cntv j (i + 1) q) + 1 by omega, Nat.pow_succ, Nat.mul_comm (10 - v), Nat.mul_assoc]
theorem prod_le {v : Nat} (hv : v ≤ 10) (j : Nat) : ∀ (q i : Nat), prodv v j i q ≤ 10 ^ q
  | 0, _ => Nat.le_refl _
  | q + 1, i => by
    show fac v j i * prodv v j (i + 1) q ≤ 10 ^ (q + 1)
    rw [Nat.pow_succ, Nat.mul_comm]
    refine Nat.mul_le_mul (prod_le hv j q (i + 1)) ?_
    unfold fac
    split <;> omega
theorem bit_b : ∀ i, i < 8 → ∀ j, j < 256 → (nI j >>> (nI i &&& 31)) &&& 1 = nI (j / 2 ^ i % 2) := by decide +kernel
theorem bc_b : ∀ n, n < 9 → ∀ j, j < 2 ^ n → fJ6_bitCount_0f7a4 (nI j) = some (nI (cntv j 0 n)) := by decide +kernel
theorem weight_c {v j n : Nat} (hv : v ≤ 10) (hn : n ≤ 8) (hj : j < 2 ^ n) : fX4_weightOf (nI j) (nI v) (nI n) = some (lN (prodv v j 0 n)) := by
  have hc := cnt_le j n 0
  unfold fX4_weightOf
  rw [bc_b n (by omega) j hj, cl1_s, power_c (by omega) (by omega), cl1_s, show (10 : Int32) - nI v = nI (10 - v) from pk_sub (a := 10) hv, pk_sub hc, power_c (by omega) (by omega), cl1_s, lN_mul, prod_cnt]
