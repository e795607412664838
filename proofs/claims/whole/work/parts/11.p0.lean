-- pure rows: numbers
theorem i_rng (x : Int32) : -2147483648 ≤ x.toInt ∧ x.toInt < 2147483648 := ⟨Int32.le_toInt x, Int32.toInt_lt x⟩
theorem i_add {a b : Int32} (h1 : -2147483648 ≤ a.toInt + b.toInt) (h2 : a.toInt + b.toInt < 2147483648) : (a + b).toInt = a.toInt + b.toInt := by
  rw [Int32.toInt_add]
  exact Int.bmod_eq_of_le (by omega) (by omega)
theorem i_sub {a b : Int32} (h1 : -2147483648 ≤ a.toInt - b.toInt) (h2 : a.toInt - b.toInt < 2147483648) : (a - b).toInt = a.toInt - b.toInt := by
  rw [Int32.toInt_sub]
  exact Int.bmod_eq_of_le (by omega) (by omega)
theorem i_neg {a : Int32} (h : -2147483648 < a.toInt) : (-a).toInt = -a.toInt := by
  rw [Int32.toInt_neg]
  have := i_rng a
  exact Int.bmod_eq_of_le (by omega) (by omega)
theorem i_le {a b : Int32} : a ≤ b ↔ a.toInt ≤ b.toInt := Int32.le_iff_toInt_le
theorem i_lt {a b : Int32} : a < b ↔ a.toInt < b.toInt := Int32.lt_iff_toInt_lt
theorem i_eq {a b : Int32} : a = b ↔ a.toInt = b.toInt := Int32.toInt_inj.symm
theorem n_lt {a b : Int32} (h : ¬ a < b) : b.toInt ≤ a.toInt := i_le.mp (Int32.not_lt.mp h)
theorem n_le {a b : Int32} (h : ¬ a ≤ b) : b.toInt < a.toInt := i_lt.mp (Int32.not_le.mp h)
theorem n_eq {a b : Int32} (h : ¬ a = b) : a.toInt ≠ b.toInt := fun q => h (i_eq.mpr q)
theorem xin_nI {n N : Nat} (h : n < N) (hN : n < 2 ^ 31) : xin (nI n) N := ⟨by rw [nI_toInt hN]; omega, by rw [nI_toInt hN]; omega⟩
theorem w_eq (x lo hi : Int32) : fX4_within x lo hi = some (if lo ≤ x ∧ x ≤ hi then 1 else 0) := by
  unfold fX4_within
  by_cases h1 : x < lo
  · rw [if_pos h1, if_neg (fun h => absurd h.1 (Int32.not_le.mpr h1))]
  · by_cases h2 : hi < x
    · rw [if_neg h1, if_pos h2, if_neg (fun h => absurd h.2 (Int32.not_le.mpr h2))]
    · rw [if_neg h1, if_neg h2, if_pos ⟨Int32.not_lt.mp h1, Int32.not_lt.mp h2⟩]
theorem l_le {x y : Int32} : x.toInt64 ≤ y.toInt64 ↔ x ≤ y := by
  rw [Int64.le_iff_toInt_le, Int32.le_iff_toInt_le, Int32.toInt_toInt64, Int32.toInt_toInt64]
theorem lg_lt0 (x y : Int64) : lg_cmp x y < 0 ↔ x < y := by
  rw [← Int32.not_le, lg_cmp_ge, Int64.not_le]
theorem lg_gt0 (x y : Int64) : 0 < lg_cmp x y ↔ y < x := by
  rw [← Int32.not_le, lg_cmp_le, Int64.not_le]
theorem in_eq (x lo hi : Int32) (lo' hi' : Int64) (h1 : lo' = lo.toInt64) (h2 : hi' = hi.toInt64) : fX5_in x.toInt64 lo' hi' = some (if lo ≤ x ∧ x ≤ hi then 1 else 0) := by
  subst h1 h2
  unfold fX5_in
  by_cases h1 : lg_cmp x.toInt64 lo.toInt64 < 0
  · rw [if_pos h1, if_neg (fun h => absurd (l_le.mpr h.1) (Int64.not_le.mpr ((lg_lt0 _ _).mp h1)))]
  · by_cases h2 : 0 < lg_cmp x.toInt64 hi.toInt64
    · rw [if_neg h1, if_pos h2, if_neg (fun h => absurd (l_le.mpr h.2) (Int64.not_le.mpr ((lg_gt0 _ _).mp h2)))]
    · rw [if_neg h1, if_neg h2, if_pos ⟨l_le.mp (Int64.not_lt.mp (fun q => h1 ((lg_lt0 _ _).mpr q))), l_le.mp (Int64.not_lt.mp (fun q => h2 ((lg_gt0 _ _).mpr q)))⟩]
theorem bz_ite (c : Prop) [Decidable c] : xbz (if c then 1 else 0) := by
  split
  · exact Or.inr rfl
  · exact Or.inl rfl
theorem cl1_s {A β : Type} (a : A) (k : A → Option β) : cl1 (some a) k = k a := rfl
theorem bnd_s {A β : Type} (a : A) (k : A → Option β) : bnd a k = k a := rfl
theorem chk_bz {α : Type} (c : Prop) [Decidable c] (k : Option α) : chk (xbz (if c then 1 else 0)) k = k := chk_pos (bz_ite c)
theorem fs_eq (x : Int32) : fX4_isFirstOrSecond x = some (if 0 ≤ x ∧ x ≤ 1 then 1 else 0) := by
  unfold fX4_isFirstOrSecond
  rw [w_eq, cl1_s, chk_bz]
theorem ah_eq (x : Int32) : fX4_isAhead x = some (if 0 ≤ x ∧ x ≤ 200 then 1 else 0) := by
  unfold fX4_isAhead
  rw [w_eq, cl1_s, chk_bz]
theorem ss_eq (x : Int32) : fX4_isShiftedStroke x = some (if 0 ≤ x ∧ x ≤ 18 then 1 else 0) := by
  unfold fX4_isShiftedStroke
  rw [w_eq, cl1_s, chk_bz]
theorem sp_eq (x : Int32) : fX4_isShiftedPlace x = some (if 100000 ≤ x ∧ x ≤ 300000 then 1 else 0) := by
  unfold fX4_isShiftedPlace
  rw [w_eq, cl1_s, chk_bz]
theorem sh_eq (x : Int32) : fX4_isSheet x = some (if 0 ≤ x ∧ x ≤ 3 then 1 else 0) := by
  unfold fX4_isSheet
  rw [w_eq, cl1_s, chk_bz]
theorem ia_eq (x n : Int32) : fX4_isArm x n = some (if 0 ≤ x ∧ x ≤ n - 1 then 1 else 0) := by
  unfold fX4_isArm
  rw [w_eq, cl1_s, chk_bz]
theorem is_eq (x n : Int32) : fX4_isStroke x n = some (if 0 ≤ x ∧ x ≤ n - 1 then 1 else 0) := by
  unfold fX4_isStroke
  rw [w_eq, cl1_s, chk_bz]
theorem ml_eq (x : Int32) : fX5_isLong x = some (if 0 ≤ x ∧ x ≤ 200 then 1 else 0) := by
  unfold fX5_isLong
  rw [in_eq x 0 200 0 200 rfl rfl, cl1_s, chk_bz]
theorem mp_eq (x : Int32) : fX5_isPlace x = some (if 100000 ≤ x ∧ x ≤ 300000 then 1 else 0) := by
  unfold fX5_isPlace
  rw [in_eq x 100000 300000 100000 300000 rfl rfl, cl1_s, chk_bz]
theorem cl_20 : (20 : Int32).toNatClampNeg = 20 := by decide
theorem cl_37 : (37 : Int32).toNatClampNeg = 37 := by decide
theorem cl_38 : (38 : Int32).toNatClampNeg = 38 := by decide
theorem cl_39 : (39 : Int32).toNatClampNeg = 39 := by decide
theorem ma_eq (x : Int32) (st : Nat → Int32) : fX5_isArm x st = some (if 0 ≤ x ∧ x ≤ st 20 - 1 then 1 else 0) := by
  unfold fX5_isArm
  rw [chk_pos (by decide), cl_20, in_eq x 0 (st 20 - 1) 0 _ rfl rfl, cl1_s, chk_bz]
theorem ms_eq (x : Int32) (st : Nat → Int32) : fX5_isStroke x st = some (if 0 ≤ x ∧ x ≤ st 37 - 1 then 1 else 0) := by
  unfold fX5_isStroke
  rw [chk_pos (by decide), cl_37, in_eq x 0 (st 37 - 1) 0 _ rfl rfl, cl1_s, chk_bz]
/-- a number between 0 and n is some nI k -/
theorem of_rng {x hi : Int32} {n : Nat} (h1 : 0 ≤ x) (h2 : x ≤ hi) (hn : hi.toInt = n) : ∃ k : Nat, k ≤ n ∧ x = nI k := nI_of2 hn (Int32.not_lt.mpr h1) h2
/-- an arm's or a stroke's number -/
theorem of_idx {x : Int32} {n : Nat} (hn : n ≤ 1000) (h1 : 0 ≤ x) (h2 : x ≤ nI n - 1) : ∃ k : Nat, k < n ∧ x = nI k := by
  have h3 := i_le.mp h2
  have h4 := i_le.mp h1
  have e0 : (0 : Int32).toInt = 0 := rfl
  have e1 : (1 : Int32).toInt = 1 := rfl
  have en : (nI n).toInt = n := nI_toInt (by omega)
  rw [i_sub (by omega) (by omega)] at h3
  obtain ⟨k, hk, rfl⟩ := nI_of (Int32.not_lt.mpr h1)
  rw [nI_toInt hk] at h3
  exact ⟨k, by omega, rfl⟩
theorem idx_t {k n : Nat} (h : k < n) (hn : n ≤ 1000) : 0 ≤ nI k ∧ nI k ≤ nI n - 1 := by
  refine ⟨nI_pos' (by omega), i_le.mpr ?_⟩
  have e1 : (1 : Int32).toInt = 1 := rfl
  have en : (nI n).toInt = n := nI_toInt (by omega)
  rw [i_sub (by omega) (by omega), nI_toInt (by omega)]
  omega
theorem amt_eq (y : Int32) : fX5_amount y = some (iabs y) := by
  unfold fX5_amount
  by_cases h : 0 ≤ y
  · rw [if_pos h]; simp [iabs, h]
  · rw [if_neg h]; simp [iabs, h]
theorem shr31 (y : Int32) : y >>> ((31 : Int32) &&& 31) = if y < 0 then -1 else 0 := by
  apply Int32.toInt_inj.mp
  rw [pk_shr y ((31 : Int32) &&& 31) 31 (by decide), Int.shiftRight_eq_div_pow]
  have h := i_rng y
  have e0 : (0 : Int32).toInt = 0 := rfl
  have e1 : (-1 : Int32).toInt = -1 := rfl
  by_cases hy : y < 0
  · rw [if_pos hy, e1]
    have := i_lt.mp hy
    omega
  · rw [if_neg hy, e0]
    have := n_lt hy
    omega
theorem ushr31 (y : Int32) : iushr y 31 = if y < 0 then 1 else 0 := by
  have h1 := pk_ushr y 31 31 (by decide)
  have h2 : y.toInt = if 2 * y.toBitVec.toNat < 2 ^ 32 then (y.toBitVec.toNat : Int) else (y.toBitVec.toNat : Int) - 2 ^ 32 := BitVec.toInt_eq_toNat_cond y.toBitVec
  have h3 := y.toBitVec.isLt
  have e0 : (0 : Int32).toInt = 0 := rfl
  by_cases hy : y < 0
  · rw [if_pos hy]
    have h4 := i_lt.mp hy
    apply Int32.toBitVec_inj.mp
    apply BitVec.eq_of_toNat_eq
    rw [h1]
    show _ = 1
    split at h2 <;> omega
  · rw [if_neg hy]
    have h4 := n_lt hy
    apply Int32.toBitVec_inj.mp
    apply BitVec.eq_of_toNat_eq
    rw [h1]
    show _ = 0
    split at h2 <;> omega
theorem sg_eq (y : Int32) : fJ6_signum_0f7a4 y = some (if 0 < y then 1 else if y = 0 then 0 else -1) := by
  unfold fJ6_signum_0f7a4
  rw [shr31, ushr31]
  have e0 : (0 : Int32).toInt = 0 := rfl
  have h := i_rng y
  congr 1
  by_cases h1 : 0 < y
  · have h2 := i_lt.mp h1
    have h3 : ¬ y < 0 := fun q => by have := i_lt.mp q; omega
    have h4 : -y < 0 := i_lt.mpr (by rw [i_neg (by omega)]; omega)
    rw [if_pos h1, if_neg h3, if_pos h4]
    decide
  · by_cases h2 : y = 0
    · subst h2
      decide
    · have h3 : y < 0 := i_lt.mpr (by have q1 := n_lt h1; have q2 := n_eq h2; omega)
      rw [if_neg h1, if_neg h2, if_pos h3]
      split <;> decide
