-- questions: kinds, slacks (the numbers that may be)
theorem nI_or {a b : Nat} (ha : a < 2 ^ 31) (hb : b < 2 ^ 31) : nI a ||| nI b = nI (a ||| b) := by
  apply Int32.toBitVec_inj.mp
  apply BitVec.eq_of_toNat_eq
  rw [Int32.toBitVec_or, BitVec.toNat_or, pk_tn (by omega), pk_tn (by omega), pk_tn (Nat.lt_trans (Nat.or_lt_two_pow ha hb) (by decide))]
theorem shl_v : ∀ v, v < 10 → (1 : Int32) <<< (nI v &&& 31) = nI (2 ^ v) := by decide
/-- where the last arm is, behind k steps, with a number v put at a place c -/
def pgv (st : Nat → Int32) (c v : Nat) : Nat → Int32 := cpv 200 160 40 (upd (cpv 0 200 40 st) (200 + c) (nI v))
def Lk (st : Nat → Int32) (c na v k : Nat) : Int32 := leadv 160 (itS 160 k (pgv st c v)) na
theorem it_cong {B : Int} (hB0 : 0 ≤ B) {na ns nt k : Nat} (hk : k ≤ 100) (hB : B + 900 ≤ 1000000) (hnt : nt ≤ 9999) {s s' : Nat → Int32} {hd : Int32} {K S P T W R : Nat → Int32} (g : GR B 160 na ns nt s hd K S P T W R) (g' : GR B 160 na ns nt s' hd K S P T W R) : leadv 160 (itS 160 k s) na = leadv 160 (itS 160 k s') na := by
  obtain ⟨-, P1, T1, W1, s1, -, s3⟩ := steps_sim (b := 160) (by decide) k B nt s hd P T W hB0 (by omega) (by omega) g
  obtain ⟨-, P2, T2, W2, u1, -, u3⟩ := steps_sim (b := 160) (by decide) k B nt s' hd P T W hB0 (by omega) (by omega) g'
  have a1 := s1 0 k xF 0 0 (by omega) (by omega) (by show k < 1000; omega)
  have a2 := u1 0 k xF 0 0 (by omega) (by omega) (by show k < 1000; omega)
  have e := a1.symm.trans a2
  injection e with e
  injection e with e1 e
  injection e with e2 e
  injection e with e3 e
  injection e with e4 e
  injection e with e5 e
  have l1 := last_c s3
  have l2 := last_c u3
  rw [e1, e5] at l1
  have := l1.symm.trans l2
  injection this
section NUM
variable {i : Nat} {st : Nat → Int32} {arms strokes hand step : Int32} {kind slack place turn way stroke : Nat → Int32} {n : Nat} {sR aR pR seen : Nat → Int32}
theorem num_loop {B : Int} (hB0 : 0 ≤ B) {na ns nt a c top : Nat} (hB : B + 900 ≤ 1000000) (hnt : nt ≤ 9999) (hna1 : 1 ≤ na) (hc : c < 20) (htop : top ≤ 9) (w : Int32) (hmost : fX4_mostOf w = some (nI top)) (hs : SeenOk seen n) (hr : ∀ j, j < n → sR j = seen (3 * j) ∧ aR j = seen (3 * j + 1) ∧ pR j = seen (3 * j + 2)) (g : GR B 0 na ns nt st hand kind slack place turn way stroke)
    (hch : ∀ (v : Nat) (K S P T W R : Nat → Int32), v ≤ top → GR B 0 na ns nt st hand K S P T W R → ∃ K2 S2 : Nat → Int32, fX0_changeSetting (nI a) w (nI v) K S T = some (K2, S2, T) ∧ GR B 200 na ns nt (upd (cpv 0 200 40 st) (200 + c) (nI v)) hand K2 S2 P T W R) :
    ∀ (q v n1 n2 z : Nat) (stc lb : Nat → Int32) (m t : Int32) (ta ts th tp tv rv : Int32) (tK tS tP tT tW tR : Nat → Int32), v + q = top + 1 → q < n1 → q < n2 → z < 2 ^ v → FrL st stc → (∀ j, j < 40 → j ≠ c → stc (200 + j) = st j) →
    ∃ (z' : Nat) (m' t' : Int32) (st' lb' : Nat → Int32), (∃ X, fX4_settingsAsSeen_L5 (nI na) (nI ns) hand (nI nt) kind slack place turn way stroke (nI n) sR aR pR n1 (nI a) w (nI z) (nI v) ta ts th tp tv rv tK tS tP tT tW tR = some (nI z', X)) ∧ fX5_numbersAt_L13 (nI n) seen n2 (nI c) (nI (top + 1)) (nI z) (nI v) m t stc lb = some (nI z', m', t', st', lb') ∧ z' < 2 ^ (top + 1) ∧ FrL st st' ∧ (∀ v' k, v ≤ v' → v' ≤ top → k ≤ 40 → lb' (41 * v' + k) = Lk st c na v' k) ∧ (∀ j, j < 41 * v → lb' j = lb j) := by
  have hn := hs.1
  have hna := g.1
  intro q
  induction q with
  | zero =>
    intro v n1 n2 z stc lb m t ta ts th tp tv rv tK tS tP tT tW tR hq hn1 hn2 hz hf hp
    obtain ⟨n1, rfl⟩ : ∃ z, n1 = z + 1 := ⟨n1 - 1, by omega⟩
    obtain ⟨n2, rfl⟩ : ∃ z, n2 = z + 1 := ⟨n2 - 1, by omega⟩
    have e : v = top + 1 := by omega
    subst e
    rw [fX4_settingsAsSeen_L5, fX5_numbersAt_L13]
    rw [hmost, cl1_s, if_pos ((nI_ltI (by omega) (by omega)).mpr (by omega)), if_pos (Int32.le_refl _)]
    exact ⟨z, _, _, _, _, ⟨_, rfl⟩, rfl, hz, hf, fun v' k h1 h2 => absurd h1 (by omega), fun _ _ => rfl⟩
  | succ q ih =>
    intro v n1 n2 z stc lb m t ta ts th tp tv rv tK tS tP tT tW tR hq hn1 hn2 hz hf hp
    obtain ⟨n1, rfl⟩ : ∃ z, n1 = z + 1 := ⟨n1 - 1, by omega⟩
    obtain ⟨n2, rfl⟩ : ∃ z, n2 = z + 1 := ⟨n2 - 1, by omega⟩
    obtain ⟨K', S', P', T', W', R', e1, g1⟩ := copy_GR g ta ts th tp tv rv tK tS tP tT tW tR
    obtain ⟨K2, S2, e2, g2⟩ := hch v K' S' P' T' W' R' (by omega) g1
    have g3 : GR B 200 na ns nt (upd stc (200 + c) (nI v)) hand K2 S2 P' T' W' R' := g2.page (fun j hj => by
      by_cases e : j = c
      · subst e; rw [upd_s, upd_s]
      · rw [upd_n _ _ (by omega), upd_n _ _ (by omega), cpv_in (by omega) (by omega), hp j hj e, show 0 + (200 + j - 200) = j by omega])
    have g4 := g3.cp 160
    have g5 : GR B 160 na ns nt (pgv st c v) hand K2 S2 P' T' W' R' := g2.cp 160
    have h20 : cpv 200 160 40 (upd stc (200 + c) (nI v)) 20 = nI na := by
      rw [cpv_out (by omega), upd_n _ _ (by omega), hf 20 (by omega)]
      have := g.2.2.1
      rw [Nat.zero_add] at this
      exact this
    obtain ⟨r, X, a1, a2, a3⟩ := agree_c hs hr hB0 (by omega) hnt 0 0 g4
    obtain ⟨r', m1, t1, s1, lb1, b1, b2, b3, b4, b5, b6⟩ := isK_r (v := v) (by omega) hna1 hs 41 0 xF B nt _ hand P' T' W' 1 m t lb (by omega) (by decide) hB0 (by omega) (by omega) g4 h20 (Or.inl rfl)
    have er : r = r' := by
      have : r = 1 ↔ r' = 1 := by
        rw [a3, b3]
        exact ⟨fun h => ⟨rfl, fun j hj => by rw [Nat.zero_add]; exact h j hj⟩, fun h j hj => by have := h.2 j hj; rw [Nat.zero_add] at this; exact this⟩
      rcases a2 with rfl | rfl
      · exact (this.mp rfl).symm
      · rcases b2 with rfl | rfl
        · exact absurd (this.mpr rfl) d01
        · rfl
    subst er
    obtain ⟨x1, x2, x3, x4, x5, x6, x7⟩ := X
    have hf' : FrL st s1 := (FrL.tr hf (FrL.tr (fun j hj => upd_n _ _ (by omega)) (fun j hj => cpv_out (by omega)))).tr (b6.L (by decide))
    have hp' : ∀ j, j < 40 → j ≠ c → s1 (200 + j) = st j := fun j hj e => by rw [b6 (200 + j) (by omega), cpv_out (by omega), upd_n _ _ (by omega)]; exact hp j hj e
    have hcp : fX5_copies 200 160 (upd stc (200 + c) (nI v)) = some (cpv 200 160 40 (upd stc (200 + c) (nI v))) := copies_r (f := 200) (t := 160) (by decide) (by decide) (by decide) _
    rw [nI_0] at b1
    have his : fX5_isAsSeen 200 (nI v) m t (nI n) (upd stc (200 + c) (nI v)) seen lb = some (r, m1, t1, s1, lb1) := by
      unfold fX5_isAsSeen
      rw [hcp, cl1_s, b1]
    have z0 : nI z ||| 0 = nI z := Int32.or_zero
    have hp2 : (2 : Nat) ^ v < 2 ^ 31 := Nat.pow_lt_pow_right (by decide) (by omega)
    have z1 : nI z ||| nI (2 ^ v) = nI (z ||| 2 ^ v) := nI_or (by omega) hp2
    have hzz : z ||| 2 ^ v < 2 ^ (v + 1) := Nat.or_lt_two_pow (Nat.lt_trans hz (by rw [Nat.pow_succ]; omega)) (by rw [Nat.pow_succ]; omega)
    have hz1 : z < 2 ^ (v + 1) := Nat.lt_trans hz (by rw [Nat.pow_succ]; omega)
    rw [fX4_settingsAsSeen_L5, fX5_numbersAt_L13]
    rw [hmost, cl1_s, if_neg (fun q => by have := (nI_ltI (by omega) (by omega)).mp q; omega), if_neg (fun q => by have := (nI_leI (by omega) (by omega)).mp q; omega), cl12_mk e1, cl3_mk e2, cl8_mk a1, show (200 : Int32) + nI c = nI (200 + c) from nI_add 200 c, chk_pos (xin_nI (by omega) (by omega)), cN (by omega)]
    simp only [bnd_s]
    rw [cl5_mk his, shl_v v (by omega)]
    unfold fX4_settingsAsSeen_L57 fX5_numbersAt_L52
    simp only [bnd_s, nI_1, z0, z1]
    have fin : ∀ (z' : Nat) (m' t' : Int32) (st' lb' : Nat → Int32), (∀ v' k, v + 1 ≤ v' → v' ≤ top → k ≤ 40 → lb' (41 * v' + k) = Lk st c na v' k) → (∀ j, j < 41 * (v + 1) → lb' j = lb1 j) → (∀ v' k, v ≤ v' → v' ≤ top → k ≤ 40 → lb' (41 * v' + k) = Lk st c na v' k) ∧ (∀ j, j < 41 * v → lb' j = lb j) := by
      intro z' m' t' st' lb' q1 q2
      refine ⟨fun v' k h1 h2 h3 => ?_, fun j hj => by rw [q2 j (by omega), b5 j (by omega)]⟩
      by_cases u : v' = v
      · subst u
        have := b4 k (by omega)
        rw [Nat.add_zero] at this
        rw [q2 _ (by omega), this]
        exact it_cong hB0 (by omega) hB hnt g4 g5
      · exact q1 v' k (by omega) h2 h3
    rcases a2 with rfl | rfl
    · rw [if_neg d10, if_neg d10]
      obtain ⟨z', m', t', st', lb', i1, i2, i3, i4, i5, i6⟩ := ih (v + 1) n1 n2 (z ||| 2 ^ v) s1 lb1 m1 t1 (nI na) (nI ns) x1 x2 x3 x4 K2 S2 x5 x6 x7 R' (by omega) (by omega) (by omega) hzz hf' hp'
      obtain ⟨f1, f2⟩ := fin z' m' t' st' lb' i5 i6
      exact ⟨z', m', t', st', lb', i1, i2, i3, i4, f1, f2⟩
    · rw [if_pos rfl, if_pos rfl]
      obtain ⟨z', m', t', st', lb', i1, i2, i3, i4, i5, i6⟩ := ih (v + 1) n1 n2 z s1 lb1 m1 t1 (nI na) (nI ns) x1 x2 x3 x4 K2 S2 x5 x6 x7 R' (by omega) (by omega) (by omega) hz1 hf' hp'
      obtain ⟨f1, f2⟩ := fin z' m' t' st' lb' i5 i6
      exact ⟨z', m', t', st', lb', i1, i2, i3, i4, f1, f2⟩
theorem RS.ok {size many : Int32} (h : RS size sR aR pR many seen) : ∃ n : Nat, size = nI n ∧ many = nI n ∧ SeenOk seen n ∧ ∀ j, j < n → sR j = seen (3 * j) ∧ aR j = seen (3 * j + 1) ∧ pR j = seen (3 * j + 2) := by
  obtain ⟨n, h1, h2, h3, h4⟩ := h
  exact ⟨n, h2, h3, ⟨h1, fun j hj => ⟨(h4 j hj).2.2.2.1, (h4 j hj).2.2.2.2⟩⟩, fun j hj => ⟨(h4 j hj).1, (h4 j hj).2.1, (h4 j hj).2.2.1⟩⟩
theorem hchS {B : Int} {na ns nt k : Nat} (hk : k < na) : ∀ (v : Nat) (K S P T W R : Nat → Int32), v ≤ 9 → GR B 0 na ns nt st hand K S P T W R → ∃ K2 S2 : Nat → Int32, fX0_changeSetting (nI k) 1 (nI v) K S T = some (K2, S2, T) ∧ GR B 200 na ns nt (upd (cpv 0 200 40 st) (200 + (4 + k)) (nI v)) hand K2 S2 P T W R := by
  intro v K S P T W R hv gg
  have hna := gg.1
  have g2 := (gg.cp 200).setS hk (v := nI v) (by rw [nI_toInt (by omega)]; omega) (by rw [nI_toInt (by omega)]; omega)
  rw [Nat.add_assoc] at g2
  exact ⟨_, _, (chg_c (by omega) _ _ _ _).2.1, g2⟩
theorem hchK {B : Int} {na ns nt k : Nat} (hk : k < na) : ∀ (v : Nat) (K S P T W R : Nat → Int32), v ≤ 3 → GR B 0 na ns nt st hand K S P T W R → ∃ K2 S2 : Nat → Int32, fX0_changeSetting (nI k) 0 (nI v) K S T = some (K2, S2, T) ∧ GR B 200 na ns nt (upd (cpv 0 200 40 st) (200 + k) (nI v)) hand K2 S2 P T W R := by
  intro v K S P T W R hv gg
  have hna := gg.1
  exact ⟨_, _, (chg_c (by omega) _ _ _ _).1, (gg.cp 200).setK hk (by rw [nI_toInt (by omega)]; omega) (by rw [nI_toInt (by omega)]; omega)⟩
theorem op_kinds (a1 m t : Int32) (lb : Nat → Int32) (ta ts th tp tv rv : Int32) (tK tS tP tT tW tR : Nat → Int32) {size many : Int32} (hi : i < 512) (hN : RN i st arms strokes hand step kind slack place turn way stroke) (hS : RS size sR aR pR many seen) : ∃ qr T m' t' st' lb', fX4_kinds a1 arms strokes hand step kind slack place turn way stroke ta ts th tp tv rv tK tS tP tT tW tR size sR aR pR = some (qr, T) ∧ fX5_kinds a1 m t many st seen lb = some (qr, m', t', st', lb') ∧ FrL st st' := by
  obtain ⟨na, ns, nt, rfl, rfl, rfl, hnt, g⟩ := hN
  obtain ⟨n, rfl, rfl, hs, hr⟩ := hS.ok
  have h20 : st 20 = nI na := by have := g.2.2.1; rw [Nat.zero_add] at this; exact this
  have hna := g.1
  unfold fX4_kinds fX5_kinds
  rw [ia_eq, gate, ma_eq, h20, gate]
  by_cases c : 0 ≤ a1 ∧ a1 ≤ nI na - 1
  · simp only [if_pos c]
    obtain ⟨k, hk, rfl⟩ := of_idx (by omega) c.1 c.2
    obtain ⟨z', m', t', st', lb', ⟨X, r1⟩, r2, r3, r4, -, -⟩ := num_loop (B := 900 * (i : Int)) (by omega) (a := k) (c := k) (top := 3) (by omega) hnt (by omega) (by omega) (by decide) 0 rfl hs hr g (hchK hk) 4 0 xF xF 0 (cpv 0 200 40 st) lb m t ta ts th tp tv rv tK tS tP tT tW tR (by omega) (by decide) (by decide) (by decide) (fun j hj => cpv_out (by omega)) (fun j hj _ => by rw [cpv_in (by omega) (by omega), show 0 + (200 + j - 200) = j by omega])
    rw [nI_0] at r1 r2
    have hcp : fX5_copies 0 200 st = some (cpv 0 200 40 st) := copies_r (f := 0) (t := 200) (by decide) (by decide) (by decide) st
    have r2' : fX5_numbersAt (nI k) 4 m t (nI n) st seen lb = some (nI z', m', t', st', lb') := by
      unfold fX5_numbersAt
      rw [hcp, cl1_s]
      exact r2
    obtain ⟨x1, x2, x3, x4, x5, x6, x7, x8, x9, x10, x11, x12⟩ := X
    have r1' : fX4_settingsAsSeen (nI k) 0 (nI na) (nI ns) hand (nI nt) kind slack place turn way stroke ta ts th tp tv rv tK tS tP tT tW tR (nI n) sR aR pR = _ := r1
    rw [cl13_mk r1', cl5_mk r2']
    exact ⟨_, _, _, _, _, _, rfl, rfl, r4⟩
  · simp only [if_neg c]
    exact ⟨_, _, _, _, _, _, rfl, rfl, FrL.rf⟩
theorem op_slacks (a1 m t : Int32) (lb : Nat → Int32) (ta ts th tp tv rv : Int32) (tK tS tP tT tW tR : Nat → Int32) {size many : Int32} (hi : i < 512) (hN : RN i st arms strokes hand step kind slack place turn way stroke) (hS : RS size sR aR pR many seen) : ∃ qr T m' t' st' lb', fX4_slacks a1 arms strokes hand step kind slack place turn way stroke ta ts th tp tv rv tK tS tP tT tW tR size sR aR pR = some (qr, T) ∧ fX5_slacks a1 m t many st seen lb = some (qr, m', t', st', lb') ∧ FrL st st' := by
  obtain ⟨na, ns, nt, rfl, rfl, rfl, hnt, g⟩ := hN
  obtain ⟨n, rfl, rfl, hs, hr⟩ := hS.ok
  have h20 : st 20 = nI na := by have := g.2.2.1; rw [Nat.zero_add] at this; exact this
  have hna := g.1
  unfold fX4_slacks fX5_slacks
  rw [ia_eq, gate, ma_eq, h20, gate]
  by_cases c : 0 ≤ a1 ∧ a1 ≤ nI na - 1
  · simp only [if_pos c]
    obtain ⟨k, hk, rfl⟩ := of_idx (by omega) c.1 c.2
    obtain ⟨z', m', t', st', lb', ⟨X, r1⟩, r2, r3, r4, -, -⟩ := num_loop (B := 900 * (i : Int)) (by omega) (a := k) (c := 4 + k) (top := 9) (by omega) hnt (by omega) (by omega) (by decide) 1 rfl hs hr g (hchS hk) 10 0 xF xF 0 (cpv 0 200 40 st) lb m t ta ts th tp tv rv tK tS tP tT tW tR (by omega) (by decide) (by decide) (by decide) (fun j hj => cpv_out (by omega)) (fun j hj _ => by rw [cpv_in (by omega) (by omega), show 0 + (200 + j - 200) = j by omega])
    rw [nI_0] at r1 r2
    have hcp : fX5_copies 0 200 st = some (cpv 0 200 40 st) := copies_r (f := 0) (t := 200) (by decide) (by decide) (by decide) st
    have r2' : fX5_numbersAt (nI (4 + k)) 10 m t (nI n) st seen lb = some (nI z', m', t', st', lb') := by
      unfold fX5_numbersAt
      rw [hcp, cl1_s]
      exact r2
    obtain ⟨x1, x2, x3, x4, x5, x6, x7, x8, x9, x10, x11, x12⟩ := X
    have r1' : fX4_settingsAsSeen (nI k) 1 (nI na) (nI ns) hand (nI nt) kind slack place turn way stroke ta ts th tp tv rv tK tS tP tT tW tR (nI n) sR aR pR = _ := r1
    rw [show (4 : Int32) + nI k = nI (4 + k) from nI_add 4 k, cl13_mk r1', cl5_mk r2']
    exact ⟨_, _, _, _, _, _, rfl, rfl, r4⟩
  · simp only [if_neg c]
    exact ⟨_, _, _, _, _, _, rfl, rfl, FrL.rf⟩
end NUM
