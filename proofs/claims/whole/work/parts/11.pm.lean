-- the text: lines
def GP (na ns : Nat) (rp : Nat → Int32) (K S P T W R : Nat → Int32) : Prop := GR 0 0 na ns 0 rp 0 K S P T W R ∧ ∀ j, 8 ≤ j → j < 20 → rp j = 0
section LN
variable {na ns : Nat} {rp K S P T W R : Nat → Int32}
theorem GP.lead (g : GP na ns rp K S P T W R) : leadv 0 rp na = 0 := by
  have hna := g.1.1
  unfold leadv
  split
  · exact g.1.2.2.2.2.2.1.symm
  · exact g.2 _ (by omega) (by omega)
theorem GP.arm (g : GP na ns rp K S P T W R) (ha : na < 4) {q : Nat} (hq : q < 4) {v : Int32} (h0 : 0 ≤ v.toInt) (h9 : v.toInt ≤ 9) : GP (na + 1) ns (upd (upd (upd rp na (nI q)) (4 + na) v) 20 (nI (na + 1))) (upd K na (nI q)) (upd S na v) (upd P na 0) (upd T na 0) (upd W na 0) R := by
  have hh := g.1.hang (Int.le_refl 0) ha (k := nI q) (s := v) (by rw [nI_toInt (by omega)]; omega) ⟨h0, h9⟩
  rw [g.lead] at hh
  simp only [Nat.zero_add] at hh
  refine ⟨hh.page (fun j hj => ?_), fun j h1 h2 => ?_⟩
  · rw [Nat.zero_add]
    by_cases e20 : j = 20
    · rw [e20, upd_s, upd_s]
    · rw [upd_n _ _ e20, upd_n _ _ e20]
      by_cases e16 : j = 16 + na
      · rw [e16, upd_s, upd_n _ _ (by omega), upd_n _ _ (by omega)]
        exact g.2 _ (by omega) (by omega)
      · rw [upd_n (j := j) (k := 16 + na) _ _ e16]
        by_cases e12 : j = 12 + na
        · rw [e12, upd_s, upd_n _ _ (by omega), upd_n _ _ (by omega)]
          exact g.2 _ (by omega) (by omega)
        · rw [upd_n (j := j) (k := 12 + na) _ _ e12]
          by_cases e8 : j = 8 + na
          · rw [e8, upd_s, upd_n _ _ (by omega), upd_n _ _ (by omega)]
            exact g.2 _ (by omega) (by omega)
          · rw [upd_n (j := j) (k := 8 + na) _ _ e8]
  · rw [upd_n _ _ (by omega), upd_n _ _ (by omega), upd_n _ _ (by omega)]
    exact g.2 j h1 h2
theorem GP.str (g : GP na ns rp K S P T W R) (hs : ns < 16) {v : Int32} (h1 : -9 ≤ v.toInt) (h2 : v.toInt ≤ 9) : GP na (ns + 1) (upd (upd rp (21 + ns) v) 37 (nI (ns + 1))) K S P T W (upd R ns v) := by
  have hh := g.1.add hs h1 h2
  simp only [Nat.zero_add] at hh
  refine ⟨hh, fun j h1 h2 => ?_⟩
  rw [upd_n _ _ (by omega), upd_n _ _ (by omega)]
  exact g.2 j h1 h2
theorem app_c (g : GP na ns rp K S P T W R) (ha : na < 4) (k v : Int32) : fX0_appendArm k v (nI na) 0 K S P T W = some (1, nI (na + 1), upd K na k, upd S na v, upd P na 0, upd T na 0, upd W na 0) := by
  have hl := last_c g.1
  rw [g.lead] at hl
  unfold fX0_appendArm
  rw [if_pos (show nI na < (4 : Int32) from (nI_ltI (b := 4) (by omega) (by omega)).mpr ha), hl, cl1_s]
  simp only [chk_pos (xin_nI (show na < 4 by omega) (show na < 2 ^ 31 by omega)), bnd_s, cN (show na < 1000000 by omega), nI_1]
theorem rd_b {br : Int32} (h : 0 < br.toInt) (taped ba sp he tk val : Int32) (tape : Nat → Int32) : fX5_readsOn taped br ba sp he tk val tape = some (br, ba, sp, he, tk, val) := by
  unfold fX5_readsOn
  rw [if_neg (fun q => by have := i_le.mp q; have e0 : (0 : Int32).toInt = 0 := rfl; omega)]
theorem num_bad {tk : Int32} (h : ¬ tk = 2) (taped ba sp he val : Int32) (tape : Nat → Int32) : fX5_number 0 9 taped 0 ba sp he tk val tape = some (0, 2, he, sp, he, tk, val) := by
  unfold fX5_number fX5_fails
  rw [if_pos rfl, if_neg h, if_pos rfl]
  show fX5_number_L20 taped tape 0 9 2 he sp he tk val = _
  unfold fX5_number_L20 fX5_number_L47 fX5_number_L62
  rw [if_neg d20, if_neg d20, rd_b (by decide)]
  rfl
theorem num_big {val : Int32} (h : ¬ val ≤ 9) (taped ba sp he : Int32) (tape : Nat → Int32) : fX5_number 0 9 taped 0 ba sp he 2 val tape = some (0, 3, he, sp, he, 2, val) := by
  have d30 : ¬ (3 : Int32) = 0 := by decide
  unfold fX5_number fX5_fails
  rw [if_pos rfl, if_pos rfl]
  unfold fX5_number_L20 fX5_fails
  rw [if_pos rfl, in_eq val 0 9 _ _ rfl rfl, gate, if_neg (fun q => h q.2), if_pos rfl]
  show fX5_number_L47 taped tape 0 3 he sp he 2 val = _
  unfold fX5_number_L47 fX5_number_L62
  rw [if_neg d30, rd_b (by decide)]
  rfl
theorem num_ok {val : Int32} (h0 : 0 ≤ val) (h9 : val ≤ 9) (taped ba sp he : Int32) (tape : Nat → Int32) {u4 u5 u6 u7 u8 u9 : Int32} (hr : fX5_readsOn taped 0 ba sp he 2 val tape = some (u4, u5, u6, u7, u8, u9)) : fX5_number 0 9 taped 0 ba sp he 2 val tape = some (val, u4, u5, u6, u7, u8, u9) := by
  unfold fX5_number
  rw [if_pos rfl, if_pos rfl]
  unfold fX5_number_L20
  rw [if_pos rfl, in_eq val 0 9 _ _ rfl rfl, gate, if_pos ⟨h0, h9⟩]
  unfold fX5_number_L47 fX5_number_L62
  rw [if_pos rfl, cl6_mk hr]
/-- the line's last part, on both sides -/
theorem more_r (g : GP na ns rp K S P T W R) {q : Nat} (hq : q < 6) (ha : q < 4 → na < 4) (hs : 4 ≤ q → ns < 16) {taped br ba sp he tk val r2 u3 u4 u5 u6 u7 u8 : Int32} {tape : Nat → Int32} (hnum : fX5_number 0 9 taped br ba sp he tk val tape = some (r2, u3, u4, u5, u6, u7, u8)) : ∃ rp', fX5_readMore (nI q) taped br ba sp he tk val rp tape = some (u3, u4, u5, u6, u7, u8, rp') ∧ (0 ≤ r2.toInt → r2.toInt ≤ 9 → ∃ (na' ns' : Nat) (K' S' P' T' W' R' : Nat → Int32), GP na' ns' rp' K' S' P' T' W' R' ∧ ∀ (len : Int32) (bytes : Nat → Int32) (f fp t1 t2 t3 : Int32), (if (4 : Int32) ≤ nI q then if nI q = 5 then fX3_takeLine_L137 len bytes 0 (-r2) f fp t1 t2 t3 (nI na) (nI ns) K S P T W R else fX3_takeLine_L137 len bytes 0 r2 f fp t1 t2 t3 (nI na) (nI ns) K S P T W R else cl7 (fX0_appendArm (nI q) r2 (nI na) 0 K S P T W) (fun r40 u41 u42 u43 u44 u45 u46 => chk (xbz r40) (some (r40, f, fp, t1, t2, t3, u41, nI ns, u42, u43, u44, u45, u46, R)))) = some (1, f, fp, t1, t2, t3, nI na', nI ns', K', S', P', T', W', R')) := by
  have h20 : rp 20 = nI na := by have := g.1.2.2.1; rw [Nat.zero_add] at this; exact this
  have h37 : rp 37 = nI ns := by have := g.1.2.2.2.1; rw [Nat.zero_add] at this; exact this
  have b1 : xbz (1 : Int32) := Or.inr rfl
  unfold fX5_readMore
  by_cases c : q < 4
  · have ha' := ha c
    have x20 : xin (20 : Int32) 40 := by decide
    rw [if_neg (show ¬ (3 : Int32) < nI q from fun z => by have := (nI_ltI (a := 3) (by omega) (by omega)).mp z; omega)]
    rw [chk_pos x20, cl_20, h20, chk_pos (xin_nI (by omega) (by omega)), cN (by omega), bnd_s, chk_pos x20, cl7_mk hnum, upd_n _ _ (show 20 ≠ na by omega), h20, show (4 : Int32) + nI na = nI (4 + na) from nI_add 4 na, chk_pos (xin_nI (by omega) (by omega)), cN (by omega), bnd_s, chk_pos x20, upd_n _ _ (show 20 ≠ 4 + na by omega), upd_n _ _ (show 20 ≠ na by omega), h20, bnd_s, nI_1, chk_pos x20, bnd_s]
    refine ⟨_, rfl, fun h0 h9 => ⟨na + 1, ns, _, _, _, _, _, _, g.arm ha' c h0 h9, fun len bytes f fp t1 t2 t3 => ?_⟩⟩
    rw [if_neg (show ¬ (4 : Int32) ≤ nI q from fun z => by have := (nI_leI (a := 4) (by omega) (by omega)).mp z; omega), cl7_mk (app_c g ha' _ _), chk_pos b1]
  · have hs' := hs (by omega)
    have x37 : xin (37 : Int32) 40 := by decide
    rw [if_pos (show (3 : Int32) < nI q from (nI_ltI (a := 3) (by omega) (by omega)).mpr (by omega)), cl7_mk hnum, chk_pos x37, cl_37, h37, show (21 : Int32) + nI ns = nI (21 + ns) from nI_add 21 ns]
    have key : ∀ y : Int32, fX5_readMore_L84 taped tape (nI (21 + ns)) y u3 u4 u5 u6 u7 u8 rp = some (u3, u4, u5, u6, u7, u8, upd (upd rp (21 + ns) y) 37 (nI (ns + 1))) := fun y => by
      unfold fX5_readMore_L84
      rw [chk_pos (xin_nI (by omega) (by omega)), cN (by omega), bnd_s, chk_pos x37, cl_37, bnd_s, upd_n _ _ (show 37 ≠ 21 + ns by omega), h37, nI_1, chk_pos x37, bnd_s]
    have key2 : ∀ (len : Int32) (bytes : Nat → Int32) (y f fp t1 t2 t3 : Int32), fX3_takeLine_L137 len bytes 0 y f fp t1 t2 t3 (nI na) (nI ns) K S P T W R = some (1, f, fp, t1, t2, t3, nI na, nI (ns + 1), K, S, P, T, W, upd R ns y) := fun len bytes y f fp t1 t2 t3 => by
      unfold fX3_takeLine_L137
      rw [cl3_mk (add_c hs' y R), chk_pos b1]
    have h4 : (4 : Int32) ≤ nI q := (nI_leI (a := 4) (by omega) (by omega)).mpr (by omega)
    rcases (by omega : q = 4 ∨ q = 5) with rfl | rfl
    · rw [if_pos (show nI 4 = 4 from rfl), key]
      refine ⟨_, rfl, fun h0 h9 => ⟨na, ns + 1, K, S, P, T, W, _, g.str hs' (by omega) h9, fun len bytes f fp t1 t2 t3 => ?_⟩⟩
      rw [if_pos h4, if_neg (show ¬ nI 4 = 5 by decide), key2]
    · rw [if_neg (show ¬ nI 5 = 4 by decide), key]
      refine ⟨_, rfl, fun h0 h9 => ⟨na, ns + 1, K, S, P, T, W, _, g.str hs' (by rw [i_neg (by omega)]; omega) (by rw [i_neg (by omega)]; omega), fun len bytes f fp t1 t2 t3 => ?_⟩⟩
      rw [if_pos h4, if_pos (show nI 5 = 5 from rfl), key2]
theorem st_ok (k f fp ts : Int32) : fX3_stands k f fp k ts = some (1, f, fp) := if_pos rfl
theorem st_no {k t f fp ts : Int32} (h : ¬ t = k) : fX3_stands k f fp t ts = some (0, if t = 1 then 1 else 2, ts) := by
  have b0 : xbz (0 : Int32) := Or.inl rfl
  unfold fX3_stands fX3_stands_L24 fX3_refuse
  rw [if_neg h]
  by_cases u : t = 1
  · rw [if_pos u, if_pos u, cl3_mk rfl, chk_pos b0]
  · rw [if_neg u, if_neg u, cl3_mk rfl, chk_pos b0]
end LN
section LN2
variable {na ns n : Nat} {rp K S P T W R bytes tape : Nat → Int32}
def Out (n : Nat) (tape : Nat → Int32) (ba fp : Int32) (e : Nat) (C : Option (Int32 × Int32 × Int32 × Int32 × Int32 × Int32 × Int32 × Int32 × (Nat → Int32) × (Nat → Int32) × (Nat → Int32) × (Nat → Int32) × (Nat → Int32) × (Nat → Int32))) (D : Option (Int32 × Int32 × Int32 × Int32 × Int32 × Int32 × (Nat → Int32))) : Prop :=
  (∃ f p X Y, C = some (0, f, p, X) ∧ D = some (f, p, Y) ∧ 0 < f.toInt) ∨ (∃ (s3 e3 na' ns' : Nat) (h3 v3 : Int32) (K' S' P' T' W' R' rp' : Nat → Int32), C = some (1, 0, fp, 4, nI s3, nI e3, nI na', nI ns', K', S', P', T', W', R') ∧ D = cl6 (fX5_readsOn (nI n) 0 ba (nI e3) h3 3 v3 tape) (fun u25 u26 u27 u28 u29 u30 => some (u25, u26, u27, u28, u29, u30, rp')) ∧ e < e3 ∧ e3 ≤ n ∧ GP na' ns' rp' K' S' P' T' W' R')
theorem line_num (hT : Tp n bytes tape) (g : GP na ns rp K S P T W R) {q e : Nat} (hq : q < 6) (ha : q < 4 → na < 4) (hs : 4 ≤ q → ns < 16) (he : e ≤ n) (ba fp ts he0 tk0 val0 : Int32) : Out n tape ba fp e (fX3_takeLine_L56 (nI n) bytes 0 (nI q) 0 fp 2 ts (nI e) (nI na) (nI ns) K S P T W R) (fX5_readLine_L61 (nI n) tape xEnds xLetters (nI q) 0 ba (nI e) he0 tk0 val0 rp) := by
  have b0 : xbz (0 : Int32) := Or.inl rfl
  have e0 : (0 : Int32).toInt = 0 := rfl
  obtain ⟨s2, e2, k2, br2, ba2, sp2, tk2, val2, o1, o2, o3, o4, c2, r2, t2⟩ := tok_both hT he 2 ts ba he0 tk0 val0
  unfold fX3_takeLine_L56 fX5_readLine_L61
  rw [cl3_mk c2, cl6_mk r2]
  rcases t2 with ⟨rfl, rfl, rfl, t2⟩ | ⟨rfl, rfl, rfl⟩
  · rw [if_pos (show (0 : Int32) ≤ 0 by decide)]
    have bad : ¬ k2 = 1 → ¬ k2 = 3 → ¬ tk2 = 2 → Out n tape ba2 fp e (cl3 (fX3_stands 3 0 fp k2 (nI s2)) (fun r15 u16 u17 => if r15 = 0 then some (0, u16, u17, k2, nI s2, nI e2, nI na, nI ns, K, S, P, T, W, R) else cl1 (fX3_numberOfToken (nI s2) (nI e2) bytes) (fun r20 => if nI q < 4 then fX3_takeLine_L88 (nI n) bytes 0 (nI q) r20 r20 9 u16 u17 k2 (nI s2) (nI e2) (nI na) (nI ns) K S P T W R else fX3_takeLine_L88 (nI n) bytes 0 (nI q) r20 r20 9 u16 u17 k2 (nI s2) (nI e2) (nI na) (nI ns) K S P T W R))) (cl7 (fX5_readMore (nI q) (nI n) 0 ba2 (nI e2) (nI s2) tk2 val2 rp tape) (fun u16 u17 u18 u19 u20 u21 u22 => if u16 = 0 then if u20 = 3 then fX5_readLine_L98 (nI n) tape xEnds xLetters u16 u17 u18 u19 u20 u21 u22 else cl2 (fX5_fails 2 u16 u17 u19) (fun u33 u34 => fX5_readLine_L98 (nI n) tape xEnds xLetters u33 u34 u18 u19 u20 u21 u22) else fX5_readLine_L98 (nI n) tape xEnds xLetters u16 u17 u18 u19 u20 u21 u22)) := by
      intro n1 n3 n2
      obtain ⟨rp', m1, -⟩ := more_r g hq ha hs (num_bad n2 (nI n) ba2 (nI e2) (nI s2) val2 tape)
      rw [cl3_mk (st_no n3), if_pos rfl, if_neg n1, cl7_mk m1, if_neg d20]
      unfold fX5_readLine_L98
      rw [rd_b (by decide)]
      exact Or.inl ⟨2, nI s2, _, _, rfl, rfl, by decide⟩
    rcases t2 with ⟨rfl, rfl⟩ | ⟨rfl, rfl, -⟩ | ⟨rfl, rfl, -⟩ | ⟨rfl, rfl, z1, z2, z3, z4⟩
    · exact bad (by decide) (by decide) (by decide)
    · exact bad (by decide) (by decide) (by decide)
    · exact bad (by decide) (by decide) (by decide)
    · have hnum : fX3_numberOfToken (nI s2) (nI e2) bytes = some val2 := by
        have := num_c hT (nI s2) o3 (e2 - s2) s2 xF 0 (by omega) (by have := hT.1; show e2 - s2 < 1000; omega)
        rw [← z3] at this
        exact this
      rw [cl3_mk (st_ok 3 0 fp (nI s2)), if_neg d10, hnum, cl1_s]
      have key : Out n tape ba2 fp e (fX3_takeLine_L88 (nI n) bytes 0 (nI q) val2 val2 9 0 fp 3 (nI s2) (nI e2) (nI na) (nI ns) K S P T W R) (cl7 (fX5_readMore (nI q) (nI n) 0 ba2 (nI e2) (nI s2) 2 val2 rp tape) (fun u16 u17 u18 u19 u20 u21 u22 => if u16 = 0 then if u20 = 3 then fX5_readLine_L98 (nI n) tape xEnds xLetters u16 u17 u18 u19 u20 u21 u22 else cl2 (fX5_fails 2 u16 u17 u19) (fun u33 u34 => fX5_readLine_L98 (nI n) tape xEnds xLetters u33 u34 u18 u19 u20 u21 u22) else fX5_readLine_L98 (nI n) tape xEnds xLetters u16 u17 u18 u19 u20 u21 u22)) := by
        unfold fX3_takeLine_L88
        by_cases u9 : val2 ≤ 9
        · have h9 : val2.toInt ≤ 9 := i_le.mp u9
          have u0 : 0 ≤ val2 := i_le.mpr (by omega)
          obtain ⟨s3, e3, k3, br3, ba3, sp3, tk3, val3, p1, p2, p3, p4, c3, r3, t3⟩ := tok_both hT o3 3 (nI s2) ba2 (nI s2) 2 val2
          obtain ⟨rp', m1, m2⟩ := more_r g hq ha hs (num_ok u0 u9 (nI n) ba2 (nI e2) (nI s2) tape r3)
          obtain ⟨na', ns', K', S', P', T', W', R', m3, m4⟩ := m2 z4 h9
          rw [if_pos u9, cl3_mk c3, cl7_mk m1]
          unfold fX5_readLine_L98
          rcases t3 with ⟨rfl, rfl, rfl, t3⟩ | ⟨rfl, rfl, rfl⟩
          · rw [if_pos rfl]
            have bad3 : ¬ k3 = 1 → ¬ k3 = 4 → ¬ tk3 = 3 → Out n tape ba3 fp e (cl3 (fX3_stands 4 0 fp k3 (nI s3)) (fun r28 u29 u30 => if r28 = 0 then some (0, u29, u30, k3, nI s3, nI e3, nI na, nI ns, K, S, P, T, W, R) else if (4 : Int32) ≤ nI q then if nI q = 5 then fX3_takeLine_L137 (nI n) bytes 0 (-val2) u29 u30 k3 (nI s3) (nI e3) (nI na) (nI ns) K S P T W R else fX3_takeLine_L137 (nI n) bytes 0 val2 u29 u30 k3 (nI s3) (nI e3) (nI na) (nI ns) K S P T W R else cl7 (fX0_appendArm (nI q) val2 (nI na) 0 K S P T W) (fun r40 u41 u42 u43 u44 u45 u46 => chk (xbz r40) (some (r40, u29, u30, k3, nI s3, nI e3, u41, nI ns, u42, u43, u44, u45, u46, R))))) (if tk3 = 3 then cl6 (fX5_readsOn (nI n) 0 ba3 (nI e3) (nI s3) tk3 val3 tape) (fun u25 u26 u27 u28 u29 u30 => some (u25, u26, u27, u28, u29, u30, rp')) else cl2 (fX5_fails 2 0 ba3 (nI s3)) (fun u33 u34 => cl6 (fX5_readsOn (nI n) u33 u34 (nI e3) (nI s3) tk3 val3 tape) (fun u25 u26 u27 u28 u29 u30 => some (u25, u26, u27, u28, u29, u30, rp')))) := by
              intro n1 n4 n3
              rw [cl3_mk (st_no n4), if_pos rfl, if_neg n1, if_neg n3]
              unfold fX5_fails
              rw [if_pos rfl, cl2_mk rfl, rd_b (by decide)]
              exact Or.inl ⟨2, nI s3, _, _, rfl, rfl, by decide⟩
            rcases t3 with ⟨rfl, rfl⟩ | ⟨rfl, rfl, y1⟩ | ⟨rfl, rfl, -⟩ | ⟨rfl, rfl, -⟩
            · exact bad3 (by decide) (by decide) (by decide)
            · rw [cl3_mk (st_ok 4 0 fp (nI s3)), if_neg d10, if_pos rfl, m4]
              exact Or.inr ⟨s3, e3, na', ns', _, _, K', S', P', T', W', R', rp', rfl, rfl, by omega, p3, m3⟩
            · exact bad3 (by decide) (by decide) (by decide)
            · exact bad3 (by decide) (by decide) (by decide)
          · rw [if_neg d10, cl3_mk (st_no (show ¬ (1 : Int32) = 4 by decide)), if_pos rfl, if_pos rfl, rd_b (by decide)]
            exact Or.inl ⟨1, nI s3, _, _, rfl, rfl, by decide⟩
        · have d30 : ¬ (3 : Int32) = 0 := by decide
          obtain ⟨rp', m1, -⟩ := more_r g hq ha hs (num_big u9 (nI n) ba2 (nI e2) (nI s2) tape)
          unfold fX3_refuse
          rw [if_neg u9, cl3_mk rfl, chk_pos b0, cl7_mk m1, if_neg d30]
          unfold fX5_readLine_L98
          rw [rd_b (by decide)]
          exact Or.inl ⟨3, nI s2, _, _, rfl, rfl, by decide⟩
      split
      · exact key
      · exact key
  · rw [if_neg (show ¬ (1 : Int32) ≤ 0 by decide), cl3_mk (st_no (show ¬ (1 : Int32) = 3 by decide)), if_pos rfl, if_pos rfl]
    exact Or.inl ⟨1, nI s2, _, _, rfl, rfl, by decide⟩
/-- a line whose first token stands: on both sides -/
theorem line_both (hT : Tp n bytes tape) (g : GP na ns rp K S P T W R) {s e : Nat} (hs : s ≤ e) (he : e ≤ n) (ba fp val : Int32) {k tk : Int32} (hk : (k = 4 ∧ tk = 3) ∨ (k = 2 ∧ tk = 1) ∨ (k = 3 ∧ tk = 2)) : Out n tape ba fp e (fX3_takeLine (nI n) 0 fp k (nI s) (nI e) bytes (nI na) (nI ns) 0 K S P T W R) (fX5_readLine (nI n) 0 ba (nI e) (nI s) tk val rp tape xEnds xLetters) := by
  have b0 : xbz (0 : Int32) := Or.inl rfl
  have h20 : rp 20 = nI na := by have := g.1.2.2.1; rw [Nat.zero_add] at this; exact this
  have h37 : rp 37 = nI ns := by have := g.1.2.2.2.1; rw [Nat.zero_add] at this; exact this
  have x20 : xin (20 : Int32) 40 := by decide
  have x37 : xin (37 : Int32) 40 := by decide
  have hna := g.1.1
  have hns := g.1.2.1
  unfold fX3_takeLine fX5_readLine
  have bad : ¬ k = 1 → ¬ k = 2 → ¬ tk = 1 → Out n tape ba fp e (cl3 (fX3_stands 2 0 fp k (nI s)) (fun r1 u2 u3 => if r1 = 0 then some (0, u2, u3, k, nI s, nI e, nI na, nI ns, K, S, P, T, W, R) else cl1 (fX3_openingOfLine (nI s) (nI e) bytes) (fun r6 => if 0 ≤ r6 then if r6 < 4 then if nI na < 4 then fX3_takeLine_L56 (nI n) bytes 0 r6 u2 u3 k (nI s) (nI e) (nI na) (nI ns) K S P T W R else fX3_takeLine_L50 (nI n) bytes 0 u2 u3 k (nI s) (nI e) (nI na) (nI ns) K S P T W R else if nI ns < 16 then fX3_takeLine_L56 (nI n) bytes 0 r6 u2 u3 k (nI s) (nI e) (nI na) (nI ns) K S P T W R else fX3_takeLine_L50 (nI n) bytes 0 u2 u3 k (nI s) (nI e) (nI na) (nI ns) K S P T W R else cl3 (fX3_refuse 2 u2 u3 (nI s)) (fun r60 u61 u62 => chk (xbz r60) (some (r60, u61, u62, k, nI s, nI e, nI na, nI ns, K, S, P, T, W, R)))))) (cl1 (fX5_nameHere (nI n) (nI e) (nI s) tk tape xEnds xLetters) (fun r1 => cl1 (fX5_in ((r1).toInt64) (0 : Int64) (5 : Int64)) (fun r3 => if r3 = 0 then cl2 (fX5_fails 2 0 ba (nI s)) (fun u43 u44 => some (u43, u44, nI e, nI s, tk, val, rp)) else if 3 < r1 then fX5_readLine_L39 (nI n) tape xEnds xLetters r1 0 ba (nI e) (nI s) tk val rp else chk (xin 20 40) (if (rp (20 : Int32).toNatClampNeg) = 4 then fX5_readLine_L56 (nI n) tape xEnds xLetters r1 0 ba (nI e) (nI s) tk val rp else fX5_readLine_L39 (nI n) tape xEnds xLetters r1 0 ba (nI e) (nI s) tk val rp)))) := by
    intro n1 n2 n3
    rw [cl3_mk (st_no n2), if_pos rfl, if_neg n1, name_no tk (nI e) n3, cl1_s, in_eq (-4) 0 5 0 5 rfl rfl, gate, if_neg (by decide)]
    unfold fX5_fails
    rw [if_pos rfl, cl2_mk rfl]
    exact Or.inl ⟨2, nI s, _, _, rfl, rfl, by decide⟩
  rcases hk with ⟨rfl, rfl⟩ | ⟨rfl, rfl⟩ | ⟨rfl, rfl⟩
  · exact bad (by decide) (by decide) (by decide)
  · rw [cl3_mk (st_ok 2 0 fp (nI s)), if_neg d10]
    rcases name_both hT hs he with ⟨q, hq, c1, c2⟩ | ⟨c1, c2⟩
    · rw [c1, c2, cl1_s, cl1_s, if_pos (show (0 : Int32) ≤ nI q from nI_pos' (by omega)), in_eq (nI q) 0 5 0 5 rfl rfl, gate, if_pos (show (0 : Int32) ≤ nI q ∧ nI q ≤ (5 : Int32) from ⟨nI_pos' (by omega), (nI_leI (b := 5) (by omega) (by omega)).mpr (by omega)⟩), chk_pos x20, cl_20, h20]
      have full : Out n tape ba fp e (fX3_takeLine_L50 (nI n) bytes 0 0 fp 2 (nI s) (nI e) (nI na) (nI ns) K S P T W R) (fX5_readLine_L56 (nI n) tape xEnds xLetters (nI q) 0 ba (nI e) (nI s) 1 val rp) := by
        unfold fX3_takeLine_L50 fX5_readLine_L56 fX3_refuse fX5_fails
        rw [cl3_mk rfl, chk_pos b0, if_pos rfl, cl2_mk rfl]
        unfold fX5_readLine_L61
        rw [rd_b (by decide)]
        exact Or.inl ⟨5, nI s, _, _, rfl, rfl, by decide⟩
      unfold fX5_readLine_L39
      rw [chk_pos x37, cl_37, h37]
      by_cases u : q < 4
      · rw [if_pos (show nI q < (4 : Int32) from (nI_ltI (b := 4) (by omega) (by omega)).mpr u), if_neg (show ¬ (3 : Int32) < nI q from fun z => by have := (nI_ltI (a := 3) (by omega) (by omega)).mp z; omega), if_pos (show nI q ≤ (3 : Int32) from (nI_leI (b := 3) (by omega) (by omega)).mpr (by omega))]
        by_cases v : na < 4
        · rw [if_pos (show nI na < (4 : Int32) from (nI_ltI (b := 4) (by omega) (by omega)).mpr v), if_neg (show ¬ nI na = (4 : Int32) from fun z => by have := (nI_eq (b := 4) (by omega) (by omega)).mp z; omega)]
          exact line_num hT g hq (fun _ => v) (fun h => absurd h (by omega)) he ba fp (nI s) (nI s) 1 val
        · have e4 : na = 4 := by omega
          rw [if_neg (show ¬ nI na < (4 : Int32) from fun z => by have := (nI_ltI (b := 4) (by omega) (by omega)).mp z; omega), if_pos (show nI na = (4 : Int32) by rw [e4]; rfl)]
          exact full
      · rw [if_neg (show ¬ nI q < (4 : Int32) from fun z => by have := (nI_ltI (b := 4) (by omega) (by omega)).mp z; omega), if_pos (show (3 : Int32) < nI q from (nI_ltI (a := 3) (by omega) (by omega)).mpr (by omega)), if_neg (show ¬ nI q ≤ (3 : Int32) from fun z => by have := (nI_leI (b := 3) (by omega) (by omega)).mp z; omega)]
        by_cases v : ns < 16
        · rw [if_pos (show nI ns < (16 : Int32) from (nI_ltI (b := 16) (by omega) (by omega)).mpr v), if_neg (show ¬ nI ns = (16 : Int32) from fun z => by have := (nI_eq (b := 16) (by omega) (by omega)).mp z; omega)]
          exact line_num hT g hq (fun h => absurd h u) (fun _ => v) he ba fp (nI s) (nI s) 1 val
        · have e16 : ns = 16 := by omega
          rw [if_neg (show ¬ nI ns < (16 : Int32) from fun z => by have := (nI_ltI (b := 16) (by omega) (by omega)).mp z; omega), if_pos (show nI ns = (16 : Int32) by rw [e16]; rfl)]
          exact full
    · rw [c1, c2, cl1_s, cl1_s, if_neg (show ¬ (0 : Int32) ≤ -1 by decide), in_eq (-4) 0 5 0 5 rfl rfl, gate, if_neg (by decide)]
      unfold fX3_refuse fX5_fails
      rw [cl3_mk rfl, chk_pos b0, if_pos rfl, cl2_mk rfl]
      exact Or.inl ⟨2, nI s, _, _, rfl, rfl, by decide⟩
  · exact bad (by decide) (by decide) (by decide)
end LN2
