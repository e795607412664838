-- my own base: guards, binds, contracts in one form, calls in one form
def chk {α : Type} (c : Prop) [Decidable c] (k : Option α) : Option α := if c then k else none
theorem chk_adv {α : Type} {c : Prop} [Decidable c] {k : Option α} {o : α} (h : chk c k = some o) : c ∧ k = some o := by
  unfold chk at h
  split at h
  · exact ⟨by assumption, h⟩
  · cases h
theorem chk_pos {α : Type} {c : Prop} [Decidable c] {k : Option α} (h : c) : chk c k = k := if_pos h
def bnd {α β : Type} (e : α) (k : α → Option β) : Option β := k e
theorem bnd_use {α β : Type} {v e : α} {k : α → Option β} {o : Option β} (ev : v = e) (h : bnd e k = o) : k v = o := by subst ev; exact h
theorem ite_t {α : Type} {c : Prop} [Decidable c] {a b o : α} (h : c) (hf : (if c then a else b) = o) : a = o := (if_pos h).symm.trans hf
theorem ite_f {α : Type} {c : Prop} [Decidable c] {a b o : α} (h : ¬ c) (hf : (if c then a else b) = o) : b = o := (if_neg h).symm.trans hf
abbrev xin (i : Int32) (n : Nat) : Prop := 0 ≤ i.toInt ∧ i.toInt < (n : Int)
theorem xin_vp {i : Int32} {n : Nat} (h : xin i n) : vp_in i n := vp_in_iff.mpr h
abbrev xbz (v : Int32) : Prop := v = 0 ∨ v = 1
theorem xbz_nar {v : Int32} (h : xbz v) : narrow .boolean (.int v) = .int v := by
  rcases h with rfl | rfl <;> rfl
theorem tbl_ne {x k : Int32} {n : Int} (hk : k.toInt = n) (h : ¬ x = k) : x.toInt ≠ n := fun e => h (Int32.toInt_inj.mp (e.trans hk.symm))
theorem map_fm {α β : Type} {f : α → Option β} : ∀ {is : List α} {w : List β}, is.map f = w.map some → is.filterMap f = w
  | [], [], _ => rfl
  | [], _ :: _, h => by cases h
  | _ :: _, [], h => by cases h
  | a :: is, b :: w, h => by
    simp only [List.map_cons, List.cons.injEq] at h
    rw [List.filterMap_cons, h.1]
    exact congrArg (List.cons b) (map_fm h.2)
theorem fm_map {α β : Type} {f : α → Option β} : ∀ {is : List α}, is.all (fun i => (f i).isSome) = true → is.map f = (is.filterMap f).map some
  | [], _ => rfl
  | a :: is, h => by
    simp only [List.all_cons, Bool.and_eq_true] at h
    obtain ⟨b, hb⟩ := Option.isSome_iff_exists.mp h.1
    rw [List.map_cons, List.filterMap_cons, hb, fm_map h.2]
    rfl
abbrev xF : Nat := 1000
abbrev iushr (x y : Int32) : Int32 := (x.toUInt32 >>> (y.toUInt32 &&& Int32.toUInt32 31)).toInt32
abbrev imax (x y : Int32) : Int32 := if x < y then y else x
abbrev imin (x y : Int32) : Int32 := if y < x then y else x
abbrev iabs (x : Int32) : Int32 := if 0 ≤ x then x else 0 - x
abbrev xr2 (a b : Nat) : Nat → Option Nat := va_up (va_up (fun _ => none) 0 (some a)) 1 (some b)
abbrev xr4 (a b c d : Nat) : Nat → Option Nat := va_up (va_up (va_up (va_up (fun _ => none) 0 (some a)) 1 (some b)) 2 (some c)) 3 (some d)
abbrev xTY (cI cB cZ cG cS : ClassId) : List (ClassId × FieldType) := [(cI, .int), (cB, .byte), (cZ, .boolean), (cG, .object RX0), (cS, .object RX1)]
abbrev xAd : Type := (Nat → Nat) × (Nat → Nat)
abbrev xSlen : List Nat := [5, 3, 5, 4, 2, 4]
abbrev xSbyt : List (List Int32) := [[112, 108, 97, 105, 110], [108, 97, 103], [115, 116, 105, 99, 107], [119, 111, 114, 110], [111, 110], [98, 97, 99, 107]]
def xNW (U : State) : Prop := va_Nw (.methodLinkNest RX1 22 yX4_within RX4) U ∧ va_Nw (.methodLinkNest RX3 97 yX4_within RX4) U
def xSR (ad : xAd) (U : State) : Prop := vk_R RX3 73 "plain" (ad.1 0) U ∧ vk_R RX3 79 "lag" (ad.1 1) U ∧ vk_R RX3 81 "stick" (ad.1 2) U ∧ vk_R RX3 83 "worn" (ad.1 3) U ∧ vk_R RX3 85 "on" (ad.1 4) U ∧ vk_R RX3 87 "back" (ad.1 5) U
/-- what else holds of the start: the nest's links, the String constants, the statics of the JDK that are read -/
def xE (ad : xAd) (A : Nat → Prop) (U : State) (H : Heap) : Prop := xNW U ∧ vk_S 6 xSlen xSbyt ad.1 ad.2 A U H ∧ xSR ad U ∧ va_Z RJ0 "COMPACT_STRINGS" "Z" (.int 1) A U H ∧ va_Zq RJ3 "SIOOBE_FORMATTER" "Ljava/util/function/BiFunction;" A U H
theorem xE_warm {ad : xAd} {A B : Nat → Prop} {s U : State} {H0 H : Heap} (hW : s.WarmedH U.vm) (hq : ∀ a : Nat, a < H0.size → ¬ A a → H[a]? = H0[a]?) (hAB : ∀ q, B q → A q) (h : xE ad A s H0) : xE ad B U H :=
  ⟨⟨va_Nw.warmM hW h.1.1, va_Nw.warmM hW h.1.2⟩, ((h.2.1.kept hq).moved hW.alike).narrow hAB, ⟨vk_R.warm hW h.2.2.1.1, vk_R.warm hW h.2.2.1.2.1, vk_R.warm hW h.2.2.1.2.2.1, vk_R.warm hW h.2.2.1.2.2.2.1, vk_R.warm hW h.2.2.1.2.2.2.2.1, vk_R.warm hW h.2.2.1.2.2.2.2.2⟩, ((h.2.2.2.1.kept hq).moved hW.alike).narrow hAB, ((h.2.2.2.2.kept hq).moved hW.alike).narrow hAB⟩
theorem xE_same {ad : xAd} {A : Nat → Prop} {u U : State} {H : Heap} (e : U.vm = u.vm) (hA : u.vm.Alike U.vm) (h : xE ad A u H) : xE ad A U H :=
  ⟨⟨va_Nw.same rfl e.symm h.1.1, va_Nw.same rfl e.symm h.1.2⟩, h.2.1.moved hA, ⟨vk_R.same e h.2.2.1.1, vk_R.same e h.2.2.1.2.1, vk_R.same e h.2.2.1.2.2.1, vk_R.same e h.2.2.1.2.2.2.1, vk_R.same e h.2.2.1.2.2.2.2.1, vk_R.same e h.2.2.1.2.2.2.2.2⟩, h.2.2.2.1.moved hA, h.2.2.2.2.moved hA⟩
def xPre (ad : xAd) (D : va_G) (tys : List (ClassId × FieldType)) (ws : va_W) (sz : Nat) (U : State) : Prop := U.heap.size = sz ∧ va_P D vwCl ws U.heap ∧ va_K D vwCl tys U ∧ va_D (fun _ => True) ws ∧ xE ad (va_A ws sz) U U.heap
def xPost (D : va_G) (tys : List (ClassId × FieldType)) (A : Nat → Prop) (ws : va_W) (t : State) : Prop := va_P D vwCl ws t.heap ∧ va_K D vwCl tys t ∧ va_D A ws
def xSt (A : Nat → Prop) (s : State) (D : va_G) (ws : va_W) (H : Heap) (locs : List Loc) : Prop := va_P D vwCl ws H ∧ va_D A ws ∧ va_S A s.heap H locs
def xCx (ad : xAd) (p : Program) (m : MethodId) (c : Code) (cc : ByteArray) (nL : Nat) (s : State) (args : Array Value) (Ts : List Cond) (own : String) (A : Nat → Prop) (D : va_G) (tys : List (ClassId × FieldType)) : Prop :=
  CallFix p m c cc nL s args Ts own ∧ va_K D vwCl tys s ∧ (∀ q, s.heap.size ≤ q → A q) ∧ xE ad A s s.heap
def xMi (ad : xAd) (l : Launch) (y : MethodName) (wds : List Cond) (rm : Room) (D : va_G) (tys : List (ClassId × FieldType)) (av : List Value) (W0 W1 : va_W) (r0 : Int32) : Prop :=
  ∀ sz : Nat, Met l y wds rm (va_Pc av (xPre ad D tys W0 sz)) (va_Qi (fun r (_ : Unit) => r = r0) (fun _ => xPost D tys (va_A W0 sz) W1) (va_A W0 sz)) 0 0 (va_A W0 sz)
def xMl (ad : xAd) (l : Launch) (y : MethodName) (wds : List Cond) (rm : Room) (D : va_G) (tys : List (ClassId × FieldType)) (av : List Value) (W0 W1 : va_W) (r0 : Int64) : Prop :=
  ∀ sz : Nat, Met l y wds rm (va_Pc av (xPre ad D tys W0 sz)) (va_Ql (fun r (_ : Unit) => r = r0) (fun _ => xPost D tys (va_A W0 sz) W1) (va_A W0 sz)) 0 0 (va_A W0 sz)
def xMv (ad : xAd) (l : Launch) (y : MethodName) (wds : List Cond) (rm : Room) (D : va_G) (tys : List (ClassId × FieldType)) (av : List Value) (W0 W1 : va_W) : Prop :=
  ∀ sz : Nat, Met l y wds rm (va_Pc av (xPre ad D tys W0 sz)) (va_Qv (fun (_ : Unit) => True) (fun _ => xPost D tys (va_A W0 sz) W1) (va_A W0 sz)) 0 0 (va_A W0 sz)
theorem xPre_blind (ad : xAd) (D : va_G) (tys : List (ClassId × FieldType)) (ws : va_W) (sz : Nat) (av : List Value) : FrameBlind (va_Pc av (xPre ad D tys ws sz)) := by
  intro a U g mk q
  obtain ⟨q0, q1, qP, qK, qD, qN⟩ := q
  exact ⟨q0, q1, qP, va_K.moved (u := U) (U := U.calling g mk a) (Vm.Alike.refl U.vm) qK, qD, xE_same (U := U.calling g mk a) rfl (Vm.Alike.refl U.vm) qN⟩
section XB
variable {ad : xAd} {p : Program} {l : Launch} {e : Env} {R : Room} {s : State} {m : MethodId} {args : Array Value} {below : List Frame} {meth : Method} {c : Code} {H : Heap} {locs : List Loc} {Q : State → Prop}
variable {cc : ByteArray} {nL pc : Nat} {ls : Array Slot} {rest : List Value} {D : va_G} {A : Nat → Prop} {a : Nat} {tys : List (ClassId × FieldType)} {ws : va_W} {Ts : List Cond} {own : String}
theorem xPre_at (C : xCx ad p m c cc nL s args Ts own A D tys) {wc : va_W} {av : List Value} (hS : va_S A s.heap H locs) (hF : ∀ q, va_A wc H.size q → A q) (hP : va_P D vwCl wc H) (hD : va_D A wc) : ∀ U : State, U.heap = H → s.WarmedH U.vm → va_Pc av (xPre ad D tys wc H.size) av.toArray U :=
  fun U hU hW => ⟨rfl, by rw [hU], by rw [hU]; exact hP, va_K.moved hW.alike C.2.1, hD.weaken (fun _ _ _ _ => trivial), by rw [hU]; exact xE_warm hW hS.2.1 hF C.2.2.2⟩
theorem x_getf (C : xCx ad p m c cc nL s args Ts own A D tys) (hX : xSt A s D ws H locs) {Cn : String} {T : u_T} {N ci index : Nat} (q0 : Nat) {fs : List Value} (he : ws[q0]? = some (a, .inr (ci, fs))) (hc : vwCl[ci]? = some (Cn, T, N)) (hin : ∀ w ∈ u_ws Cn T N, w ∈ Ts) (k : Nat) (hk : k < N) (hlink : Cond.fieldLink own index (T k).1 (T k).2.1 (T k).2.2.1 ∈ Ts) {v : Value} (hv : fs[k]? = some v) (hdg : decode cc pc = .ok (.getfield index, 3))
    (kk : W p l e R s m args below meth c H locs 0 0 Q (F0 m (pc + 3) ls (v :: rest))) : W p l e R s m args below meth c H locs 0 0 Q (F0 m pc ls (.ref a :: rest)) :=
  va_get (D := D) C.1.1 C.1.2.1 C.1.2.2.2.2 hin C.1.2.2.2.1 C.2.1 hX.1 q0 he hc k hk (C.1.2.2.2.2 _ hlink) (fun _ h => h) hv hdg kk
theorem x_putf (C : xCx ad p m c cc nL s args Ts own A D tys) (hX : xSt A s D ws H locs) {Cn : String} {T : u_T} {N ci index : Nat} (ty0 : Nat → FieldType) (hty : ∀ k, k < N → parseFieldDescriptor (T k).2.2.1 = some (ty0 k)) (hnm : ∀ a, a < N → ∀ b, b < N → a ≠ b → (T a).2.1 ≠ (T b).2.1) (q0 : Nat) {fs : List Value} (he : ws[q0]? = some (a, .inr (ci, fs))) (hc : vwCl[ci]? = some (Cn, T, N)) (hin : ∀ w ∈ u_ws Cn T N, w ∈ Ts) (k : Nat) (hk : k < N) (hlink : Cond.fieldLink own index (T k).1 (T k).2.1 (T k).2.2.1 ∈ Ts) (hfin : (T k).2.2.2 = false) {v : Int32} (hd : ty0 k = .int) (hl : k < fs.length) (w2 : va_W) (hw : ws.set q0 (a, .inr (ci, fs.set k (.int v))) = w2) (hdg : decode cc pc = .ok (.putfield index, 3))
    (kk : ∀ (H1 : Heap) (locs1 : List Loc), xSt A s D w2 H1 locs1 → W p l e R s m args below meth c H1 locs1 0 0 Q (F0 m (pc + 3) ls rest)) : W p l e R s m args below meth c H locs 0 0 Q (F0 m pc ls (.int v :: .ref a :: rest)) := by
  subst hw
  exact va_put (D := D) (ty := .int) C.1.1 C.1.2.1 C.1.2.2.2.2 hin ty0 hty hnm C.1.2.2.2.1 C.2.1 hX.1 hX.2.1 hX.2.2 q0 he hc k hk (C.1.2.2.2.2 _ hlink) (fun _ h => h) hfin ((hty k hk).trans (congrArg some hd)) rfl rfl hl hdg (fun H1 locs1 h1 h2 h3 => kk H1 locs1 ⟨h1, h2, h3⟩)
theorem x_iald (C : xCx ad p m c cc nL s args Ts own A D tys) (hX : xSt A s D ws H locs) (q0 t0 : Nat) {cA : ClassId} {n : Nat} {f : Nat → Int32} (ha : ws[q0]? = some (a, .inl (cA, n, .inl f))) (ht : tys[t0]? = some (cA, .int)) {i : Int32} (hin : xin i n) (hdg : decode cc pc = .ok (.iaload, 1))
    (kk : W p l e R s m args below meth c H locs 0 0 Q (F0 m (pc + 1) ls (.int (f i.toNatClampNeg) :: rest))) : W p l e R s m args below meth c H locs 0 0 Q (F0 m pc ls (.int i :: .ref a :: rest)) :=
  va_iald C.1.1 C.1.2.1 C.2.1 hX.1 q0 t0 ha ht (xin_vp hin) hdg kk
theorem x_bald (C : xCx ad p m c cc nL s args Ts own A D tys) (hX : xSt A s D ws H locs) (q0 t0 : Nat) {cA : ClassId} {n : Nat} {f : Nat → Int32} (ha : ws[q0]? = some (a, .inl (cA, n, .inl f))) (ht : tys[t0]? = some (cA, .byte)) {i : Int32} (hin : xin i n) (hdg : decode cc pc = .ok (.baload, 1))
    (kk : W p l e R s m args below meth c H locs 0 0 Q (F0 m (pc + 1) ls (.int (f i.toNatClampNeg) :: rest))) : W p l e R s m args below meth c H locs 0 0 Q (F0 m pc ls (.int i :: .ref a :: rest)) :=
  va_bald C.1.1 C.1.2.1 C.2.1 hX.1 q0 t0 ha ht (xin_vp hin) hdg kk
theorem x_zald (C : xCx ad p m c cc nL s args Ts own A D tys) (hX : xSt A s D ws H locs) (q0 t0 : Nat) {cA : ClassId} {n : Nat} {f : Nat → Int32} (ha : ws[q0]? = some (a, .inl (cA, n, .inl f))) (ht : tys[t0]? = some (cA, .boolean)) {i : Int32} (hin : xin i n) (hdg : decode cc pc = .ok (.baload, 1))
    (kk : W p l e R s m args below meth c H locs 0 0 Q (F0 m (pc + 1) ls (.int (f i.toNatClampNeg) :: rest))) : W p l e R s m args below meth c H locs 0 0 Q (F0 m pc ls (.int i :: .ref a :: rest)) :=
  va_zald C.1.1 C.1.2.1 C.2.1 hX.1 q0 t0 ha ht (xin_vp hin) hdg kk
theorem x_aald (C : xCx ad p m c cc nL s args Ts own A D tys) (hX : xSt A s D ws H locs) (q0 t0 : Nat) {cA : ClassId} {Cn : String} {n : Nat} {f : Nat → Option Nat} (ha : ws[q0]? = some (a, .inl (cA, n, .inr (.inr (.inr (.inr f)))))) (ht : tys[t0]? = some (cA, .object Cn)) {i : Int32} (hin : xin i n) {v : Value} (hv : va_rf (f i.toNatClampNeg) = v) (hdg : decode cc pc = .ok (.aaload, 1))
    (kk : W p l e R s m args below meth c H locs 0 0 Q (F0 m (pc + 1) ls (v :: rest))) : W p l e R s m args below meth c H locs 0 0 Q (F0 m pc ls (.int i :: .ref a :: rest)) := by
  subst hv
  exact va_aldq C.1.1 C.1.2.1 C.2.1 hX.1 q0 t0 ha ht (xin_vp hin) hdg kk
theorem x_iast (C : xCx ad p m c cc nL s args Ts own A D tys) (hX : xSt A s D ws H locs) (q0 t0 : Nat) {cA : ClassId} {n : Nat} {f : Nat → Int32} (ha : ws[q0]? = some (a, .inl (cA, n, .inl f))) (ht : tys[t0]? = some (cA, .int)) {i x : Int32} (hin : xin i n) (w2 : va_W) (hw : ws.set q0 (a, .inl (cA, n, .inl (upd f i.toNatClampNeg x))) = w2) (hdg : decode cc pc = .ok (.iastore, 1))
    (kk : ∀ (H1 : Heap) (locs1 : List Loc), xSt A s D w2 H1 locs1 → W p l e R s m args below meth c H1 locs1 0 0 Q (F0 m (pc + 1) ls rest)) : W p l e R s m args below meth c H locs 0 0 Q (F0 m pc ls (.int x :: .int i :: .ref a :: rest)) := by
  subst hw
  exact va_iast C.1.1 C.1.2.1 C.2.1 hX.1 hX.2.1 hX.2.2 q0 t0 ha ht (xin_vp hin) hdg (fun H1 locs1 h1 h2 h3 => kk H1 locs1 ⟨h1, h2, h3⟩)
theorem x_bast (C : xCx ad p m c cc nL s args Ts own A D tys) (hX : xSt A s D ws H locs) (q0 t0 : Nat) {cA : ClassId} {n : Nat} {f : Nat → Int32} (ha : ws[q0]? = some (a, .inl (cA, n, .inl f))) (ht : tys[t0]? = some (cA, .byte)) {i x : Int32} (hin : xin i n) (w2 : va_W) (hw : ws.set q0 (a, .inl (cA, n, .inl (upd f i.toNatClampNeg (vp_nar .byte x)))) = w2) (hdg : decode cc pc = .ok (.bastore, 1))
    (kk : ∀ (H1 : Heap) (locs1 : List Loc), xSt A s D w2 H1 locs1 → W p l e R s m args below meth c H1 locs1 0 0 Q (F0 m (pc + 1) ls rest)) : W p l e R s m args below meth c H locs 0 0 Q (F0 m pc ls (.int x :: .int i :: .ref a :: rest)) := by
  subst hw
  exact va_bast C.1.1 C.1.2.1 C.2.1 hX.1 hX.2.1 hX.2.2 q0 t0 ha ht (xin_vp hin) hdg (fun H1 locs1 h1 h2 h3 => kk H1 locs1 ⟨h1, h2, h3⟩)
theorem x_zast (C : xCx ad p m c cc nL s args Ts own A D tys) (hX : xSt A s D ws H locs) (q0 t0 : Nat) {cA : ClassId} {n : Nat} {f : Nat → Int32} (ha : ws[q0]? = some (a, .inl (cA, n, .inl f))) (ht : tys[t0]? = some (cA, .boolean)) {i x : Int32} (hin : xin i n) (w2 : va_W) (hw : ws.set q0 (a, .inl (cA, n, .inl (upd f i.toNatClampNeg (vp_nar .boolean x)))) = w2) (hdg : decode cc pc = .ok (.bastore, 1))
    (kk : ∀ (H1 : Heap) (locs1 : List Loc), xSt A s D w2 H1 locs1 → W p l e R s m args below meth c H1 locs1 0 0 Q (F0 m (pc + 1) ls rest)) : W p l e R s m args below meth c H locs 0 0 Q (F0 m pc ls (.int x :: .int i :: .ref a :: rest)) := by
  subst hw
  exact va_zast C.1.1 C.1.2.1 C.2.1 hX.1 hX.2.1 hX.2.2 q0 t0 ha ht (xin_vp hin) hdg (fun H1 locs1 h1 h2 h3 => kk H1 locs1 ⟨h1, h2, h3⟩)
/-- what a call leaves: the callee's cells as they came back, the rest as it was, in the order that is asked for -/
theorem x_join {wc wr w1 w2 : va_W} {H1 : Heap} {locs1 : List Loc} {t : State} (C : xCx ad p m c cc nL s args Ts own A D tys) (hX : xSt A s D ws H locs) (isC isR isT : List Nat) (hC : isC.map (fun i => ws[i]?) = wc.map some) (hR : isR.map (fun i => ws[i]?) = wr.map some) (hnd : va_nd isR = true) (hdis : ∀ i ∈ isR, i ∉ isC) (hTn : va_nd isT = true) (hT : isT.map (fun i => (wr ++ w1)[i]?) = w2.map some)
    (ht : t.heap = H1) (hB : xPost D tys (va_A wc H.size) w1 t) (hk : ∀ q : Nat, q < H.size → ¬ va_A wc H.size q → H1[q]? = H[q]?) (hS : va_S A s.heap H1 locs1) : xSt A s D w2 H1 locs1 := by
  have hFc := va_free (wc := wc) hX.2.1 hX.2.2 C.2.2.1 isC hC
  obtain ⟨hP1, hK1, hD1⟩ := hB
  rw [ht] at hP1
  obtain ⟨hP, hD⟩ := va_join (wr := wr) (w1 := w1) hX.1 hX.2.1 isC isR hC hR hnd hdis hk hFc hP1 hD1
  exact ⟨hP.sub isT (map_fm hT), hD.sub isT hTn hT, hS⟩
theorem x_idx {wc : va_W} {isC : List Nat} (hX : xSt A s D ws H locs) (hC : isC.map (fun i => ws[i]?) = wc.map some) (hn : va_nd isC = true) : va_P D vwCl wc H ∧ va_D A wc := ⟨hX.1.sub isC (map_fm hC), hX.2.1.sub isC hn hC⟩
variable {y : MethodName} {wds : List Cond} {rm : Room} {bytes : ByteArray} {maxL n index : Nat} {ret : Option FieldType} {b : Addr} {As st0 : List Value} {Cn : String} {wc w1 w2 : va_W}
theorem x_callVi {r0 : Int32} (C : xCx ad p m c cc nL s args Ts own A D tys) (hX : xSt A s D ws H locs) (hM : xMi ad l y wds rm D tys (.ref b :: As) wc w1 r0) (cw : CallW R s args own Cn index y bytes maxL ret wds rm 0 0 n) (isC isR isT : List Nat) (hC : isC.map (fun i => ws[i]?) = wc.map some) (hR : isR.all (fun i => (ws[i]?).isSome) = true) (hcn : va_nd isC = true) (hnd : va_nd isR = true) (hdis : ∀ i ∈ isR, i ∉ isC) (hTn : va_nd isT = true) (hT : isT.map (fun i => (isR.filterMap (fun i => ws[i]?) ++ w1)[i]?) = w2.map some)
    (qb : Nat) {ci : Nat} {fs : List Value} (hq : wc[qb]? = some (b, .inr (ci, fs))) {q : vw_C} (hc : vwCl[ci]? = some q) (hqn : q.1 = Cn) (hsz : ls.size = nL) (hn : As.length = n) (hst : st0 = As.reverse ++ .ref b :: rest) (hW : (rest.map fun v => v.category).sum ≤ 8) (hdg : decode cc pc = .ok (.invokevirtual index, 3))
    (kk : ∀ (H1 : Heap) (locs1 : List Loc), xSt A s D w2 H1 locs1 → W p l e R s m args below meth c H1 locs1 0 0 Q (F0 m (pc + 3) ls (.int r0 :: rest))) : W p l e R s m args below meth c H locs 0 0 Q (F0 m pc ls st0) := by
  subst hst
  subst hqn
  have hPD := x_idx hX hC hcn
  have hFc := va_free (wc := wc) hX.2.1 hX.2.2 C.2.2.1 isC hC
  refine va_calli (va_runV (As := As) (rest := rest) C.1 (hM H.size) cw ⟨xPre_blind ad D tys wc H.size _, va_recv C.2.1 hPD.1 (ci := ci) (q0 := qb) hc hq, xPre_at C hX.2.2 hFc hPD.1 hPD.2⟩ rfl hn hsz rfl (lv_room hW) hdg ⟨Nat.zero_le _, Nat.zero_le _⟩) hX.2.2 (fun q _ h => hFc q h) hFc (fun r u t H1 locs1 ht hvm hw hB hz1 hk1 hS => ?_)
  subst hw
  exact kk H1 locs1 (x_join C hX isC isR isT hC (fm_map hR) hnd hdis hTn hT ht hB hk1 hS)
theorem x_callVl {r0 : Int64} (C : xCx ad p m c cc nL s args Ts own A D tys) (hX : xSt A s D ws H locs) (hM : xMl ad l y wds rm D tys (.ref b :: As) wc w1 r0) (cw : CallW R s args own Cn index y bytes maxL ret wds rm 0 0 n) (isC isR isT : List Nat) (hC : isC.map (fun i => ws[i]?) = wc.map some) (hR : isR.all (fun i => (ws[i]?).isSome) = true) (hcn : va_nd isC = true) (hnd : va_nd isR = true) (hdis : ∀ i ∈ isR, i ∉ isC) (hTn : va_nd isT = true) (hT : isT.map (fun i => (isR.filterMap (fun i => ws[i]?) ++ w1)[i]?) = w2.map some)
    (qb : Nat) {ci : Nat} {fs : List Value} (hq : wc[qb]? = some (b, .inr (ci, fs))) {q : vw_C} (hc : vwCl[ci]? = some q) (hqn : q.1 = Cn) (hsz : ls.size = nL) (hn : As.length = n) (hst : st0 = As.reverse ++ .ref b :: rest) (hW : (rest.map fun v => v.category).sum ≤ 8) (hdg : decode cc pc = .ok (.invokevirtual index, 3))
    (kk : ∀ (H1 : Heap) (locs1 : List Loc), xSt A s D w2 H1 locs1 → W p l e R s m args below meth c H1 locs1 0 0 Q (F0 m (pc + 3) ls (.long r0 :: rest))) : W p l e R s m args below meth c H locs 0 0 Q (F0 m pc ls st0) := by
  subst hst
  subst hqn
  have hPD := x_idx hX hC hcn
  have hFc := va_free (wc := wc) hX.2.1 hX.2.2 C.2.2.1 isC hC
  refine va_calll (va_runV (As := As) (rest := rest) C.1 (hM H.size) cw ⟨xPre_blind ad D tys wc H.size _, va_recv C.2.1 hPD.1 (ci := ci) (q0 := qb) hc hq, xPre_at C hX.2.2 hFc hPD.1 hPD.2⟩ rfl hn hsz rfl (lv_room hW) hdg ⟨Nat.zero_le _, Nat.zero_le _⟩) hX.2.2 (fun q _ h => hFc q h) hFc (fun r u t H1 locs1 ht hvm hw hB hz1 hk1 hS => ?_)
  subst hw
  exact kk H1 locs1 (x_join C hX isC isR isT hC (fm_map hR) hnd hdis hTn hT ht hB hk1 hS)
theorem x_callVv (C : xCx ad p m c cc nL s args Ts own A D tys) (hX : xSt A s D ws H locs) (hM : xMv ad l y wds rm D tys (.ref b :: As) wc w1) (cw : CallW R s args own Cn index y bytes maxL ret wds rm 0 0 n) (isC isR isT : List Nat) (hC : isC.map (fun i => ws[i]?) = wc.map some) (hR : isR.all (fun i => (ws[i]?).isSome) = true) (hcn : va_nd isC = true) (hnd : va_nd isR = true) (hdis : ∀ i ∈ isR, i ∉ isC) (hTn : va_nd isT = true) (hT : isT.map (fun i => (isR.filterMap (fun i => ws[i]?) ++ w1)[i]?) = w2.map some)
    (qb : Nat) {ci : Nat} {fs : List Value} (hq : wc[qb]? = some (b, .inr (ci, fs))) {q : vw_C} (hc : vwCl[ci]? = some q) (hqn : q.1 = Cn) (hsz : ls.size = nL) (hn : As.length = n) (hst : st0 = As.reverse ++ .ref b :: rest) (hW : (rest.map fun v => v.category).sum ≤ 8) (hdg : decode cc pc = .ok (.invokevirtual index, 3))
    (kk : ∀ (H1 : Heap) (locs1 : List Loc), xSt A s D w2 H1 locs1 → W p l e R s m args below meth c H1 locs1 0 0 Q (F0 m (pc + 3) ls rest)) : W p l e R s m args below meth c H locs 0 0 Q (F0 m pc ls st0) := by
  subst hst
  subst hqn
  have hPD := x_idx hX hC hcn
  have hFc := va_free (wc := wc) hX.2.1 hX.2.2 C.2.2.1 isC hC
  refine va_callv (va_runV (As := As) (rest := rest) C.1 (hM H.size) cw ⟨xPre_blind ad D tys wc H.size _, va_recv C.2.1 hPD.1 (ci := ci) (q0 := qb) hc hq, xPre_at C hX.2.2 hFc hPD.1 hPD.2⟩ rfl hn hsz rfl (lv_room hW) hdg ⟨Nat.zero_le _, Nat.zero_le _⟩) hX.2.2 (fun q _ h => hFc q h) hFc (fun u t H1 locs1 ht hvm hw hB hz1 hk1 hS => ?_)
  exact kk H1 locs1 (x_join C hX isC isR isT hC (fm_map hR) hnd hdis hTn hT ht hB hk1 hS)
/-- a static call that touches no cell -/
theorem x_keep {H1 : Heap} {locs1 : List Loc} (hX : xSt A s D ws H locs) (hk : ∀ q : Nat, q < H.size → ¬ va_A [] H.size q → H1[q]? = H[q]?) (hS : va_S A s.heap H1 locs1) : xSt A s D ws H1 locs1 := by
  refine ⟨hX.1.kept (fun k q h => hk q.1 ((hX.1 k q h).lt) ?_), hX.2.1, hS⟩
  rintro (⟨k2, e2, h2⟩ | h2)
  · simp at h2
  · exact absurd ((hX.1 k q h).lt) (Nat.not_lt.mpr h2)
theorem x_free0 (C : xCx ad p m c cc nL s args Ts own A D tys) (hX : xSt A s D ws H locs) : ∀ q, va_A [] H.size q → A q := by
  rintro q (⟨k2, e2, h2⟩ | h2)
  · simp at h2
  · exact C.2.2.1 q (Nat.le_trans hX.2.2.1 h2)
theorem x_nilP : va_P D vwCl [] H := fun k q h => by simp at h
theorem x_nilD : va_D A [] := ⟨fun i j p q h => by simp at h, fun k q h => by simp at h⟩
theorem x_callSi {r0 : Int32} (C : xCx ad p m c cc nL s args Ts own A D tys) (hX : xSt A s D ws H locs) (hM : xMi ad l y wds rm D tys As [] [] r0) (cw : CallB R s args own index y bytes maxL ret wds rm 0 0 n ∧ (Cond.static y).before args s = true) (hsz : ls.size = nL) (hn : As.length = n) (hst : st0 = As.reverse ++ rest) (hW : (rest.map fun v => v.category).sum ≤ 8) (hdg : decode cc pc = .ok (.invokestatic index, 3))
    (kk : ∀ (H1 : Heap) (locs1 : List Loc), xSt A s D ws H1 locs1 → W p l e R s m args below meth c H1 locs1 0 0 Q (F0 m (pc + 3) ls (.int r0 :: rest))) : W p l e R s m args below meth c H locs 0 0 Q (F0 m pc ls st0) := by
  subst hst
  have hFc := x_free0 C hX
  refine va_calli (va_runS (As := As) (rest := rest) C.1 (hM H.size) cw ⟨xPre_blind ad D tys [] H.size _, xPre_at C hX.2.2 hFc x_nilP x_nilD⟩ rfl hn hsz rfl (lv_room hW) hdg ⟨Nat.zero_le _, Nat.zero_le _⟩) hX.2.2 (fun q _ h => hFc q h) hFc (fun r u t H1 locs1 ht hvm hw hB hz1 hk1 hS => ?_)
  subst hw
  exact kk H1 locs1 (x_keep hX hk1 hS)
theorem x_callSl {r0 : Int64} (C : xCx ad p m c cc nL s args Ts own A D tys) (hX : xSt A s D ws H locs) (hM : xMl ad l y wds rm D tys As [] [] r0) (cw : CallB R s args own index y bytes maxL ret wds rm 0 0 n ∧ (Cond.static y).before args s = true) (hsz : ls.size = nL) (hn : As.length = n) (hst : st0 = As.reverse ++ rest) (hW : (rest.map fun v => v.category).sum ≤ 8) (hdg : decode cc pc = .ok (.invokestatic index, 3))
    (kk : ∀ (H1 : Heap) (locs1 : List Loc), xSt A s D ws H1 locs1 → W p l e R s m args below meth c H1 locs1 0 0 Q (F0 m (pc + 3) ls (.long r0 :: rest))) : W p l e R s m args below meth c H locs 0 0 Q (F0 m pc ls st0) := by
  subst hst
  have hFc := x_free0 C hX
  refine va_calll (va_runS (As := As) (rest := rest) C.1 (hM H.size) cw ⟨xPre_blind ad D tys [] H.size _, xPre_at C hX.2.2 hFc x_nilP x_nilD⟩ rfl hn hsz rfl (lv_room hW) hdg ⟨Nat.zero_le _, Nat.zero_le _⟩) hX.2.2 (fun q _ h => hFc q h) hFc (fun r u t H1 locs1 ht hvm hw hB hz1 hk1 hS => ?_)
  subst hw
  exact kk H1 locs1 (x_keep hX hk1 hS)
theorem x_callNi {r0 : Int32} {host : String} (C : xCx ad p m c cc nL s args Ts own A D tys) (hX : xSt A s D ws H locs) (hM : xMi ad l y wds rm D tys As [] [] r0) (cw : va_CN R s args own index y host bytes maxL ret wds rm 0 0 n ∧ (Cond.static y).before args s = true ∧ True) (hsz : ls.size = nL) (hn : As.length = n) (hst : st0 = As.reverse ++ rest) (hW : (rest.map fun v => v.category).sum ≤ 8) (hdg : decode cc pc = .ok (.invokestatic index, 3))
    (kk : ∀ (H1 : Heap) (locs1 : List Loc), xSt A s D ws H1 locs1 → W p l e R s m args below meth c H1 locs1 0 0 Q (F0 m (pc + 3) ls (.int r0 :: rest))) : W p l e R s m args below meth c H locs 0 0 Q (F0 m pc ls st0) := by
  subst hst
  have hFc := x_free0 C hX
  refine va_calli (va_runSN (As := As) (rest := rest) C.1 (hM H.size) cw ⟨xPre_blind ad D tys [] H.size _, xPre_at C hX.2.2 hFc x_nilP x_nilD⟩ rfl hn hsz rfl (lv_room hW) hdg ⟨Nat.zero_le _, Nat.zero_le _⟩) hX.2.2 (fun q _ h => hFc q h) hFc (fun r u t H1 locs1 ht hvm hw hB hz1 hk1 hS => ?_)
  subst hw
  exact kk H1 locs1 (x_keep hX hk1 hS)
end XB
section XS
variable {ad : xAd} {l : Launch} {y : MethodName} {wds ws' : List Cond} {rm : Room} {D : va_G} {tys : List (ClassId × FieldType)} {av : List Value} {W0 W1 : va_W} {cc : ByteArray} {maxL : Nat} {ty : FieldType}
/-- a method that answers an int (or a boolean): what its body owes -/
theorem xMi_of {r0 : Int32} (hy : plainName y.cls = true) (hw : wds = Cond.code y cc maxL (some ty) :: ws') (hlen : (lg_sl av).length ≤ maxL)
    (body : ∀ (p : Program) (e : Env) (s : State) (m : MethodId) (args : Array Value) (below : List Frame) (meth : Method) (c : Code) (A : Nat → Prop) (Q : State → Prop) (ls : Array Slot), xCx ad p m c cc maxL s args wds y.cls A D tys → xSt A s D W0 s.heap [] → lv_has ls maxL (lv_args 0 av) →
      (∀ (H : Heap) (locs : List Loc) (pc : Nat) (ls : Array Slot) (v : Int32), v = r0 → narrow ty (.int v) = .int v → xSt A s D W1 H locs → decode cc pc = .ok (.ireturn, 1) → W p l e rm s m args below meth c H locs 0 0 Q (F0 m pc ls [.int v])) →
      W p l e rm s m args below meth c s.heap [] 0 0 Q (F0 m 0 ls [])) : xMi ad l y wds rm D tys av W0 W1 r0 := by
  intro sz
  refine Met.ofW (cc := cc) (maxL := maxL) (ret := some ty) hy hw ?_
  intro p e s m args below meth c s₁ B hml hv
  obtain ⟨rfl, hsz, hP, hK, hD0, hN⟩ := hv
  have hts := atoms_spec (ws := wds) B.pre
  have hown : s.vm.findClass y.cls = some m.cls := findClass_of_methodNamed B.named
  have hlocks := B.notSynchronized
  have hr := B.returns
  have hx := B.exec
  have hb := B.bytes
  subst hsz
  have hD := hD0.self (sz := s.heap.size)
  have hA : ∀ q : Nat, s.heap.size ≤ q → va_A W0 s.heap.size q := fun q h => Or.inr h
  have hl := lv_entry av (n := maxL) hlen
  rw [lg_entry_eq]
  generalize (lg_sl av ++ List.replicate (maxL - (lg_sl av).length) Slot.unset).toArray = ls at hl ⊢
  refine body p e s m av.toArray below meth c (va_A W0 s.heap.size) _ ls ⟨⟨hx, hb, hml, hown, hts⟩, hK, hA, hN⟩ ⟨hP, hD, va_S.rf⟩ hl ?_
  intro H locs pc ls v hv hnar hX hdg
  exact W.zret (ty := ty) hx hb hr hnar (fun t ht hW => ⟨⟨v, (), rfl, hv, by rw [ht]; exact hX.1, va_K.moved hW.alike hK, hX.2.1⟩, hX.2.2.F ht⟩) hX.2.2.2.2 hdg
theorem xMl_of {r0 : Int64} (hy : plainName y.cls = true) (hw : wds = Cond.code y cc maxL (some .long) :: ws') (hlen : (lg_sl av).length ≤ maxL)
    (body : ∀ (p : Program) (e : Env) (s : State) (m : MethodId) (args : Array Value) (below : List Frame) (meth : Method) (c : Code) (A : Nat → Prop) (Q : State → Prop) (ls : Array Slot), xCx ad p m c cc maxL s args wds y.cls A D tys → xSt A s D W0 s.heap [] → lv_has ls maxL (lv_args 0 av) →
      (∀ (H : Heap) (locs : List Loc) (pc : Nat) (ls : Array Slot) (v : Int64), v = r0 → xSt A s D W1 H locs → decode cc pc = .ok (.lreturn, 1) → W p l e rm s m args below meth c H locs 0 0 Q (F0 m pc ls [.long v])) →
      W p l e rm s m args below meth c s.heap [] 0 0 Q (F0 m 0 ls [])) : xMl ad l y wds rm D tys av W0 W1 r0 := by
  intro sz
  refine Met.ofW (cc := cc) (maxL := maxL) (ret := some .long) hy hw ?_
  intro p e s m args below meth c s₁ B hml hv
  obtain ⟨rfl, hsz, hP, hK, hD0, hN⟩ := hv
  have hts := atoms_spec (ws := wds) B.pre
  have hown : s.vm.findClass y.cls = some m.cls := findClass_of_methodNamed B.named
  have hlocks := B.notSynchronized
  have hr := B.returns
  have hx := B.exec
  have hb := B.bytes
  subst hsz
  have hD := hD0.self (sz := s.heap.size)
  have hA : ∀ q : Nat, s.heap.size ≤ q → va_A W0 s.heap.size q := fun q h => Or.inr h
  have hl := lv_entry av (n := maxL) hlen
  rw [lg_entry_eq]
  generalize (lg_sl av ++ List.replicate (maxL - (lg_sl av).length) Slot.unset).toArray = ls at hl ⊢
  refine body p e s m av.toArray below meth c (va_A W0 s.heap.size) _ ls ⟨⟨hx, hb, hml, hown, hts⟩, hK, hA, hN⟩ ⟨hP, hD, va_S.rf⟩ hl ?_
  intro H locs pc ls v hv hX hdg
  exact W.lret hx hb hr (fun t ht hW => ⟨⟨v, (), rfl, hv, by rw [ht]; exact hX.1, va_K.moved hW.alike hK, hX.2.1⟩, hX.2.2.F ht⟩) hX.2.2.2.2 hdg
theorem xMv_of (hy : plainName y.cls = true) (hw : wds = Cond.code y cc maxL none :: ws') (hlen : (lg_sl av).length ≤ maxL)
    (body : ∀ (p : Program) (e : Env) (s : State) (m : MethodId) (args : Array Value) (below : List Frame) (meth : Method) (c : Code) (A : Nat → Prop) (Q : State → Prop) (ls : Array Slot), xCx ad p m c cc maxL s args wds y.cls A D tys → xSt A s D W0 s.heap [] → lv_has ls maxL (lv_args 0 av) →
      (∀ (H : Heap) (locs : List Loc) (pc : Nat) (ls : Array Slot), xSt A s D W1 H locs → decode cc pc = .ok (.return_, 1) → W p l e rm s m args below meth c H locs 0 0 Q (F0 m pc ls [])) →
      W p l e rm s m args below meth c s.heap [] 0 0 Q (F0 m 0 ls [])) : xMv ad l y wds rm D tys av W0 W1 := by
  intro sz
  refine Met.ofW (cc := cc) (maxL := maxL) (ret := none) hy hw ?_
  intro p e s m args below meth c s₁ B hml hv
  obtain ⟨rfl, hsz, hP, hK, hD0, hN⟩ := hv
  have hts := atoms_spec (ws := wds) B.pre
  have hown : s.vm.findClass y.cls = some m.cls := findClass_of_methodNamed B.named
  have hlocks := B.notSynchronized
  have hr := B.returns
  have hx := B.exec
  have hb := B.bytes
  subst hsz
  have hD := hD0.self (sz := s.heap.size)
  have hA : ∀ q : Nat, s.heap.size ≤ q → va_A W0 s.heap.size q := fun q h => Or.inr h
  have hl := lv_entry av (n := maxL) hlen
  rw [lg_entry_eq]
  generalize (lg_sl av ++ List.replicate (maxL - (lg_sl av).length) Slot.unset).toArray = ls at hl ⊢
  refine body p e s m av.toArray below meth c (va_A W0 s.heap.size) _ ls ⟨⟨hx, hb, hml, hown, hts⟩, hK, hA, hN⟩ ⟨hP, hD, va_S.rf⟩ hl ?_
  intro H locs pc ls hX hdg
  exact W.vret hx hb hr (fun t ht hW => ⟨⟨(), rfl, trivial, by rw [ht]; exact hX.1, va_K.moved hW.alike hK, hX.2.1⟩, hX.2.2.F ht⟩) hX.2.2.2.2 hdg
end XS
