/-! z-rows: ints of the machine as Int; a guard; steps; calls over whole small worlds -/
def zI (x : Int) : Int32 := Int32.ofInt x
abbrev zR (x : Int) : Prop := -2147483648 ≤ x ∧ x < 2147483648
abbrev zin (i : Int) (n : Nat) : Prop := 0 ≤ i ∧ i < (n : Int)
def zup {α : Type} (T : Nat → α) (i : Int) (x : α) : Nat → α := fun k => if k = i.toNat then x else T k
def zShl (a b : Int) : Int := ((zI a) <<< ((zI b) &&& 31)).toInt
def zShr (a b : Int) : Int := ((zI a) >>> ((zI b) &&& 31)).toInt
def zUshr (a b : Int) : Int := (((zI a).toUInt32 >>> ((zI b).toUInt32 &&& Int32.toUInt32 31)).toInt32).toInt
def zAnd (a b : Int) : Int := ((zI a) &&& (zI b)).toInt
def zOr (a b : Int) : Int := ((zI a) ||| (zI b)).toInt
def zXor (a b : Int) : Int := ((zI a) ^^^ (zI b)).toInt
def zChr (a : Int) : Int := (((zI a).toUInt32 % 65536).toInt32).toInt
def zAbs (a : Int) : Int := if 0 ≤ a then a else 0 - a
def zad (L : List Nat) : Nat → Option Nat := fun k => L[k]?
def zL (x : Int) : Int64 := Int64.ofInt x
def zat (L : List Nat) (i : Int) : Nat := (L[i.toNat]?).getD 0
abbrev eO (a ci : Nat) (fs : List Value) : Nat × va_E := (a, .inr (ci, fs))
abbrev eA (a : Nat) (k : ClassId) (n : Nat) (T : Nat → Int) : Nat × va_E := (a, .inl (k, n, .inl (fun j => zI (T j))))
abbrev eR (a : Nat) (k : ClassId) (n : Nat) (L : List Nat) : Nat × va_E := (a, .inl (k, n, .inr (.inr (.inr (.inr (zad L))))))
theorem zI_of (x : Int32) : zI x.toInt = x := Int32.ofInt_toInt x
theorem zI_add (a b : Int) : zI a + zI b = zI (a + b) := (Int32.ofInt_add a b).symm
theorem zI_sub (a b : Int) : zI a - zI b = zI (a - b) := (Int32.ofInt_sub a b).symm
theorem zI_mul (a b : Int) : zI a * zI b = zI (a * b) := (Int32.ofInt_mul a b).symm
theorem zI_neg (a : Int) : -zI a = zI (-a) := (Int32.ofInt_neg a).symm
theorem zI_toInt {x : Int} (h : zR x) : (zI x).toInt = x := Int32.toInt_ofInt_of_le (by have := h.1; omega) (by have := h.2; omega)
theorem zI_lt {a b : Int} (ha : zR a) (hb : zR b) : zI a < zI b ↔ a < b := by rw [Int32.lt_iff_toInt_lt, zI_toInt ha, zI_toInt hb]
theorem zI_le {a b : Int} (ha : zR a) (hb : zR b) : zI a ≤ zI b ↔ a ≤ b := by rw [Int32.le_iff_toInt_le, zI_toInt ha, zI_toInt hb]
theorem zI_eq {a b : Int} (ha : zR a) (hb : zR b) : zI a = zI b ↔ a = b := by rw [← Int32.toInt_inj, zI_toInt ha, zI_toInt hb]
theorem zR0 : zR 0 := by decide
theorem zI_0 : zI 0 = 0 := by decide
theorem zI_div {a b : Int} (ha : zR a) (hb : zR b) : zI a / zI b = zI (a.tdiv b) := by
  show Int32.ofInt a / Int32.ofInt b = Int32.ofInt (a.tdiv b)
  have e1 : Int32.minValue.toInt = -2147483648 := by decide
  have e2 : Int32.maxValue.toInt = 2147483647 := by decide
  exact (Int32.ofInt_tdiv (by rw [e1]; exact ha.1) (by rw [e2]; omega) (by rw [e1]; exact hb.1) (by rw [e2]; omega)).symm
theorem zI_rem {a b : Int} (ha : zR a) (hb : zR b) : zI a - zI a / zI b * zI b = zI (a.tmod b) := by
  rw [zI_div ha hb, zI_mul, zI_sub]
  congr 1
  have := Int.tmod_add_mul_tdiv a b
  rw [Int.mul_comm (a.tdiv b) b]
  omega
theorem zL_i {x : Int} (h : zR x) : (zI x).toInt64 = zL x := by
  show (zI x).toInt64 = Int64.ofInt x
  rw [← Int64.ofInt_int32ToInt, zI_toInt h]
theorem zL_toInt {x : Int} (h : zR x) : (zL x).toInt = x := Int64.toInt_ofInt_of_le (by have := h.1; omega) (by have := h.2; omega)
theorem zChr_nar (a : Int) : vp_nar .char (zI (zChr a)) = zI (zChr a) := by
  unfold zChr
  rw [zI_of]
  exact pk_vc (zI a)
theorem zI_cl {i : Int} (h0 : 0 ≤ i) (h : i < 2147483648) : (zI i).toNatClampNeg = i.toNat := by
  show ((zI i).toInt).toNat = i.toNat
  rw [zI_toInt ⟨by omega, h⟩]
theorem zin_vp {i : Int} {n : Nat} (hn : n ≤ 1000) (h : zin i n) : vp_in (zI i) n := by
  have h1 := h.1
  have h2 := h.2
  have hR : zR i := ⟨by omega, by omega⟩
  have e : vp_in (zI i) n ↔ 0 ≤ (zI i).toInt ∧ (zI i).toInt < n := vp_in_iff
  rw [e, zI_toInt hR]
  exact h
theorem zup_upd {T : Nat → Int} {i x : Int} {n : Nat} (hn : n ≤ 1000) (h : zin i n) : upd (fun k => zI (T k)) (zI i).toNatClampNeg (zI x) = fun k => zI (zup T i x k) := by
  have h1 := h.1
  have h2 := h.2
  rw [zI_cl h1 (by omega)]
  funext k
  simp only [upd, zup]
  split <;> rfl
/-! guards -/
def gd {α : Type} (c : Prop) [Decidable c] (x : Option α) : Option α := if c then x else none
def zq {α : Type} (P : α → Prop) (x : Option α) : Prop := match x with
  | some a => P a
  | none => False
def zlt {α β : Type} (e : α) (f : α → β) : β := f e
theorem zq_gd {α : Type} {P : α → Prop} {c : Prop} [Decidable c] {x : Option α} (h : zq P (gd c x)) : c ∧ zq P x := by
  unfold gd at h
  split at h
  · exact ⟨by assumption, h⟩
  · exact h.elim
theorem zq_bind {α β : Type} {P : β → Prop} {x : Option α} {f : α → Option β} (h : zq P (x.bind f)) : ∃ a, x = some a ∧ zq P (f a) := by
  cases x with
  | none => exact h.elim
  | some a => exact ⟨a, rfl, h⟩
theorem zq_lt {α β : Type} {P : β → Prop} {e : α} {f : α → Option β} (h : zq P (zlt e f)) : ∃ a, a = e ∧ zq P (f a) := ⟨e, rfl, h⟩
theorem zq_of {α : Type} {a : α} {x : Option α} (h : x = some a) : zq (fun q => q = a) x := by rw [h]; rfl
theorem zq_some {α : Type} {P : α → Prop} {a : α} (h : zq P (some a)) : P a := h
theorem zq_eq {α : Type} {a : α} {x : Option α} (h : zq (fun q => q = a) x) : x = some a := by
  cases x with
  | none => exact h.elim
  | some b => exact congrArg some h
/-! steps -/
def zrun {V R : Type} (st : V → Option (V ⊕ R)) : Nat → V → Option R
  | 0, _ => none
  | n + 1, v => match st v with
    | none => none
    | some (.inr r) => some r
    | some (.inl v2) => zrun st n v2
noncomputable def zev {V R : Type} (st : V → Option (V ⊕ R)) (v : V) : Option R :=
  @dite (Option R) (∃ n r, zrun st n v = some r) (Classical.propDecidable _) (fun h => some h.choose_spec.choose) (fun _ => none)
theorem zrun_mono {V R : Type} {st : V → Option (V ⊕ R)} {r : R} : ∀ (n k : Nat) (v : V), zrun st n v = some r → zrun st (n + k) v = some r := by
  intro n
  induction n with
  | zero => intro k v h; cases h
  | succ n ih =>
    intro k v h
    rw [Nat.succ_add]
    simp only [zrun] at h ⊢
    split at h
    · cases h
    · exact h
    · exact ih k _ h
theorem zrun_det {V R : Type} {st : V → Option (V ⊕ R)} {r r2 : R} {n n2 : Nat} {v : V} (h : zrun st n v = some r) (h2 : zrun st n2 v = some r2) : r = r2 := by
  have a := zrun_mono n n2 v h
  have b := zrun_mono n2 n v h2
  rw [Nat.add_comm] at b
  exact Option.some.inj (a.symm.trans b)
theorem zev_some {V R : Type} {st : V → Option (V ⊕ R)} {v : V} {r : R} (h : zev st v = some r) : ∃ n, zrun st n v = some r := by
  unfold zev at h
  split at h
  · rename_i hh
    have := hh.choose_spec.choose_spec
    rw [Option.some.inj h] at this
    exact ⟨_, this⟩
  · cases h
theorem zev_of {V R : Type} {st : V → Option (V ⊕ R)} {v : V} {r : R} {n : Nat} (h : zrun st n v = some r) : zev st v = some r := by
  have hh : ∃ n r, zrun st n v = some r := ⟨n, r, h⟩
  unfold zev
  rw [dif_pos hh]
  exact congrArg some (zrun_det hh.choose_spec.choose_spec h)
theorem zev_inr {V R : Type} {st : V → Option (V ⊕ R)} {v : V} {r : R} (h : st v = some (.inr r)) : zev st v = some r := zev_of (n := 1) (by simp only [zrun, h])
theorem zev_inl {V R : Type} {st : V → Option (V ⊕ R)} {v v2 : V} (h : st v = some (.inl v2)) : zev st v = zev st v2 := by
  cases h2 : zev st v2 with
  | some r =>
    obtain ⟨n, hn⟩ := zev_some h2
    exact zev_of (n := n + 1) (by simp only [zrun, h]; exact hn)
  | none =>
    cases h1 : zev st v with
    | none => rfl
    | some r =>
      obtain ⟨n, hn⟩ := zev_some h1
      cases n with
      | zero => cases hn
      | succ n =>
        simp only [zrun, h] at hn
        rw [zev_of hn] at h2
        cases h2
theorem zloop {V R : Type} {st : V → Option (V ⊕ R)} {res : R} {K : V → Prop} (hs : ∀ v, zq (fun x => match x with | .inl v2 => K v2 | .inr r => r = res) (st v) → K v) : ∀ v, zev st v = some res → K v := by
  intro v h
  obtain ⟨n, hn⟩ := zev_some h
  revert v
  induction n with
  | zero => intro v _ hn; cases hn
  | succ n ih =>
    intro v _ hn
    refine hs v ?_
    simp only [zrun] at hn
    split at hn
    · cases hn
    · rename_i r e
      rw [e]
      exact Option.some.inj hn
    · rename_i v2 e
      rw [e]
      exact ih v2 (zev_of hn) hn
/-! the machine's tables that are always there -/
abbrev zty (cy : Nat → ClassId) : List (ClassId × FieldType) := [(cy 0, .int), (cy 1, .char), (cy 2, .boolean), (cy 3, .object "PulseTurns$Hearing"), (cy 4, .object "PulseTurns$Periods")]
def zN (U : State) : Prop := va_Nw (.methodLinkNest RX6 36 yX5_init RX6) U ∧ va_Nw (.methodLinkNest RX2 27 yX4_init RX6) U ∧ va_Nw (.methodLinkNest RX6 50 yX4_init RX6) U ∧ va_Nw (.methodLinkNest RX5 57 yX6_isLow RX6) U ∧ va_Nw (.methodLinkNest RX5 63 yX6_isHigh RX6) U ∧ va_Nw (.methodLinkNest RX5 70 yX6_isSlack RX6) U ∧ va_Nw (.methodLinkNest RX5 80 yX6_isTime RX6) U ∧ va_AO "PulseTurns$Hearing" U ∧ va_AO "PulseTurns$Periods" U
theorem zN.warm {s U : State} (hW : s.WarmedH U.vm) (h : zN s) : zN U := by
  obtain ⟨a1, a2, a3, a4, a5, a6, a7, a8, a9⟩ := h
  exact ⟨a1.warmM hW, a2.warmM hW, a3.warmM hW, a4.warmM hW, a5.warmM hW, a6.warmM hW, a7.warmM hW, a8.moved hW.alike, a9.moved hW.alike⟩
theorem zN.same {s U : State} (hv : s.vm = U.vm) (h : zN s) : zN U := by
  obtain ⟨a1, a2, a3, a4, a5, a6, a7, a8, a9⟩ := h
  exact ⟨a1.same rfl hv, a2.same rfl hv, a3.same rfl hv, a4.same rfl hv, a5.same rfl hv, a6.same rfl hv, a7.same rfl hv, a8.moved (hv ▸ Vm.Alike.refl s.vm), a9.moved (hv ▸ Vm.Alike.refl s.vm)⟩
def zK (D : va_G) (cy : Nat → ClassId) (U : State) : Prop := va_K D vwCl (zty cy) U ∧ zN U
theorem zK.warm {D : va_G} {cy : Nat → ClassId} {s U : State} (hW : s.WarmedH U.vm) (h : zK D cy s) : zK D cy U := ⟨va_K.moved hW.alike h.1, h.2.warm hW⟩
theorem zK.same {D : va_G} {cy : Nat → ClassId} {s U : State} (hv : s.vm = U.vm) (h : zK D cy s) : zK D cy U := ⟨va_K.moved (hv ▸ Vm.Alike.refl s.vm) h.1, h.2.same hv⟩
/-! contracts -/
def zPre (D : va_G) (cy : Nat → ClassId) (sz : Nat) (ws : va_W) : State → Prop := fun U => U.heap.size = sz ∧ va_P D vwCl ws U.heap ∧ zK D cy U ∧ va_D (fun _ => True) ws
def zPost (D : va_G) (A : Nat → Prop) (w1 : va_W) : Unit → State → Prop := fun _ t => va_P D vwCl w1 t.heap ∧ va_D A w1
def zMi (l : Launch) (y : MethodName) (tw : List Cond) (rm : Room) (D : va_G) (cy : Nat → ClassId) (sz : Nat) (av : List Value) (wc w1 : va_W) (r : Int32) : Prop := Met l y tw rm (va_Pc av (zPre D cy sz wc)) (va_Qi (fun a (_ : Unit) => a = r) (zPost D (va_A wc sz) w1) (va_A wc sz)) 0 0 (va_A wc sz)
def zMv (l : Launch) (y : MethodName) (tw : List Cond) (rm : Room) (D : va_G) (cy : Nat → ClassId) (sz : Nat) (av : List Value) (wc w1 : va_W) : Prop := Met l y tw rm (va_Pc av (zPre D cy sz wc)) (va_Qv (fun (_ : Unit) => True) (zPost D (va_A wc sz) w1) (va_A wc sz)) 0 0 (va_A wc sz)
theorem zPre_blind {av : List Value} {D : va_G} {cy : Nat → ClassId} {sz : Nat} {wc : va_W} : FrameBlind (va_Pc av (zPre D cy sz wc)) := fun a U g mk q => by
  obtain ⟨q0, q1, qP, qK, qD⟩ := q
  exact ⟨q0, q1, qP, zK.same (s := U) (U := U.calling g mk a) rfl qK, qD⟩
abbrev zGi (p : Program) (l : Launch) (e : Env) (tw : List Cond) (rm : Room) (s : State) (m : MethodId) (av : List Value) (below : List Frame) (meth : Method) (c : Code) (A : Nat → Prop) (D : va_G) (w1 : va_W) (r : Int32) (H : Heap) (locs : List Loc) (g : JFrame) : Prop := W p l e (headSpec tw rm).room s m av.toArray below meth c H locs 0 0 (MQ below (va_Qi (fun a (_ : Unit) => a = r) (zPost D A w1) A) av.toArray s 0 0 A) g
abbrev zGv (p : Program) (l : Launch) (e : Env) (tw : List Cond) (rm : Room) (s : State) (m : MethodId) (av : List Value) (below : List Frame) (meth : Method) (c : Code) (A : Nat → Prop) (D : va_G) (w1 : va_W) (H : Heap) (locs : List Loc) (g : JFrame) : Prop := W p l e (headSpec tw rm).room s m av.toArray below meth c H locs 0 0 (MQ below (va_Qv (fun (_ : Unit) => True) (zPost D A w1) A) av.toArray s 0 0 A) g
section ZC
variable {p : Program} {l : Launch} {e : Env} {R : Room} {s : State} {m : MethodId} {args : Array Value} {below : List Frame} {meth : Method} {c : Code} {H : Heap} {locs : List Loc} {cells slots : Nat} {Q : State → Prop}
variable {y : MethodName} {bytes cc : ByteArray} {maxL nL n index : Nat} {ret : Option FieldType} {tw : List Cond} {rm : Room} {Ts : List Cond} {own C host : String} {b : Addr} {As rest st : List Value} {D : va_G} {cy : Nat → ClassId} {w wc wr w1 : va_W} {A : Nat → Prop} {r : Int32} {pc : Nat} {ls : Array Slot}
theorem zpre_at (hK : zK D cy s) (hP : va_P D vwCl w H) (hD : va_D A w) (isC : List Nat) (hC : isC.map (fun i => w[i]?) = wc.map some) (hnC : va_nd isC = true) (U : State) (hU : U.heap = H) (hW : s.WarmedH U.vm) : zPre D cy H.size wc U := by
  have hsub : isC.filterMap (fun i => w[i]?) = wc := by
    have h : ∀ (is : List Nat) (v : va_W), is.map (fun i => w[i]?) = v.map some → is.filterMap (fun i => w[i]?) = v := by
      intro is
      induction is with
      | nil => intro v h; cases v with | nil => rfl | cons a v => cases h
      | cons i is ih =>
        intro v h
        cases v with
        | nil => cases h
        | cons a v =>
          simp only [List.map_cons, List.cons.injEq] at h
          rw [List.filterMap_cons_some h.1, ih v h.2]
    exact h isC wc hC
  exact ⟨by rw [hU], by rw [hU]; exact hP.sub isC hsub, hK.warm hW, (hD.sub isC hnC hC).weaken (fun _ _ _ _ => trivial)⟩

theorem zcallVi (S : CallFix p m c cc nL s args Ts own) (hM : zMi l y tw rm D cy H.size (.ref b :: As) wc w1 r) (cw : CallW R s args own C index y bytes maxL ret tw rm 0 0 n) (hK : zK D cy s) (hP : va_P D vwCl w H) (hD : va_D A w) (hS : va_S A s.heap H locs) (hA : ∀ q, s.heap.size ≤ q → A q) (isC isR : List Nat) (hC : isC.map (fun i => w[i]?) = wc.map some) (hR : isR.map (fun i => w[i]?) = wr.map some) (hnC : va_nd isC = true) (hnR : va_nd isR = true) (hdis : ∀ i ∈ isR, i ∉ isC) (hrecv : ∃ cell : Cell, H[b]? = some cell ∧ cell.vm.isStatics = false ∧ s.vm.findClass C = some cell.cls) (hn : As.length = n) (hsize : ls.size = nL) (hstack : st = As.reverse ++ .ref b :: rest) (hW : (rest.map fun v => v.category).sum ≤ 8) (hdg : decode cc pc = .ok (.invokevirtual index, 3)) (hf : cells ≤ R.cells ∧ slots ≤ R.slots) (kk : ∀ (H1 : Heap) (locs1 : List Loc), va_P D vwCl (wr ++ w1) H1 → va_D A (wr ++ w1) → va_S A s.heap H1 locs1 → W p l e R s m args below meth c H1 locs1 cells slots Q (F0 m (pc + 3) ls (.int r :: rest))) : W p l e R s m args below meth c H locs cells slots Q (F0 m pc ls st) := by
  have hF := va_free (wc := wc) hD hS hA isC hC
  refine va_calli (va_runV (rest := rest) S hM cw ⟨zPre_blind, hrecv, fun U hU hW => ⟨rfl, zpre_at hK hP hD isC hC hnC U hU hW⟩⟩ rfl hn hsize hstack (lv_room hW) hdg hf) hS (fun q _ h => hF q h) hF (fun r2 u t H1 locs1 ht hvm hw hB hz1 hk1 hS1 => ?_)
  subst hw
  obtain ⟨hP1, hD1⟩ := hB
  rw [ht] at hP1
  obtain ⟨hP2, hD2⟩ := va_join (wr := wr) (w1 := w1) hP hD isC isR hC hR hnR hdis hk1 hF hP1 hD1
  exact kk H1 locs1 hP2 hD2 hS1
theorem zcallVv (S : CallFix p m c cc nL s args Ts own) (hM : zMv l y tw rm D cy H.size (.ref b :: As) wc w1) (cw : CallW R s args own C index y bytes maxL ret tw rm 0 0 n) (hK : zK D cy s) (hP : va_P D vwCl w H) (hD : va_D A w) (hS : va_S A s.heap H locs) (hA : ∀ q, s.heap.size ≤ q → A q) (isC isR : List Nat) (hC : isC.map (fun i => w[i]?) = wc.map some) (hR : isR.map (fun i => w[i]?) = wr.map some) (hnC : va_nd isC = true) (hnR : va_nd isR = true) (hdis : ∀ i ∈ isR, i ∉ isC) (hrecv : ∃ cell : Cell, H[b]? = some cell ∧ cell.vm.isStatics = false ∧ s.vm.findClass C = some cell.cls) (hn : As.length = n) (hsize : ls.size = nL) (hstack : st = As.reverse ++ .ref b :: rest) (hW : (rest.map fun v => v.category).sum ≤ 8) (hdg : decode cc pc = .ok (.invokevirtual index, 3)) (hf : cells ≤ R.cells ∧ slots ≤ R.slots) (kk : ∀ (H1 : Heap) (locs1 : List Loc), va_P D vwCl (wr ++ w1) H1 → va_D A (wr ++ w1) → va_S A s.heap H1 locs1 → W p l e R s m args below meth c H1 locs1 cells slots Q (F0 m (pc + 3) ls rest)) : W p l e R s m args below meth c H locs cells slots Q (F0 m pc ls st) := by
  have hF := va_free (wc := wc) hD hS hA isC hC
  refine va_callv (va_runV (rest := rest) S hM cw ⟨zPre_blind, hrecv, fun U hU hW => ⟨rfl, zpre_at hK hP hD isC hC hnC U hU hW⟩⟩ rfl hn hsize hstack (lv_room hW) hdg hf) hS (fun q _ h => hF q h) hF (fun u t H1 locs1 ht hvm hw hB hz1 hk1 hS1 => ?_)
  obtain ⟨hP1, hD1⟩ := hB
  rw [ht] at hP1
  obtain ⟨hP2, hD2⟩ := va_join (wr := wr) (w1 := w1) hP hD isC isR hC hR hnR hdis hk1 hF hP1 hD1
  exact kk H1 locs1 hP2 hD2 hS1
theorem zcallSi (S : CallFix p m c cc nL s args Ts own) (hM : zMi l y tw rm D cy H.size As wc w1 r) (cw : CallB R s args own index y bytes maxL ret tw rm 0 0 n ∧ (Cond.static y).before args s = true) (hK : zK D cy s) (hP : va_P D vwCl w H) (hD : va_D A w) (hS : va_S A s.heap H locs) (hA : ∀ q, s.heap.size ≤ q → A q) (isC isR : List Nat) (hC : isC.map (fun i => w[i]?) = wc.map some) (hR : isR.map (fun i => w[i]?) = wr.map some) (hnC : va_nd isC = true) (hnR : va_nd isR = true) (hdis : ∀ i ∈ isR, i ∉ isC) (hn : As.length = n) (hsize : ls.size = nL) (hstack : st = As.reverse ++ rest) (hW : (rest.map fun v => v.category).sum ≤ 8) (hdg : decode cc pc = .ok (.invokestatic index, 3)) (hf : cells ≤ R.cells ∧ slots ≤ R.slots) (kk : ∀ (H1 : Heap) (locs1 : List Loc), va_P D vwCl (wr ++ w1) H1 → va_D A (wr ++ w1) → va_S A s.heap H1 locs1 → W p l e R s m args below meth c H1 locs1 cells slots Q (F0 m (pc + 3) ls (.int r :: rest))) : W p l e R s m args below meth c H locs cells slots Q (F0 m pc ls st) := by
  have hF := va_free (wc := wc) hD hS hA isC hC
  refine va_calli (va_runS (rest := rest) S hM cw ⟨zPre_blind, fun U hU hW => ⟨rfl, zpre_at hK hP hD isC hC hnC U hU hW⟩⟩ rfl hn hsize hstack (lv_room hW) hdg hf) hS (fun q _ h => hF q h) hF (fun r2 u t H1 locs1 ht hvm hw hB hz1 hk1 hS1 => ?_)
  subst hw
  obtain ⟨hP1, hD1⟩ := hB
  rw [ht] at hP1
  obtain ⟨hP2, hD2⟩ := va_join (wr := wr) (w1 := w1) hP hD isC isR hC hR hnR hdis hk1 hF hP1 hD1
  exact kk H1 locs1 hP2 hD2 hS1
theorem zcallSv (S : CallFix p m c cc nL s args Ts own) (hM : zMv l y tw rm D cy H.size As wc w1) (cw : CallB R s args own index y bytes maxL ret tw rm 0 0 n ∧ (Cond.static y).before args s = true) (hK : zK D cy s) (hP : va_P D vwCl w H) (hD : va_D A w) (hS : va_S A s.heap H locs) (hA : ∀ q, s.heap.size ≤ q → A q) (isC isR : List Nat) (hC : isC.map (fun i => w[i]?) = wc.map some) (hR : isR.map (fun i => w[i]?) = wr.map some) (hnC : va_nd isC = true) (hnR : va_nd isR = true) (hdis : ∀ i ∈ isR, i ∉ isC) (hn : As.length = n) (hsize : ls.size = nL) (hstack : st = As.reverse ++ rest) (hW : (rest.map fun v => v.category).sum ≤ 8) (hdg : decode cc pc = .ok (.invokestatic index, 3)) (hf : cells ≤ R.cells ∧ slots ≤ R.slots) (kk : ∀ (H1 : Heap) (locs1 : List Loc), va_P D vwCl (wr ++ w1) H1 → va_D A (wr ++ w1) → va_S A s.heap H1 locs1 → W p l e R s m args below meth c H1 locs1 cells slots Q (F0 m (pc + 3) ls rest)) : W p l e R s m args below meth c H locs cells slots Q (F0 m pc ls st) := by
  have hF := va_free (wc := wc) hD hS hA isC hC
  refine va_callv (va_runS (rest := rest) S hM cw ⟨zPre_blind, fun U hU hW => ⟨rfl, zpre_at hK hP hD isC hC hnC U hU hW⟩⟩ rfl hn hsize hstack (lv_room hW) hdg hf) hS (fun q _ h => hF q h) hF (fun u t H1 locs1 ht hvm hw hB hz1 hk1 hS1 => ?_)
  obtain ⟨hP1, hD1⟩ := hB
  rw [ht] at hP1
  obtain ⟨hP2, hD2⟩ := va_join (wr := wr) (w1 := w1) hP hD isC isR hC hR hnR hdis hk1 hF hP1 hD1
  exact kk H1 locs1 hP2 hD2 hS1
theorem zcallNi (S : CallFix p m c cc nL s args Ts own) (hM : zMi l y tw rm D cy H.size As wc w1 r) (cw : va_CN R s args own index y host bytes maxL ret tw rm 0 0 n ∧ (Cond.static y).before args s = true ∧ True) (hK : zK D cy s) (hP : va_P D vwCl w H) (hD : va_D A w) (hS : va_S A s.heap H locs) (hA : ∀ q, s.heap.size ≤ q → A q) (isC isR : List Nat) (hC : isC.map (fun i => w[i]?) = wc.map some) (hR : isR.map (fun i => w[i]?) = wr.map some) (hnC : va_nd isC = true) (hnR : va_nd isR = true) (hdis : ∀ i ∈ isR, i ∉ isC) (hn : As.length = n) (hsize : ls.size = nL) (hstack : st = As.reverse ++ rest) (hW : (rest.map fun v => v.category).sum ≤ 8) (hdg : decode cc pc = .ok (.invokestatic index, 3)) (hf : cells ≤ R.cells ∧ slots ≤ R.slots) (kk : ∀ (H1 : Heap) (locs1 : List Loc), va_P D vwCl (wr ++ w1) H1 → va_D A (wr ++ w1) → va_S A s.heap H1 locs1 → W p l e R s m args below meth c H1 locs1 cells slots Q (F0 m (pc + 3) ls (.int r :: rest))) : W p l e R s m args below meth c H locs cells slots Q (F0 m pc ls st) := by
  have hF := va_free (wc := wc) hD hS hA isC hC
  refine va_calli (va_runSN (rest := rest) S hM cw ⟨zPre_blind, fun U hU hW => ⟨rfl, zpre_at hK hP hD isC hC hnC U hU hW⟩⟩ rfl hn hsize hstack (lv_room hW) hdg hf) hS (fun q _ h => hF q h) hF (fun r2 u t H1 locs1 ht hvm hw hB hz1 hk1 hS1 => ?_)
  subst hw
  obtain ⟨hP1, hD1⟩ := hB
  rw [ht] at hP1
  obtain ⟨hP2, hD2⟩ := va_join (wr := wr) (w1 := w1) hP hD isC isR hC hR hnR hdis hk1 hF hP1 hD1
  exact kk H1 locs1 hP2 hD2 hS1
end ZC
section ZI
variable {p : Program} {l : Launch} {e : Env} {R : Room} {s : State} {m : MethodId} {args : Array Value} {below : List Frame} {meth : Method} {c : Code} {H : Heap} {locs : List Loc} {cells slots : Nat} {Q : State → Prop} {cc : ByteArray} {pc : Nat} {ls : Array Slot} {rest : List Value} {D : va_G} {cy : Nat → ClassId} {w : va_W} {A : Nat → Prop} {ad : Nat}
theorem zz_iadd (hx : p.tables.exec = Jvm.exec) (hb : c.code = cc) {a b : Int} (hdg : decode cc pc = .ok (.iadd, 1)) (k : W p l e R s m args below meth c H locs cells slots Q (F0 m (pc + 1) ls (.int (zI (a + b)) :: rest))) : W p l e R s m args below meth c H locs cells slots Q (F0 m pc ls (.int (zI b) :: .int (zI a) :: rest)) := lv_iadd hx hb hdg (by rw [zI_add]; exact k)
theorem zz_isub (hx : p.tables.exec = Jvm.exec) (hb : c.code = cc) {a b : Int} (hdg : decode cc pc = .ok (.isub, 1)) (k : W p l e R s m args below meth c H locs cells slots Q (F0 m (pc + 1) ls (.int (zI (a - b)) :: rest))) : W p l e R s m args below meth c H locs cells slots Q (F0 m pc ls (.int (zI b) :: .int (zI a) :: rest)) := lv_isub hx hb hdg (by rw [zI_sub]; exact k)
theorem zz_imul (hx : p.tables.exec = Jvm.exec) (hb : c.code = cc) {a b : Int} (hdg : decode cc pc = .ok (.imul, 1)) (k : W p l e R s m args below meth c H locs cells slots Q (F0 m (pc + 1) ls (.int (zI (a * b)) :: rest))) : W p l e R s m args below meth c H locs cells slots Q (F0 m pc ls (.int (zI b) :: .int (zI a) :: rest)) := lv_imul hx hb hdg (by rw [zI_mul]; exact k)
theorem zz_ineg (hx : p.tables.exec = Jvm.exec) (hb : c.code = cc) {a : Int} (hdg : decode cc pc = .ok (.ineg, 1)) (k : W p l e R s m args below meth c H locs cells slots Q (F0 m (pc + 1) ls (.int (zI (-a)) :: rest))) : W p l e R s m args below meth c H locs cells slots Q (F0 m pc ls (.int (zI a) :: rest)) := lv_ineg hx hb hdg (by rw [zI_neg]; exact k)
theorem zz_iand (hx : p.tables.exec = Jvm.exec) (hb : c.code = cc) {a b : Int} (hdg : decode cc pc = .ok (.iand, 1)) (k : W p l e R s m args below meth c H locs cells slots Q (F0 m (pc + 1) ls (.int (zI (zAnd a b)) :: rest))) : W p l e R s m args below meth c H locs cells slots Q (F0 m pc ls (.int (zI b) :: .int (zI a) :: rest)) := lv_iand hx hb hdg (by rw [zAnd, zI_of] at k; exact k)
theorem zz_ior (hx : p.tables.exec = Jvm.exec) (hb : c.code = cc) {a b : Int} (hdg : decode cc pc = .ok (.ior, 1)) (k : W p l e R s m args below meth c H locs cells slots Q (F0 m (pc + 1) ls (.int (zI (zOr a b)) :: rest))) : W p l e R s m args below meth c H locs cells slots Q (F0 m pc ls (.int (zI b) :: .int (zI a) :: rest)) := lv_ior hx hb hdg (by rw [zOr, zI_of] at k; exact k)
theorem zz_ixor (hx : p.tables.exec = Jvm.exec) (hb : c.code = cc) {a b : Int} (hdg : decode cc pc = .ok (.ixor, 1)) (k : W p l e R s m args below meth c H locs cells slots Q (F0 m (pc + 1) ls (.int (zI (zXor a b)) :: rest))) : W p l e R s m args below meth c H locs cells slots Q (F0 m pc ls (.int (zI b) :: .int (zI a) :: rest)) := lv_ixor hx hb hdg (by rw [zXor, zI_of] at k; exact k)
theorem zz_ishl (hx : p.tables.exec = Jvm.exec) (hb : c.code = cc) {a b : Int} (hdg : decode cc pc = .ok (.ishl, 1)) (k : W p l e R s m args below meth c H locs cells slots Q (F0 m (pc + 1) ls (.int (zI (zShl a b)) :: rest))) : W p l e R s m args below meth c H locs cells slots Q (F0 m pc ls (.int (zI b) :: .int (zI a) :: rest)) := lv_ishl hx hb hdg (by rw [zShl, zI_of] at k; exact k)
theorem zz_ishr (hx : p.tables.exec = Jvm.exec) (hb : c.code = cc) {a b : Int} (hdg : decode cc pc = .ok (.ishr, 1)) (k : W p l e R s m args below meth c H locs cells slots Q (F0 m (pc + 1) ls (.int (zI (zShr a b)) :: rest))) : W p l e R s m args below meth c H locs cells slots Q (F0 m pc ls (.int (zI b) :: .int (zI a) :: rest)) := lv_ishr hx hb hdg (by rw [zShr, zI_of] at k; exact k)
theorem zz_iushr (hx : p.tables.exec = Jvm.exec) (hb : c.code = cc) {a b : Int} (hdg : decode cc pc = .ok (.iushr, 1)) (k : W p l e R s m args below meth c H locs cells slots Q (F0 m (pc + 1) ls (.int (zI (zUshr a b)) :: rest))) : W p l e R s m args below meth c H locs cells slots Q (F0 m pc ls (.int (zI b) :: .int (zI a) :: rest)) := lv_iushr hx hb hdg (by rw [zUshr, zI_of]) k
theorem zz_i2c (hx : p.tables.exec = Jvm.exec) (hb : c.code = cc) {a : Int} (hdg : decode cc pc = .ok (.i2c, 1)) (k : W p l e R s m args below meth c H locs cells slots Q (F0 m (pc + 1) ls (.int (zI (zChr a)) :: rest))) : W p l e R s m args below meth c H locs cells slots Q (F0 m pc ls (.int (zI a) :: rest)) := lv_i2c hx hb hdg (by rw [zChr, zI_of]) k
theorem zz_idiv (hx : p.tables.exec = Jvm.exec) (hb : c.code = cc) {a b : Int} (h : zR a ∧ zR b ∧ b ≠ 0) (hdg : decode cc pc = .ok (.idiv, 1)) (k : W p l e R s m args below meth c H locs cells slots Q (F0 m (pc + 1) ls (.int (zI (a.tdiv b)) :: rest))) : W p l e R s m args below meth c H locs cells slots Q (F0 m pc ls (.int (zI b) :: .int (zI a) :: rest)) := lv_idiv hx hb hdg (fun q => h.2.2 ((zI_eq h.2.1 zR0).mp (q.trans zI_0.symm))) (by rw [zI_div h.1 h.2.1]; exact k)
theorem zz_irem (hx : p.tables.exec = Jvm.exec) (hb : c.code = cc) {a b : Int} (h : zR a ∧ zR b ∧ b ≠ 0) (hdg : decode cc pc = .ok (.irem, 1)) (k : W p l e R s m args below meth c H locs cells slots Q (F0 m (pc + 1) ls (.int (zI (a.tmod b)) :: rest))) : W p l e R s m args below meth c H locs cells slots Q (F0 m pc ls (.int (zI b) :: .int (zI a) :: rest)) := lv_irem hx hb hdg (fun q => h.2.2 ((zI_eq h.2.1 zR0).mp (q.trans zI_0.symm))) (by rw [zI_rem h.1 h.2.1]; exact k)
theorem zz_top {a b : Int} (h : a = b) (k : W p l e R s m args below meth c H locs cells slots Q (F0 m pc ls (.int (zI a) :: rest))) : W p l e R s m args below meth c H locs cells slots Q (F0 m pc ls (.int (zI b) :: rest)) := h ▸ k
theorem zz_icmp_eq (hx : p.tables.exec = Jvm.exec) (hb : c.code = cc) {a b : Int} {off : Int} {tgt : Nat} {α : Type} {P : α → Prop} {X Y : Option α} (hdg : decode cc pc = .ok (.if_icmp .eq off, 3)) (ht : (pc : Int) + off = (tgt : Int)) (hf : zq P (gd (zR a ∧ zR b) (if a = b then X else Y))) (k1 : a = b → zq P X → W p l e R s m args below meth c H locs cells slots Q (F0 m tgt ls rest)) (k2 : ¬ a = b → zq P Y → W p l e R s m args below meth c H locs cells slots Q (F0 m (pc + 3) ls rest)) : W p l e R s m args below meth c H locs cells slots Q (F0 m pc ls (.int (zI b) :: .int (zI a) :: rest)) := by
  obtain ⟨h, hf⟩ := zq_gd hf
  have e1 : a = b → W p l e R s m args below meth c H locs cells slots Q (F0 m tgt ls rest) := fun hc => k1 hc (by rw [if_pos hc] at hf; exact hf)
  have e2 : ¬ a = b → W p l e R s m args below meth c H locs cells slots Q (F0 m (pc + 3) ls rest) := fun hc => k2 hc (by rw [if_neg hc] at hf; exact hf)
  have hiff : (zI a = zI b) ↔ (a = b) := by exact zI_eq h.1 h.2
  exact lv_icmp_eq hx hb hdg ht (fun q => e1 (hiff.mp q)) (fun q => e2 (fun z => q (hiff.mpr z)))
theorem zz_if_eq (hx : p.tables.exec = Jvm.exec) (hb : c.code = cc) {a : Int} {off : Int} {tgt : Nat} {α : Type} {P : α → Prop} {X Y : Option α} (hdg : decode cc pc = .ok (.ifCond .eq off, 3)) (ht : (pc : Int) + off = (tgt : Int)) (hf : zq P (gd (zR a) (if a = 0 then X else Y))) (k1 : a = 0 → zq P X → W p l e R s m args below meth c H locs cells slots Q (F0 m tgt ls rest)) (k2 : ¬ a = 0 → zq P Y → W p l e R s m args below meth c H locs cells slots Q (F0 m (pc + 3) ls rest)) : W p l e R s m args below meth c H locs cells slots Q (F0 m pc ls (.int (zI a) :: rest)) := by
  obtain ⟨h, hf⟩ := zq_gd hf
  have e1 : a = 0 → W p l e R s m args below meth c H locs cells slots Q (F0 m tgt ls rest) := fun hc => k1 hc (by rw [if_pos hc] at hf; exact hf)
  have e2 : ¬ a = 0 → W p l e R s m args below meth c H locs cells slots Q (F0 m (pc + 3) ls rest) := fun hc => k2 hc (by rw [if_neg hc] at hf; exact hf)
  have hiff : (zI a = 0) ↔ (a = 0) := by rw [← zI_0]; exact zI_eq h zR0
  exact lv_if_eq hx hb hdg ht (fun q => e1 (hiff.mp q)) (fun q => e2 (fun z => q (hiff.mpr z)))
theorem zz_icmp_ne (hx : p.tables.exec = Jvm.exec) (hb : c.code = cc) {a b : Int} {off : Int} {tgt : Nat} {α : Type} {P : α → Prop} {X Y : Option α} (hdg : decode cc pc = .ok (.if_icmp .ne off, 3)) (ht : (pc : Int) + off = (tgt : Int)) (hf : zq P (gd (zR a ∧ zR b) (if a = b then X else Y))) (k1 : a = b → zq P X → W p l e R s m args below meth c H locs cells slots Q (F0 m (pc + 3) ls rest)) (k2 : ¬ a = b → zq P Y → W p l e R s m args below meth c H locs cells slots Q (F0 m tgt ls rest)) : W p l e R s m args below meth c H locs cells slots Q (F0 m pc ls (.int (zI b) :: .int (zI a) :: rest)) := by
  obtain ⟨h, hf⟩ := zq_gd hf
  have e1 : a = b → W p l e R s m args below meth c H locs cells slots Q (F0 m (pc + 3) ls rest) := fun hc => k1 hc (by rw [if_pos hc] at hf; exact hf)
  have e2 : ¬ a = b → W p l e R s m args below meth c H locs cells slots Q (F0 m tgt ls rest) := fun hc => k2 hc (by rw [if_neg hc] at hf; exact hf)
  have hiff : (zI a = zI b) ↔ (a = b) := by exact zI_eq h.1 h.2
  exact lv_icmp_ne hx hb hdg ht (fun q => e2 (fun z => q (hiff.mpr z))) (fun q => e1 (hiff.mp q))
theorem zz_if_ne (hx : p.tables.exec = Jvm.exec) (hb : c.code = cc) {a : Int} {off : Int} {tgt : Nat} {α : Type} {P : α → Prop} {X Y : Option α} (hdg : decode cc pc = .ok (.ifCond .ne off, 3)) (ht : (pc : Int) + off = (tgt : Int)) (hf : zq P (gd (zR a) (if a = 0 then X else Y))) (k1 : a = 0 → zq P X → W p l e R s m args below meth c H locs cells slots Q (F0 m (pc + 3) ls rest)) (k2 : ¬ a = 0 → zq P Y → W p l e R s m args below meth c H locs cells slots Q (F0 m tgt ls rest)) : W p l e R s m args below meth c H locs cells slots Q (F0 m pc ls (.int (zI a) :: rest)) := by
  obtain ⟨h, hf⟩ := zq_gd hf
  have e1 : a = 0 → W p l e R s m args below meth c H locs cells slots Q (F0 m (pc + 3) ls rest) := fun hc => k1 hc (by rw [if_pos hc] at hf; exact hf)
  have e2 : ¬ a = 0 → W p l e R s m args below meth c H locs cells slots Q (F0 m tgt ls rest) := fun hc => k2 hc (by rw [if_neg hc] at hf; exact hf)
  have hiff : (zI a = 0) ↔ (a = 0) := by rw [← zI_0]; exact zI_eq h zR0
  exact lv_if_ne hx hb hdg ht (fun q => e2 (fun z => q (hiff.mpr z))) (fun q => e1 (hiff.mp q))
theorem zz_icmp_lt (hx : p.tables.exec = Jvm.exec) (hb : c.code = cc) {a b : Int} {off : Int} {tgt : Nat} {α : Type} {P : α → Prop} {X Y : Option α} (hdg : decode cc pc = .ok (.if_icmp .lt off, 3)) (ht : (pc : Int) + off = (tgt : Int)) (hf : zq P (gd (zR a ∧ zR b) (if a < b then X else Y))) (k1 : a < b → zq P X → W p l e R s m args below meth c H locs cells slots Q (F0 m tgt ls rest)) (k2 : ¬ a < b → zq P Y → W p l e R s m args below meth c H locs cells slots Q (F0 m (pc + 3) ls rest)) : W p l e R s m args below meth c H locs cells slots Q (F0 m pc ls (.int (zI b) :: .int (zI a) :: rest)) := by
  obtain ⟨h, hf⟩ := zq_gd hf
  have e1 : a < b → W p l e R s m args below meth c H locs cells slots Q (F0 m tgt ls rest) := fun hc => k1 hc (by rw [if_pos hc] at hf; exact hf)
  have e2 : ¬ a < b → W p l e R s m args below meth c H locs cells slots Q (F0 m (pc + 3) ls rest) := fun hc => k2 hc (by rw [if_neg hc] at hf; exact hf)
  have hiff : (zI a < zI b) ↔ (a < b) := by exact zI_lt h.1 h.2
  exact lv_icmp_lt hx hb hdg ht (fun q => e1 (hiff.mp q)) (fun q => e2 (fun z => q (hiff.mpr z)))
theorem zz_if_lt (hx : p.tables.exec = Jvm.exec) (hb : c.code = cc) {a : Int} {off : Int} {tgt : Nat} {α : Type} {P : α → Prop} {X Y : Option α} (hdg : decode cc pc = .ok (.ifCond .lt off, 3)) (ht : (pc : Int) + off = (tgt : Int)) (hf : zq P (gd (zR a) (if a < 0 then X else Y))) (k1 : a < 0 → zq P X → W p l e R s m args below meth c H locs cells slots Q (F0 m tgt ls rest)) (k2 : ¬ a < 0 → zq P Y → W p l e R s m args below meth c H locs cells slots Q (F0 m (pc + 3) ls rest)) : W p l e R s m args below meth c H locs cells slots Q (F0 m pc ls (.int (zI a) :: rest)) := by
  obtain ⟨h, hf⟩ := zq_gd hf
  have e1 : a < 0 → W p l e R s m args below meth c H locs cells slots Q (F0 m tgt ls rest) := fun hc => k1 hc (by rw [if_pos hc] at hf; exact hf)
  have e2 : ¬ a < 0 → W p l e R s m args below meth c H locs cells slots Q (F0 m (pc + 3) ls rest) := fun hc => k2 hc (by rw [if_neg hc] at hf; exact hf)
  have hiff : (zI a < 0) ↔ (a < 0) := by rw [← zI_0]; exact zI_lt h zR0
  exact lv_if_lt hx hb hdg ht (fun q => e1 (hiff.mp q)) (fun q => e2 (fun z => q (hiff.mpr z)))
theorem zz_icmp_ge (hx : p.tables.exec = Jvm.exec) (hb : c.code = cc) {a b : Int} {off : Int} {tgt : Nat} {α : Type} {P : α → Prop} {X Y : Option α} (hdg : decode cc pc = .ok (.if_icmp .ge off, 3)) (ht : (pc : Int) + off = (tgt : Int)) (hf : zq P (gd (zR a ∧ zR b) (if a < b then X else Y))) (k1 : a < b → zq P X → W p l e R s m args below meth c H locs cells slots Q (F0 m (pc + 3) ls rest)) (k2 : ¬ a < b → zq P Y → W p l e R s m args below meth c H locs cells slots Q (F0 m tgt ls rest)) : W p l e R s m args below meth c H locs cells slots Q (F0 m pc ls (.int (zI b) :: .int (zI a) :: rest)) := by
  obtain ⟨h, hf⟩ := zq_gd hf
  have e1 : a < b → W p l e R s m args below meth c H locs cells slots Q (F0 m (pc + 3) ls rest) := fun hc => k1 hc (by rw [if_pos hc] at hf; exact hf)
  have e2 : ¬ a < b → W p l e R s m args below meth c H locs cells slots Q (F0 m tgt ls rest) := fun hc => k2 hc (by rw [if_neg hc] at hf; exact hf)
  have hiff : (zI b ≤ zI a) ↔ (b ≤ a) := by exact zI_le h.2 h.1
  exact lv_icmp_ge hx hb hdg ht (fun q => e2 (by have := hiff.mp q; omega)) (fun q => e1 (Decidable.byContradiction (fun z => q (hiff.mpr (by omega)))))
theorem zz_if_ge (hx : p.tables.exec = Jvm.exec) (hb : c.code = cc) {a : Int} {off : Int} {tgt : Nat} {α : Type} {P : α → Prop} {X Y : Option α} (hdg : decode cc pc = .ok (.ifCond .ge off, 3)) (ht : (pc : Int) + off = (tgt : Int)) (hf : zq P (gd (zR a) (if a < 0 then X else Y))) (k1 : a < 0 → zq P X → W p l e R s m args below meth c H locs cells slots Q (F0 m (pc + 3) ls rest)) (k2 : ¬ a < 0 → zq P Y → W p l e R s m args below meth c H locs cells slots Q (F0 m tgt ls rest)) : W p l e R s m args below meth c H locs cells slots Q (F0 m pc ls (.int (zI a) :: rest)) := by
  obtain ⟨h, hf⟩ := zq_gd hf
  have e1 : a < 0 → W p l e R s m args below meth c H locs cells slots Q (F0 m (pc + 3) ls rest) := fun hc => k1 hc (by rw [if_pos hc] at hf; exact hf)
  have e2 : ¬ a < 0 → W p l e R s m args below meth c H locs cells slots Q (F0 m tgt ls rest) := fun hc => k2 hc (by rw [if_neg hc] at hf; exact hf)
  have hiff : (0 ≤ zI a) ↔ (0 ≤ a) := by rw [← zI_0]; exact zI_le zR0 h
  exact lv_if_ge hx hb hdg ht (fun q => e2 (by have := hiff.mp q; omega)) (fun q => e1 (Decidable.byContradiction (fun z => q (hiff.mpr (by omega)))))
theorem zz_icmp_gt (hx : p.tables.exec = Jvm.exec) (hb : c.code = cc) {a b : Int} {off : Int} {tgt : Nat} {α : Type} {P : α → Prop} {X Y : Option α} (hdg : decode cc pc = .ok (.if_icmp .gt off, 3)) (ht : (pc : Int) + off = (tgt : Int)) (hf : zq P (gd (zR a ∧ zR b) (if a ≤ b then X else Y))) (k1 : a ≤ b → zq P X → W p l e R s m args below meth c H locs cells slots Q (F0 m (pc + 3) ls rest)) (k2 : ¬ a ≤ b → zq P Y → W p l e R s m args below meth c H locs cells slots Q (F0 m tgt ls rest)) : W p l e R s m args below meth c H locs cells slots Q (F0 m pc ls (.int (zI b) :: .int (zI a) :: rest)) := by
  obtain ⟨h, hf⟩ := zq_gd hf
  have e1 : a ≤ b → W p l e R s m args below meth c H locs cells slots Q (F0 m (pc + 3) ls rest) := fun hc => k1 hc (by rw [if_pos hc] at hf; exact hf)
  have e2 : ¬ a ≤ b → W p l e R s m args below meth c H locs cells slots Q (F0 m tgt ls rest) := fun hc => k2 hc (by rw [if_neg hc] at hf; exact hf)
  have hiff : (zI b < zI a) ↔ (b < a) := by exact zI_lt h.2 h.1
  exact lv_icmp_gt hx hb hdg ht (fun q => e2 (by have := hiff.mp q; omega)) (fun q => e1 (Decidable.byContradiction (fun z => q (hiff.mpr (by omega)))))
theorem zz_if_gt (hx : p.tables.exec = Jvm.exec) (hb : c.code = cc) {a : Int} {off : Int} {tgt : Nat} {α : Type} {P : α → Prop} {X Y : Option α} (hdg : decode cc pc = .ok (.ifCond .gt off, 3)) (ht : (pc : Int) + off = (tgt : Int)) (hf : zq P (gd (zR a) (if a ≤ 0 then X else Y))) (k1 : a ≤ 0 → zq P X → W p l e R s m args below meth c H locs cells slots Q (F0 m (pc + 3) ls rest)) (k2 : ¬ a ≤ 0 → zq P Y → W p l e R s m args below meth c H locs cells slots Q (F0 m tgt ls rest)) : W p l e R s m args below meth c H locs cells slots Q (F0 m pc ls (.int (zI a) :: rest)) := by
  obtain ⟨h, hf⟩ := zq_gd hf
  have e1 : a ≤ 0 → W p l e R s m args below meth c H locs cells slots Q (F0 m (pc + 3) ls rest) := fun hc => k1 hc (by rw [if_pos hc] at hf; exact hf)
  have e2 : ¬ a ≤ 0 → W p l e R s m args below meth c H locs cells slots Q (F0 m tgt ls rest) := fun hc => k2 hc (by rw [if_neg hc] at hf; exact hf)
  have hiff : (0 < zI a) ↔ (0 < a) := by rw [← zI_0]; exact zI_lt zR0 h
  exact lv_if_gt hx hb hdg ht (fun q => e2 (by have := hiff.mp q; omega)) (fun q => e1 (Decidable.byContradiction (fun z => q (hiff.mpr (by omega)))))
theorem zz_icmp_le (hx : p.tables.exec = Jvm.exec) (hb : c.code = cc) {a b : Int} {off : Int} {tgt : Nat} {α : Type} {P : α → Prop} {X Y : Option α} (hdg : decode cc pc = .ok (.if_icmp .le off, 3)) (ht : (pc : Int) + off = (tgt : Int)) (hf : zq P (gd (zR a ∧ zR b) (if a ≤ b then X else Y))) (k1 : a ≤ b → zq P X → W p l e R s m args below meth c H locs cells slots Q (F0 m tgt ls rest)) (k2 : ¬ a ≤ b → zq P Y → W p l e R s m args below meth c H locs cells slots Q (F0 m (pc + 3) ls rest)) : W p l e R s m args below meth c H locs cells slots Q (F0 m pc ls (.int (zI b) :: .int (zI a) :: rest)) := by
  obtain ⟨h, hf⟩ := zq_gd hf
  have e1 : a ≤ b → W p l e R s m args below meth c H locs cells slots Q (F0 m tgt ls rest) := fun hc => k1 hc (by rw [if_pos hc] at hf; exact hf)
  have e2 : ¬ a ≤ b → W p l e R s m args below meth c H locs cells slots Q (F0 m (pc + 3) ls rest) := fun hc => k2 hc (by rw [if_neg hc] at hf; exact hf)
  have hiff : (zI a ≤ zI b) ↔ (a ≤ b) := by exact zI_le h.1 h.2
  exact lv_icmp_le hx hb hdg ht (fun q => e1 (hiff.mp q)) (fun q => e2 (fun z => q (hiff.mpr z)))
theorem zz_if_le (hx : p.tables.exec = Jvm.exec) (hb : c.code = cc) {a : Int} {off : Int} {tgt : Nat} {α : Type} {P : α → Prop} {X Y : Option α} (hdg : decode cc pc = .ok (.ifCond .le off, 3)) (ht : (pc : Int) + off = (tgt : Int)) (hf : zq P (gd (zR a) (if a ≤ 0 then X else Y))) (k1 : a ≤ 0 → zq P X → W p l e R s m args below meth c H locs cells slots Q (F0 m tgt ls rest)) (k2 : ¬ a ≤ 0 → zq P Y → W p l e R s m args below meth c H locs cells slots Q (F0 m (pc + 3) ls rest)) : W p l e R s m args below meth c H locs cells slots Q (F0 m pc ls (.int (zI a) :: rest)) := by
  obtain ⟨h, hf⟩ := zq_gd hf
  have e1 : a ≤ 0 → W p l e R s m args below meth c H locs cells slots Q (F0 m tgt ls rest) := fun hc => k1 hc (by rw [if_pos hc] at hf; exact hf)
  have e2 : ¬ a ≤ 0 → W p l e R s m args below meth c H locs cells slots Q (F0 m (pc + 3) ls rest) := fun hc => k2 hc (by rw [if_neg hc] at hf; exact hf)
  have hiff : (zI a ≤ 0) ↔ (a ≤ 0) := by rw [← zI_0]; exact zI_le h zR0
  exact lv_if_le hx hb hdg ht (fun q => e1 (hiff.mp q)) (fun q => e2 (fun z => q (hiff.mpr z)))
theorem zz_iald (hx : p.tables.exec = Jvm.exec) (hb : c.code = cc) (hK : zK D cy s) (hP : va_P D vwCl w H) (q0 : Nat) {n : Nat} {T : Nat → Int} {i : Int} (ha : w[q0]? = some (ad, .inl (cy 0, n, .inl (fun k => zI (T k))))) (hn : n ≤ 1000) (h : zin i n) (hdg : decode cc pc = .ok (.iaload, 1)) (k : W p l e R s m args below meth c H locs cells slots Q (F0 m (pc + 1) ls (.int (zI (T i.toNat)) :: rest))) : W p l e R s m args below meth c H locs cells slots Q (F0 m pc ls (.int (zI i) :: .ref ad :: rest)) := va_iald hx hb hK.1 hP q0 0 ha rfl (zin_vp hn h) hdg (by rw [show (zI i).toNatClampNeg = i.toNat from zI_cl h.1 (by have := h.2; omega)]; exact k)
theorem zz_cald (hx : p.tables.exec = Jvm.exec) (hb : c.code = cc) (hK : zK D cy s) (hP : va_P D vwCl w H) (q0 : Nat) {n : Nat} {T : Nat → Int} {i : Int} (ha : w[q0]? = some (ad, .inl (cy 1, n, .inl (fun k => zI (T k))))) (hn : n ≤ 1000) (h : zin i n) (hdg : decode cc pc = .ok (.caload, 1)) (k : W p l e R s m args below meth c H locs cells slots Q (F0 m (pc + 1) ls (.int (zI (T i.toNat)) :: rest))) : W p l e R s m args below meth c H locs cells slots Q (F0 m pc ls (.int (zI i) :: .ref ad :: rest)) := va_cald hx hb hK.1 hP q0 1 ha rfl (zin_vp hn h) hdg (by rw [show (zI i).toNatClampNeg = i.toNat from zI_cl h.1 (by have := h.2; omega)]; exact k)
theorem zz_zald (hx : p.tables.exec = Jvm.exec) (hb : c.code = cc) (hK : zK D cy s) (hP : va_P D vwCl w H) (q0 : Nat) {n : Nat} {T : Nat → Int} {i : Int} (ha : w[q0]? = some (ad, .inl (cy 2, n, .inl (fun k => zI (T k))))) (hn : n ≤ 1000) (h : zin i n) (hdg : decode cc pc = .ok (.baload, 1)) (k : W p l e R s m args below meth c H locs cells slots Q (F0 m (pc + 1) ls (.int (zI (T i.toNat)) :: rest))) : W p l e R s m args below meth c H locs cells slots Q (F0 m pc ls (.int (zI i) :: .ref ad :: rest)) := va_zald hx hb hK.1 hP q0 2 ha rfl (zin_vp hn h) hdg (by rw [show (zI i).toNatClampNeg = i.toNat from zI_cl h.1 (by have := h.2; omega)]; exact k)
theorem zz_iast (hx : p.tables.exec = Jvm.exec) (hb : c.code = cc) (hK : zK D cy s) (hP : va_P D vwCl w H) (hD : va_D A w) (hS : va_S A s.heap H locs) (q0 : Nat) {n : Nat} {T : Nat → Int} {i x : Int} (ha : w[q0]? = some (ad, .inl (cy 0, n, .inl (fun k => zI (T k))))) (hn : n ≤ 1000) (h : zin i n) (hdg : decode cc pc = .ok (.iastore, 1)) (kk : ∀ (H1 : Heap) (locs1 : List Loc), va_P D vwCl (w.set q0 (ad, .inl (cy 0, n, .inl (fun k => zI (zup T i x k))))) H1 → va_D A (w.set q0 (ad, .inl (cy 0, n, .inl (fun k => zI (zup T i x k))))) → va_S A s.heap H1 locs1 → W p l e R s m args below meth c H1 locs1 cells slots Q (F0 m (pc + 1) ls rest)) : W p l e R s m args below meth c H locs cells slots Q (F0 m pc ls (.int (zI x) :: .int (zI i) :: .ref ad :: rest)) := by
  refine va_iast hx hb hK.1 hP hD hS q0 0 ha rfl (zin_vp hn h) hdg (fun H1 locs1 hP1 hD1 hS1 => ?_)
  rw [zup_upd hn h] at hP1 hD1
  exact kk H1 locs1 hP1 hD1 hS1
theorem zz_cast (hx : p.tables.exec = Jvm.exec) (hb : c.code = cc) (hK : zK D cy s) (hP : va_P D vwCl w H) (hD : va_D A w) (hS : va_S A s.heap H locs) (q0 : Nat) {n : Nat} {T : Nat → Int} {i x : Int} (ha : w[q0]? = some (ad, .inl (cy 1, n, .inl (fun k => zI (T k))))) (hn : n ≤ 1000) (h : zin i n) (hv : vp_nar .char (zI x) = zI x) (hdg : decode cc pc = .ok (.castore, 1)) (kk : ∀ (H1 : Heap) (locs1 : List Loc), va_P D vwCl (w.set q0 (ad, .inl (cy 1, n, .inl (fun k => zI (zup T i x k))))) H1 → va_D A (w.set q0 (ad, .inl (cy 1, n, .inl (fun k => zI (zup T i x k))))) → va_S A s.heap H1 locs1 → W p l e R s m args below meth c H1 locs1 cells slots Q (F0 m (pc + 1) ls rest)) : W p l e R s m args below meth c H locs cells slots Q (F0 m pc ls (.int (zI x) :: .int (zI i) :: .ref ad :: rest)) := by
  refine va_cast hx hb hK.1 hP hD hS q0 1 ha rfl (zin_vp hn h) hdg (fun H1 locs1 hP1 hD1 hS1 => ?_)
  rw [hv, zup_upd hn h] at hP1 hD1
  exact kk H1 locs1 hP1 hD1 hS1
theorem zz_zast (hx : p.tables.exec = Jvm.exec) (hb : c.code = cc) (hK : zK D cy s) (hP : va_P D vwCl w H) (hD : va_D A w) (hS : va_S A s.heap H locs) (q0 : Nat) {n : Nat} {T : Nat → Int} {i x : Int} (ha : w[q0]? = some (ad, .inl (cy 2, n, .inl (fun k => zI (T k))))) (hn : n ≤ 1000) (h : zin i n) (hv : vp_nar .boolean (zI x) = zI x) (hdg : decode cc pc = .ok (.bastore, 1)) (kk : ∀ (H1 : Heap) (locs1 : List Loc), va_P D vwCl (w.set q0 (ad, .inl (cy 2, n, .inl (fun k => zI (zup T i x k))))) H1 → va_D A (w.set q0 (ad, .inl (cy 2, n, .inl (fun k => zI (zup T i x k))))) → va_S A s.heap H1 locs1 → W p l e R s m args below meth c H1 locs1 cells slots Q (F0 m (pc + 1) ls rest)) : W p l e R s m args below meth c H locs cells slots Q (F0 m pc ls (.int (zI x) :: .int (zI i) :: .ref ad :: rest)) := by
  refine va_zast hx hb hK.1 hP hD hS q0 2 ha rfl (zin_vp hn h) hdg (fun H1 locs1 hP1 hD1 hS1 => ?_)
  rw [hv, zup_upd hn h] at hP1 hD1
  exact kk H1 locs1 hP1 hD1 hS1
theorem zz_aald (hx : p.tables.exec = Jvm.exec) (hb : c.code = cc) (hK : zK D cy s) (hP : va_P D vwCl w H) (q0 t0 : Nat) {n : Nat} {L : List Nat} {i : Int} {a2 : Nat} {cn : String} (ha : w[q0]? = some (ad, .inl (cy t0, n, .inr (.inr (.inr (.inr (zad L))))))) (ht : (zty cy)[t0]? = some (cy t0, .object cn)) (hn : n ≤ 1000) (h : zin i n) (hL : L[i.toNat]? = some a2) (hdg : decode cc pc = .ok (.aaload, 1)) (k : W p l e R s m args below meth c H locs cells slots Q (F0 m (pc + 1) ls (.ref a2 :: rest))) : W p l e R s m args below meth c H locs cells slots Q (F0 m pc ls (.int (zI i) :: .ref ad :: rest)) := va_aldq hx hb hK.1 hP q0 t0 ha ht (zin_vp hn h) hdg (by rw [show (zI i).toNatClampNeg = i.toNat from zI_cl h.1 (by have := h.2; omega)]; rw [show zad L i.toNat = some a2 from hL]; exact k)
theorem zz_max (hx : p.tables.exec = Jvm.exec) (hb : c.code = cc) (hml : c.maxLocals = ls.size) {own : String} {index : Nat} (hown : s.vm.findClass own = some m.cls) (hlink : (Cond.methodLink own index Lib.Math.max.name).before args s = true) (hstat : (Cond.static Lib.Math.max.name).before args s = true) (hini : (Cond.initialized "java/lang/Math").before args s = true) (hcode : (Cond.code Lib.Math.max.name Lib.Math.max.code 2 (some .int)).before args s = true) (hframes : 1 ≤ R.frames) (hlocals : (rest.map fun v => v.category).sum + 13 ≤ R.locals) (hc : cells ≤ R.cells) (hs : slots ≤ R.slots) {a b : Int} (h : zR a ∧ zR b) (hdg : decode cc pc = .ok (.invokestatic index, 3)) (k : W p l e R s m args below meth c H locs cells slots Q (F0 m (pc + 3) ls (.int (zI (max a b)) :: rest))) : W p l e R s m args below meth c H locs cells slots Q (F0 m pc ls (.int (zI b) :: .int (zI a) :: rest)) := by
  refine va_mmax hx hb hml hown hlink hstat hini hcode hframes hlocals hc hs hdg ?_
  have e : (if zI a < zI b then zI b else zI a) = zI (max a b) := by
    by_cases q : a < b
    · rw [if_pos ((zI_lt h.1 h.2).mpr q), Int.max_eq_right (by omega)]
    · rw [if_neg (fun z => q ((zI_lt h.1 h.2).mp z)), Int.max_eq_left (by omega)]
  rw [e]; exact k
theorem zz_min (hx : p.tables.exec = Jvm.exec) (hb : c.code = cc) (hml : c.maxLocals = ls.size) {own : String} {index : Nat} (hown : s.vm.findClass own = some m.cls) (hlink : (Cond.methodLink own index Lib.Math.min.name).before args s = true) (hstat : (Cond.static Lib.Math.min.name).before args s = true) (hini : (Cond.initialized "java/lang/Math").before args s = true) (hcode : (Cond.code Lib.Math.min.name Lib.Math.min.code 2 (some .int)).before args s = true) (hframes : 1 ≤ R.frames) (hlocals : (rest.map fun v => v.category).sum + 13 ≤ R.locals) (hc : cells ≤ R.cells) (hs : slots ≤ R.slots) {a b : Int} (h : zR a ∧ zR b) (hdg : decode cc pc = .ok (.invokestatic index, 3)) (k : W p l e R s m args below meth c H locs cells slots Q (F0 m (pc + 3) ls (.int (zI (min a b)) :: rest))) : W p l e R s m args below meth c H locs cells slots Q (F0 m pc ls (.int (zI b) :: .int (zI a) :: rest)) := by
  refine va_mmin hx hb hml hown hlink hstat hini hcode hframes hlocals hc hs hdg ?_
  have e2 : (if zI b < zI a then zI b else zI a) = zI (min a b) := by
    by_cases q : b < a
    · rw [if_pos ((zI_lt h.2 h.1).mpr q), Int.min_eq_right (by omega)]
    · rw [if_neg (fun z => q ((zI_lt h.2 h.1).mp z)), Int.min_eq_left (by omega)]
  rw [e2]; exact k
theorem zz_abs (hx : p.tables.exec = Jvm.exec) (hb : c.code = cc) (hml : c.maxLocals = ls.size) {own : String} {index : Nat} (hown : s.vm.findClass own = some m.cls) (hlink : (Cond.methodLink own index Lib.Math.abs.name).before args s = true) (hstat : (Cond.static Lib.Math.abs.name).before args s = true) (hini : (Cond.initialized "java/lang/Math").before args s = true) (hcode : (Cond.code Lib.Math.abs.name Lib.Math.abs.code 1 (some .int)).before args s = true) (hframes : 1 ≤ R.frames) (hlocals : (rest.map fun v => v.category).sum + 13 ≤ R.locals) (hc : cells ≤ R.cells) (hs : slots ≤ R.slots) {a : Int} (h : zR a) (hdg : decode cc pc = .ok (.invokestatic index, 3)) (k : W p l e R s m args below meth c H locs cells slots Q (F0 m (pc + 3) ls (.int (zI (zAbs a)) :: rest))) : W p l e R s m args below meth c H locs cells slots Q (F0 m pc ls (.int (zI a) :: rest)) := by
  refine va_mabs hx hb hml hown hlink hstat hini hcode hframes hlocals hc hs hdg ?_
  have e : (if 0 ≤ zI a then zI a else 0 - zI a) = zI (zAbs a) := by
    unfold zAbs
    by_cases q : 0 ≤ a
    · rw [if_pos (by rw [← zI_0]; exact (zI_le zR0 h).mpr q), if_pos q]
    · rw [if_neg (fun z => q ((zI_le zR0 h).mp (by rw [← zI_0] at z; exact z))), if_neg q, ← zI_0, zI_sub]
  rw [e]; exact k
theorem zz_swIn (hx : p.tables.exec = Jvm.exec) (hb : c.code = cc) {dflt lo hi : Int} {offs : Array Int} {len : Nat} {a v off : Int} {tgt : Nat} (hdg : decode cc pc = .ok (.tableswitch dflt lo hi offs, len)) (he : a = v) (hv : zR v ∧ ¬ v < lo ∧ ¬ hi < v) (ho : offs[(v - lo).toNat]? = some off) (ht : (pc : Int) + off = (tgt : Int)) (k : W p l e R s m args below meth c H locs cells slots Q (F0 m tgt ls rest)) : W p l e R s m args below meth c H locs cells slots Q (F0 m pc ls (.int (zI a) :: rest)) := by
  subst he
  refine lv_tableIn hx hb hdg (by rw [zI_toInt hv.1]; exact hv.2.1) (by rw [zI_toInt hv.1]; exact hv.2.2) (by rw [zI_toInt hv.1]; exact ho) ht k
theorem zz_swOut (hx : p.tables.exec = Jvm.exec) (hb : c.code = cc) {dflt lo hi : Int} {offs : Array Int} {len : Nat} {a : Int} {tgt : Nat} (hdg : decode cc pc = .ok (.tableswitch dflt lo hi offs, len)) (hr : zR a) (h : a < lo ∨ hi < a) (ht : (pc : Int) + dflt = (tgt : Int)) (k : W p l e R s m args below meth c H locs cells slots Q (F0 m tgt ls rest)) : W p l e R s m args below meth c H locs cells slots Q (F0 m pc ls (.int (zI a) :: rest)) := by
  refine lv_tableOut hx hb hdg (by rw [zI_toInt hr]; exact h) ht k
end ZI
